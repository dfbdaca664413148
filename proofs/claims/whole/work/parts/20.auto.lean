/-! specs of loop-free methods, by program (tools/spec.py) -/
theorem x_bind {α β : Type} {o : Option α} {v : α} {f : α → Option β} {r : Option β} (h : o = some v) (k : f v = r) : o.bind f = r := by rw [h]; exact k
/-- StickSums end (I)I -/
def f3 (σ : xM) (a1 : Int) : Int := (if a1 < 0 then (-1) else (if a1 ≤ (σ 1 1) then a1 else (-1)))
/-- StickSums end (I)I: the cells behind it -/
def g3 (σ : xM) (a1 : Int) : xM := (if a1 < 0 then σ else (if a1 ≤ (σ 1 1) then (xwr σ 1 1 a1) else σ))
set_option maxHeartbeats 200000 in
theorem s3 {X : Nat × (Nat → Int)} {d : Nat} {a1 : Int} {σ : xM} : Ev X d 3 0 [some (vr 0), some (vi a1)] [] SH σ = some (some (vi (f3 σ a1)), SH, (g3 σ a1)) := by
  refine Eq.trans (b3_0) ?_
  refine x_if (fun c1 => ?_) (fun c1 => ?_)
  · refine Eq.trans (b3_15) ?_
    simp only [f3, g3, if_pos c1]
  · refine Eq.trans (b3_4) ?_
    refine x_if (fun c2 => ?_) (fun c2 => ?_)
    · refine Eq.trans (b3_17) ?_
      simp only [f3, g3, if_neg c1, if_pos c2]
    · refine Eq.trans (b3_15) ?_
      simp only [f3, g3, if_neg c1, if_neg c2]

/-- StickSums fault (I)I -/
def f11 (σ : xM) (a1 : Int) : Int := (if a1 ≠ 0 then (if a1 ≠ 1 then (-1) else (σ 1 3)) else (σ 1 2))
set_option maxHeartbeats 200000 in
theorem s11 {X : Nat × (Nat → Int)} {d : Nat} {a1 : Int} {σ : xM} : Ev X d 11 0 [some (vr 0), some (vi a1)] [] SH σ = some (some (vi (f11 σ a1)), SH, σ) := by
  refine Eq.trans (b11_0) ?_
  refine x_if (fun c1 => ?_) (fun c1 => ?_)
  · refine Eq.trans (b11_12) ?_
    refine x_if (fun c2 => ?_) (fun c2 => ?_)
    · refine Eq.trans (b11_27) ?_
      refine Eq.trans (b11_28) ?_
      simp only [f11, if_pos c1, if_pos c2]
    · refine Eq.trans (b11_17) ?_
      refine Eq.trans (b11_28) ?_
      simp only [f11, if_pos c1, if_neg c2]
  · refine Eq.trans (b11_4) ?_
    simp only [f11, if_neg c1]

/-- StickSums canBeBy (II)Z -/
def f20 (σ : xM) (a0 : Int) (a1 : Int) : Int := (if a0 < 0 then 0 else (if 3 < a0 then 0 else (if a1 < 0 then 0 else (if 3 < a1 then 0 else 1))))
set_option maxHeartbeats 200000 in
theorem s20 {X : Nat × (Nat → Int)} {d : Nat} {a0 : Int} {a1 : Int} {σ : xM} : Ev X d 20 0 [some (vi a0), some (vi a1)] [] SH σ = some (some (vi (f20 σ a0 a1)), SH, σ) := by
  refine Eq.trans (b20_0) ?_
  refine x_if (fun c1 => ?_) (fun c1 => ?_)
  · refine Eq.trans (b20_22) ?_
    refine Eq.trans (b20_23 (by first | omega | (simp (disch := omega) only [xadd_eq, xsub_eq, xmul_eq] <;> omega))) ?_
    simp only [f20, if_pos c1]
  · refine Eq.trans (b20_4) ?_
    refine x_if (fun c2 => ?_) (fun c2 => ?_)
    · refine Eq.trans (b20_22) ?_
      refine Eq.trans (b20_23 (by first | omega | (simp (disch := omega) only [xadd_eq, xsub_eq, xmul_eq] <;> omega))) ?_
      simp only [f20, if_neg c1, if_pos c2]
    · refine Eq.trans (b20_9) ?_
      refine x_if (fun c3 => ?_) (fun c3 => ?_)
      · refine Eq.trans (b20_22) ?_
        refine Eq.trans (b20_23 (by first | omega | (simp (disch := omega) only [xadd_eq, xsub_eq, xmul_eq] <;> omega))) ?_
        simp only [f20, if_neg c1, if_neg c2, if_pos c3]
      · refine Eq.trans (b20_13) ?_
        refine x_if (fun c4 => ?_) (fun c4 => ?_)
        · refine Eq.trans (b20_22) ?_
          refine Eq.trans (b20_23 (by first | omega | (simp (disch := omega) only [xadd_eq, xsub_eq, xmul_eq] <;> omega))) ?_
          simp only [f20, if_neg c1, if_neg c2, if_neg c3, if_pos c4]
        · refine Eq.trans (b20_18) ?_
          refine Eq.trans (b20_23 (by first | omega | (simp (disch := omega) only [xadd_eq, xsub_eq, xmul_eq] <;> omega))) ?_
          simp only [f20, if_neg c1, if_neg c2, if_neg c3, if_neg c4]
theorem z20 {σ : xM} {a0 : Int} {a1 : Int} : f20 σ a0 a1 = 0 ∨ f20 σ a0 a1 = 1 := by
  unfold f20
  (repeat' split) <;> first | exact Or.inl rfl | exact Or.inr rfl

/-- StickSums$Acts clear ()V: the cells behind it -/
def g53 (σ : xM)  : xM := (xwr (xwr σ 47 1 0) 47 2 0)
set_option maxHeartbeats 200000 in
theorem s53 {X : Nat × (Nat → Int)} {d : Nat}  {σ : xM} : Ev X d 53 0 [some (vr 47)] [] SH σ = some (none, SH, (g53 σ )) := by
  refine Eq.trans (b53_0) ?_
  rfl

/-- StickSums$Acts stepBack ()I -/
def f55 (σ : xM)  : Int := (if (σ 47 1) ≤ 0 then (-1) else (if (σ 47 1) ≤ 100 then (σ 48 ((xsub (σ 47 1) 1)).toNat) else (-1)))
/-- StickSums$Acts stepBack ()I: the cells behind it -/
def g55 (σ : xM)  : xM := (if (σ 47 1) ≤ 0 then σ else (if (σ 47 1) ≤ 100 then (xwr σ 47 1 (xsub (σ 47 1) 1)) else σ))
set_option maxHeartbeats 200000 in
theorem s55 {X : Nat × (Nat → Int)} {d : Nat}  {σ : xM} : Ev X d 55 0 [some (vr 47)] [] SH σ = some (some (vi (f55 σ )), SH, (g55 σ )) := by
  refine Eq.trans (b55_0) ?_
  refine x_if (fun c1 => ?_) (fun c1 => ?_)
  · refine Eq.trans (b55_16) ?_
    simp only [f55, g55, if_pos c1]
  · refine Eq.trans (b55_7) ?_
    refine x_if (fun c2 => ?_) (fun c2 => ?_)
    · refine Eq.trans (b55_18 (by first | omega | (simp (disch := omega) only [xadd_eq, xsub_eq, xmul_eq] <;> omega) | exact z20)) ?_
      simp only [f55, g55, if_neg c1, if_pos c2]
    · refine Eq.trans (b55_16) ?_
      simp only [f55, g55, if_neg c1, if_neg c2]

/-- StickSums$Acts cellOf (I)I -/
def f56 (σ : xM) (a0 : Int) : Int := (xshr a0 3)
set_option maxHeartbeats 200000 in
theorem s56 {X : Nat × (Nat → Int)} {d : Nat} {a0 : Int} {σ : xM} : Ev X d 56 0 [some (vi a0)] [] SH σ = some (some (vi (f56 σ a0)), SH, σ) := by
  refine Eq.trans (b56_0) ?_
  rfl

/-- StickSums$Acts placeOf (I)I -/
def f57 (σ : xM) (a0 : Int) : Int := (xand a0 7)
set_option maxHeartbeats 200000 in
theorem s57 {X : Nat × (Nat → Int)} {d : Nat} {a0 : Int} {σ : xM} : Ev X d 57 0 [some (vi a0)] [] SH σ = some (some (vi (f57 σ a0)), SH, σ) := by
  refine Eq.trans (b57_0) ?_
  rfl

/-- StickSums$Acts stepOn ()I -/
def f58 (σ : xM)  : Int := (if (σ 47 2) ≤ (σ 47 1) then (-1) else (if (σ 47 1) < 100 then (σ 48 ((xsub (xadd (σ 47 1) 1) 1)).toNat) else (-1)))
/-- StickSums$Acts stepOn ()I: the cells behind it -/
def g58 (σ : xM)  : xM := (if (σ 47 2) ≤ (σ 47 1) then σ else (if (σ 47 1) < 100 then (xwr σ 47 1 (xadd (σ 47 1) 1)) else σ))
set_option maxHeartbeats 200000 in
theorem s58 {X : Nat × (Nat → Int)} {d : Nat}  {σ : xM} (h0 : 0 ≤ σ 47 1) : Ev X d 58 0 [some (vr 47)] [] SH σ = some (some (vi (f58 σ )), SH, (g58 σ )) := by
  refine Eq.trans (b58_0) ?_
  refine x_if (fun c1 => ?_) (fun c1 => ?_)
  · refine Eq.trans (b58_20) ?_
    simp only [f58, g58, if_pos c1]
  · refine Eq.trans (b58_11) ?_
    refine x_if (fun c2 => ?_) (fun c2 => ?_)
    · refine Eq.trans (b58_22 (by first | omega | (simp (disch := omega) only [xadd_eq, xsub_eq, xmul_eq] <;> omega) | exact z20)) ?_
      simp only [f58, g58, if_neg c1, if_pos c2]
    · refine Eq.trans (b58_20) ?_
      simp only [f58, g58, if_neg c1, if_neg c2]

/-- StickSums$Forms enlist (II)V: the cells behind it -/
def g61 (σ : xM) (a1 : Int) (a2 : Int) : xM := (if a2 ≤ 0 then σ else (if 128 ≤ a2 then σ else (if 20 ≤ (σ 3 5) then σ else (xwr (xwr (xwr (xwr σ 6 ((σ 3 5)).toNat a2) 7 ((σ 3 5)).toNat a1) 8 (a2).toNat (σ 3 5)) 3 5 (xadd (σ 3 5) 1)))))
set_option maxHeartbeats 200000 in
theorem s61 {X : Nat × (Nat → Int)} {d : Nat} {a1 : Int} {a2 : Int} {σ : xM} (h0 : 0 ≤ σ 3 5) : Ev X d 61 0 [some (vr 3), some (vi a1), some (vi a2)] [] SH σ = some (none, SH, (g61 σ a1 a2)) := by
  refine Eq.trans (b61_0) ?_
  refine x_if (fun c1 => ?_) (fun c1 => ?_)
  · refine Eq.trans (b61_60) ?_
    simp only [g61, if_pos c1]
  · refine Eq.trans (b61_4) ?_
    refine x_if (fun c2 => ?_) (fun c2 => ?_)
    · refine Eq.trans (b61_60) ?_
      simp only [g61, if_neg c1, if_pos c2]
    · refine Eq.trans (b61_11) ?_
      refine x_if (fun c3 => ?_) (fun c3 => ?_)
      · refine Eq.trans (b61_60) ?_
        simp only [g61, if_neg c1, if_neg c2, if_pos c3]
      · refine Eq.trans (b61_20 (by first | omega | (simp (disch := omega) only [xadd_eq, xsub_eq, xmul_eq] <;> omega) | exact z20) (by first | omega | (simp (disch := omega) only [xadd_eq, xsub_eq, xmul_eq] <;> omega) | exact z20)) ?_
        refine Eq.trans (b61_60) ?_
        simp only [g61, if_neg c1, if_neg c2, if_neg c3]

/-- StickSums$Forms canTake (II)Z -/
def f63 (σ : xM) (a0 : Int) (a1 : Int) : Int := (if a1 = a0 then 0 else (if (xand a1 (xxor a0 (-1))) ≠ 0 then 0 else 1))
set_option maxHeartbeats 200000 in
theorem s63 {X : Nat × (Nat → Int)} {d : Nat} {a0 : Int} {a1 : Int} {σ : xM} : Ev X d 63 0 [some (vi a0), some (vi a1)] [] SH σ = some (some (vi (f63 σ a0 a1)), SH, σ) := by
  refine Eq.trans (b63_0) ?_
  refine x_if (fun c1 => ?_) (fun c1 => ?_)
  · refine Eq.trans (b63_17) ?_
    refine Eq.trans (b63_18 (by first | omega | (simp (disch := omega) only [xadd_eq, xsub_eq, xmul_eq] <;> omega) | exact z20)) ?_
    simp only [f63, if_pos c1]
  · refine Eq.trans (b63_5) ?_
    refine x_if (fun c2 => ?_) (fun c2 => ?_)
    · refine Eq.trans (b63_17) ?_
      refine Eq.trans (b63_18 (by first | omega | (simp (disch := omega) only [xadd_eq, xsub_eq, xmul_eq] <;> omega) | exact z20)) ?_
      simp only [f63, if_neg c1, if_pos c2]
    · refine Eq.trans (b63_13) ?_
      refine Eq.trans (b63_18 (by first | omega | (simp (disch := omega) only [xadd_eq, xsub_eq, xmul_eq] <;> omega) | exact z20)) ?_
      simp only [f63, if_neg c1, if_neg c2]
theorem z63 {σ : xM} {a0 : Int} {a1 : Int} : f63 σ a0 a1 = 0 ∨ f63 σ a0 a1 = 1 := by
  unfold f63
  (repeat' split) <;> first | exact Or.inl rfl | exact Or.inr rfl | exact z20

/-- StickSums$Forms grundyOf (I)I -/
def f64 (σ : xM) (a1 : Int) : Int := (if a1 < 0 then 0 else (if 128 ≤ a1 then 0 else (σ 9 (a1).toNat)))
set_option maxHeartbeats 200000 in
theorem s64 {X : Nat × (Nat → Int)} {d : Nat} {a1 : Int} {σ : xM} : Ev X d 64 0 [some (vr 3), some (vi a1)] [] SH σ = some (some (vi (f64 σ a1)), SH, σ) := by
  refine Eq.trans (b64_0) ?_
  refine x_if (fun c1 => ?_) (fun c1 => ?_)
  · refine Eq.trans (b64_20) ?_
    refine Eq.trans (b64_21) ?_
    simp only [f64, if_pos c1]
  · refine Eq.trans (b64_4) ?_
    refine x_if (fun c2 => ?_) (fun c2 => ?_)
    · refine Eq.trans (b64_20) ?_
      refine Eq.trans (b64_21) ?_
      simp only [f64, if_neg c1, if_pos c2]
    · refine Eq.trans (b64_11 (by first | omega | (simp (disch := omega) only [xadd_eq, xsub_eq, xmul_eq] <;> omega) | exact z20 | exact z63)) ?_
      refine Eq.trans (b64_21) ?_
      simp only [f64, if_neg c1, if_neg c2]

/-- StickSums$Forms wayOf (II)I -/
def f70 (σ : xM) (a1 : Int) (a2 : Int) : Int := (if a1 < 0 then (-1) else (if 9 < a1 then (-1) else (if a2 < 0 then (-1) else (if 1 < a2 then (-1) else (if (σ 4 ((xadd (xmul 2 a1) a2)).toNat) ≠ 0 then (σ 4 ((xadd (xmul 2 a1) a2)).toNat) else (-1))))))
set_option maxHeartbeats 200000 in
theorem s70 {X : Nat × (Nat → Int)} {d : Nat} {a1 : Int} {a2 : Int} {σ : xM} : Ev X d 70 0 [some (vr 3), some (vi a1), some (vi a2)] [] SH σ = some (some (vi (f70 σ a1 a2)), SH, σ) := by
  refine Eq.trans (b70_0) ?_
  refine x_if (fun c1 => ?_) (fun c1 => ?_)
  · refine Eq.trans (b70_32) ?_
    simp only [f70, if_pos c1]
  · refine Eq.trans (b70_4) ?_
    refine x_if (fun c2 => ?_) (fun c2 => ?_)
    · refine Eq.trans (b70_32) ?_
      simp only [f70, if_neg c1, if_pos c2]
    · refine Eq.trans (b70_10) ?_
      refine x_if (fun c3 => ?_) (fun c3 => ?_)
      · refine Eq.trans (b70_32) ?_
        simp only [f70, if_neg c1, if_neg c2, if_pos c3]
      · refine Eq.trans (b70_14) ?_
        refine x_if (fun c4 => ?_) (fun c4 => ?_)
        · refine Eq.trans (b70_32) ?_
          simp only [f70, if_neg c1, if_neg c2, if_neg c3, if_pos c4]
        · refine Eq.trans (b70_19 (by first | omega | (simp (disch := omega) only [xadd_eq, xsub_eq, xmul_eq] <;> omega) | exact z20 | exact z63)) ?_
          refine x_if (fun c5 => ?_) (fun c5 => ?_)
          · refine Eq.trans (b70_34 (by first | omega | (simp (disch := omega) only [xadd_eq, xsub_eq, xmul_eq] <;> omega) | exact z20 | exact z63)) ?_
            simp only [f70, if_neg c1, if_neg c2, if_neg c3, if_neg c4, if_pos c5]
          · refine Eq.trans (b70_32) ?_
            simp only [f70, if_neg c1, if_neg c2, if_neg c3, if_neg c4, if_neg c5]

/-- StickSums$Forms choices (Z)I -/
def f72 (σ : xM) (a1 : Int) : Int := (if a1 = 0 then 5 else (σ 3 5))
set_option maxHeartbeats 200000 in
theorem s72 {X : Nat × (Nat → Int)} {d : Nat} {a1 : Int} {σ : xM} : Ev X d 72 0 [some (vr 3), some (vi a1)] [] SH σ = some (some (vi (f72 σ a1)), SH, σ) := by
  refine Eq.trans (b72_0) ?_
  refine x_if (fun c1 => ?_) (fun c1 => ?_)
  · refine Eq.trans (b72_11) ?_
    refine Eq.trans (b72_12) ?_
    simp only [f72, if_pos c1]
  · refine Eq.trans (b72_4) ?_
    refine Eq.trans (b72_12) ?_
    simp only [f72, if_neg c1]

/-- StickSums$Law push (J)V: the cells behind it -/
def g88 (σ : xM) (a1 : Int) : xM := (if 64 ≤ (σ 10 8) then σ else (xwr (xwr σ 13 ((σ 10 8)).toNat a1) 10 8 (xadd (σ 10 8) 1)))
set_option maxHeartbeats 200000 in
theorem s88 {X : Nat × (Nat → Int)} {d : Nat} {a1 : Int} {σ : xM} (h0 : 0 ≤ σ 10 8) : Ev X d 88 0 [some (vr 10), some (vl a1), none] [] SH σ = some (none, SH, (g88 σ a1)) := by
  refine Eq.trans (b88_0) ?_
  refine x_if (fun c1 => ?_) (fun c1 => ?_)
  · refine Eq.trans (b88_29) ?_
    simp only [g88, if_pos c1]
  · refine Eq.trans (b88_9 (by first | omega | (simp (disch := omega) only [xadd_eq, xsub_eq, xmul_eq] <;> omega) | exact z20 | exact z63)) ?_
    refine Eq.trans (b88_29) ?_
    simp only [g88, if_neg c1]

/-- StickSums$Law pop ()J -/
def f89 (σ : xM)  : Int := (if 0 < (σ 10 8) then (σ 13 ((xsub (σ 10 8) 1)).toNat) else 0)
/-- StickSums$Law pop ()J: the cells behind it -/
def g89 (σ : xM)  : xM := (if 0 < (σ 10 8) then (xwr σ 10 8 (xsub (σ 10 8) 1)) else σ)
set_option maxHeartbeats 200000 in
theorem s89 {X : Nat × (Nat → Int)} {d : Nat}  {σ : xM} (h0 : σ 10 8 ≤ 64) : Ev X d 89 0 [some (vr 10)] [] SH σ = some (some (vl (f89 σ )), SH, (g89 σ )) := by
  refine Eq.trans (b89_0) ?_
  refine x_if (fun c1 => ?_) (fun c1 => ?_)
  · refine Eq.trans (b89_9 (by first | omega | (simp (disch := omega) only [xadd_eq, xsub_eq, xmul_eq] <;> omega) | exact z20 | exact z63)) ?_
    simp only [f89, g89, if_pos c1]
  · refine Eq.trans (b89_7) ?_
    simp only [f89, g89, if_neg c1]

/-- StickSums$Lists forget ()V: the cells behind it -/
def g92 (σ : xM)  : xM := (xwr (xwr σ 49 3 (-1)) 49 7 0)
set_option maxHeartbeats 200000 in
theorem s92 {X : Nat × (Nat → Int)} {d : Nat}  {σ : xM} : Ev X d 92 0 [some (vr 49)] [] SH σ = some (none, SH, (g92 σ )) := by
  refine Eq.trans (b92_0) ?_
  rfl

/-- StickSums$Lists isKnown (III)Z -/
def f94 (σ : xM) (a1 : Int) (a2 : Int) (a3 : Int) : Int := (if (σ 49 3) ≠ a1 then 0 else (if (σ 49 4) ≠ a2 then 0 else (if (σ 49 5) ≠ a3 then 0 else 1)))
set_option maxHeartbeats 200000 in
theorem s94 {X : Nat × (Nat → Int)} {d : Nat} {a1 : Int} {a2 : Int} {a3 : Int} {σ : xM} : Ev X d 94 0 [some (vr 49), some (vi a1), some (vi a2), some (vi a3)] [] SH σ = some (some (vi (f94 σ a1 a2 a3)), SH, σ) := by
  refine Eq.trans (b94_0) ?_
  refine x_if (fun c1 => ?_) (fun c1 => ?_)
  · refine Eq.trans (b94_28) ?_
    refine Eq.trans (b94_29 (by first | omega | (simp (disch := omega) only [xadd_eq, xsub_eq, xmul_eq] <;> omega) | (simp (disch := omega) only [xadd_eq, xsub_eq] at *; omega) | (simp [g92, xwr] <;> omega) | exact z20 | exact z63)) ?_
    simp only [f94, if_pos c1]
  · refine Eq.trans (b94_8) ?_
    refine x_if (fun c2 => ?_) (fun c2 => ?_)
    · refine Eq.trans (b94_28) ?_
      refine Eq.trans (b94_29 (by first | omega | (simp (disch := omega) only [xadd_eq, xsub_eq, xmul_eq] <;> omega) | (simp (disch := omega) only [xadd_eq, xsub_eq] at *; omega) | (simp [g92, xwr] <;> omega) | exact z20 | exact z63)) ?_
      simp only [f94, if_neg c1, if_pos c2]
    · refine Eq.trans (b94_16) ?_
      refine x_if (fun c3 => ?_) (fun c3 => ?_)
      · refine Eq.trans (b94_28) ?_
        refine Eq.trans (b94_29 (by first | omega | (simp (disch := omega) only [xadd_eq, xsub_eq, xmul_eq] <;> omega) | (simp (disch := omega) only [xadd_eq, xsub_eq] at *; omega) | (simp [g92, xwr] <;> omega) | exact z20 | exact z63)) ?_
        simp only [f94, if_neg c1, if_neg c2, if_pos c3]
      · refine Eq.trans (b94_24) ?_
        refine Eq.trans (b94_29 (by first | omega | (simp (disch := omega) only [xadd_eq, xsub_eq, xmul_eq] <;> omega) | (simp (disch := omega) only [xadd_eq, xsub_eq] at *; omega) | (simp [g92, xwr] <;> omega) | exact z20 | exact z63)) ?_
        simp only [f94, if_neg c1, if_neg c2, if_neg c3]
theorem z94 {σ : xM} {a1 : Int} {a2 : Int} {a3 : Int} : f94 σ a1 a2 a3 = 0 ∨ f94 σ a1 a2 a3 = 1 := by
  unfold f94
  (repeat' split) <;> first | exact Or.inl rfl | exact Or.inr rfl | exact z20 | exact z63

/-- StickSums$Net forget ()V: the cells behind it -/
def g102 (σ : xM)  : xM := (xwr (xwr σ 70 6 0) 70 9 (-1))
set_option maxHeartbeats 200000 in
theorem s102 {X : Nat × (Nat → Int)} {d : Nat}  {σ : xM} : Ev X d 102 0 [some (vr 70)] [] SH σ = some (none, SH, (g102 σ )) := by
  refine Eq.trans (b102_0) ?_
  rfl

/-- StickSums$Numerals canLay (II)Z -/
def f111 (σ : xM) (a0 : Int) (a1 : Int) : Int := (if a0 < 1 then 0 else (if 35 < a0 then 0 else (if a1 < 1 then 0 else (if 5 < a1 then 0 else 1))))
set_option maxHeartbeats 200000 in
theorem s111 {X : Nat × (Nat → Int)} {d : Nat} {a0 : Int} {a1 : Int} {σ : xM} : Ev X d 111 0 [some (vi a0), some (vi a1)] [] SH σ = some (some (vi (f111 σ a0 a1)), SH, σ) := by
  refine Eq.trans (b111_0) ?_
  refine x_if (fun c1 => ?_) (fun c1 => ?_)
  · refine Eq.trans (b111_25) ?_
    refine Eq.trans (b111_26 (by first | omega | (simp (disch := omega) only [xadd_eq, xsub_eq, xmul_eq] <;> omega) | (simp (disch := omega) only [xadd_eq, xsub_eq] at *; omega) | (simp [g92, xwr] <;> omega) | exact z20 | exact z63 | exact z94)) ?_
    simp only [f111, if_pos c1]
  · refine Eq.trans (b111_5) ?_
    refine x_if (fun c2 => ?_) (fun c2 => ?_)
    · refine Eq.trans (b111_25) ?_
      refine Eq.trans (b111_26 (by first | omega | (simp (disch := omega) only [xadd_eq, xsub_eq, xmul_eq] <;> omega) | (simp (disch := omega) only [xadd_eq, xsub_eq] at *; omega) | (simp [g92, xwr] <;> omega) | exact z20 | exact z63 | exact z94)) ?_
      simp only [f111, if_neg c1, if_pos c2]
    · refine Eq.trans (b111_11) ?_
      refine x_if (fun c3 => ?_) (fun c3 => ?_)
      · refine Eq.trans (b111_25) ?_
        refine Eq.trans (b111_26 (by first | omega | (simp (disch := omega) only [xadd_eq, xsub_eq, xmul_eq] <;> omega) | (simp (disch := omega) only [xadd_eq, xsub_eq] at *; omega) | (simp [g92, xwr] <;> omega) | exact z20 | exact z63 | exact z94)) ?_
        simp only [f111, if_neg c1, if_neg c2, if_pos c3]
      · refine Eq.trans (b111_16) ?_
        refine x_if (fun c4 => ?_) (fun c4 => ?_)
        · refine Eq.trans (b111_25) ?_
          refine Eq.trans (b111_26 (by first | omega | (simp (disch := omega) only [xadd_eq, xsub_eq, xmul_eq] <;> omega) | (simp (disch := omega) only [xadd_eq, xsub_eq] at *; omega) | (simp [g92, xwr] <;> omega) | exact z20 | exact z63 | exact z94)) ?_
          simp only [f111, if_neg c1, if_neg c2, if_neg c3, if_pos c4]
        · refine Eq.trans (b111_21) ?_
          refine Eq.trans (b111_26 (by first | omega | (simp (disch := omega) only [xadd_eq, xsub_eq, xmul_eq] <;> omega) | (simp (disch := omega) only [xadd_eq, xsub_eq] at *; omega) | (simp [g92, xwr] <;> omega) | exact z20 | exact z63 | exact z94)) ?_
          simp only [f111, if_neg c1, if_neg c2, if_neg c3, if_neg c4]
theorem z111 {σ : xM} {a0 : Int} {a1 : Int} : f111 σ a0 a1 = 0 ∨ f111 σ a0 a1 = 1 := by
  unfold f111
  (repeat' split) <;> first | exact Or.inl rfl | exact Or.inr rfl | exact z20 | exact z63 | exact z94

/-- StickSums$Numerals canEnd (JI)Z -/
def f115 (σ : xM) (a1 : Int) (a3 : Int) : Int := (if a3 < 0 then 0 else (if 5 < a3 then 0 else (if (lcmp' (land' a1 (σ 97 (a3).toNat)) 0) = 0 then 0 else 1)))
set_option maxHeartbeats 200000 in
theorem s115 {X : Nat × (Nat → Int)} {d : Nat} {a1 : Int} {a3 : Int} {σ : xM} : Ev X d 115 0 [some (vr 96), some (vl a1), none, some (vi a3)] [] SH σ = some (some (vi (f115 σ a1 a3)), SH, σ) := by
  refine Eq.trans (b115_0) ?_
  refine x_if (fun c1 => ?_) (fun c1 => ?_)
  · refine Eq.trans (b115_26) ?_
    refine Eq.trans (b115_27 (by first | omega | (simp (disch := omega) only [xadd_eq, xsub_eq, xmul_eq] <;> omega) | (simp (disch := omega) only [xadd_eq, xsub_eq] at *; omega) | (simp [g92, xwr] <;> omega) | exact z20 | exact z63 | exact z94 | exact z111)) ?_
    simp only [f115, if_pos c1]
  · refine Eq.trans (b115_4) ?_
    refine x_if (fun c2 => ?_) (fun c2 => ?_)
    · refine Eq.trans (b115_26) ?_
      refine Eq.trans (b115_27 (by first | omega | (simp (disch := omega) only [xadd_eq, xsub_eq, xmul_eq] <;> omega) | (simp (disch := omega) only [xadd_eq, xsub_eq] at *; omega) | (simp [g92, xwr] <;> omega) | exact z20 | exact z63 | exact z94 | exact z111)) ?_
      simp only [f115, if_neg c1, if_pos c2]
    · refine Eq.trans (b115_9 (by first | omega | (simp (disch := omega) only [xadd_eq, xsub_eq, xmul_eq] <;> omega) | (simp (disch := omega) only [xadd_eq, xsub_eq] at *; omega) | (simp [g92, xwr] <;> omega) | exact z20 | exact z63 | exact z94 | exact z111)) ?_
      refine x_if (fun c3 => ?_) (fun c3 => ?_)
      · refine Eq.trans (b115_26) ?_
        refine Eq.trans (b115_27 (by first | omega | (simp (disch := omega) only [xadd_eq, xsub_eq, xmul_eq] <;> omega) | (simp (disch := omega) only [xadd_eq, xsub_eq] at *; omega) | (simp [g92, xwr] <;> omega) | exact z20 | exact z63 | exact z94 | exact z111)) ?_
        simp only [f115, if_neg c1, if_neg c2, if_pos c3]
      · refine Eq.trans (b115_22) ?_
        refine Eq.trans (b115_27 (by first | omega | (simp (disch := omega) only [xadd_eq, xsub_eq, xmul_eq] <;> omega) | (simp (disch := omega) only [xadd_eq, xsub_eq] at *; omega) | (simp [g92, xwr] <;> omega) | exact z20 | exact z63 | exact z94 | exact z111)) ?_
        simp only [f115, if_neg c1, if_neg c2, if_neg c3]
theorem z115 {σ : xM} {a1 : Int} {a3 : Int} : f115 σ a1 a3 = 0 ∨ f115 σ a1 a3 = 1 := by
  unfold f115
  (repeat' split) <;> first | exact Or.inl rfl | exact Or.inr rfl | exact z20 | exact z63 | exact z94 | exact z111

/-- StickSums$Reading goOnByDigit (II)Z -/
def f123 (σ : xM) (k : Nat) (a1 : Int) (a2 : Int) : Int := (if 4 ≤ (σ (k + 7) (a1).toNat) then 0 else (if (σ (k + 7) (a1).toNat) ≤ 0 then 1 else (if (σ (k + 6) (a1).toNat) ≠ 0 then 1 else 0)))
/-- StickSums$Reading goOnByDigit (II)Z: the cells behind it -/
def g123 (σ : xM) (k : Nat) (a1 : Int) (a2 : Int) : xM := (if 4 ≤ (σ (k + 7) (a1).toNat) then σ else (if (σ (k + 7) (a1).toNat) ≤ 0 then (xwr (xwr (xwr (xwr (xwr (xwr (xwr (xwr σ (k + 1) ((xadd a1 1)).toNat (σ (k + 1) (a1).toNat)) (k + 2) ((xadd a1 1)).toNat ((xwr σ (k + 1) ((xadd a1 1)).toNat (σ (k + 1) (a1).toNat)) (k + 2) (a1).toNat)) (k + 3) ((xadd a1 1)).toNat ((xwr (xwr σ (k + 1) ((xadd a1 1)).toNat (σ (k + 1) (a1).toNat)) (k + 2) ((xadd a1 1)).toNat ((xwr σ (k + 1) ((xadd a1 1)).toNat (σ (k + 1) (a1).toNat)) (k + 2) (a1).toNat)) (k + 3) (a1).toNat)) (k + 4) ((xadd a1 1)).toNat ((xwr (xwr (xwr σ (k + 1) ((xadd a1 1)).toNat (σ (k + 1) (a1).toNat)) (k + 2) ((xadd a1 1)).toNat ((xwr σ (k + 1) ((xadd a1 1)).toNat (σ (k + 1) (a1).toNat)) (k + 2) (a1).toNat)) (k + 3) ((xadd a1 1)).toNat ((xwr (xwr σ (k + 1) ((xadd a1 1)).toNat (σ (k + 1) (a1).toNat)) (k + 2) ((xadd a1 1)).toNat ((xwr σ (k + 1) ((xadd a1 1)).toNat (σ (k + 1) (a1).toNat)) (k + 2) (a1).toNat)) (k + 3) (a1).toNat)) (k + 4) (a1).toNat)) (k + 5) ((xadd a1 1)).toNat ((xwr (xwr (xwr (xwr σ (k + 1) ((xadd a1 1)).toNat (σ (k + 1) (a1).toNat)) (k + 2) ((xadd a1 1)).toNat ((xwr σ (k + 1) ((xadd a1 1)).toNat (σ (k + 1) (a1).toNat)) (k + 2) (a1).toNat)) (k + 3) ((xadd a1 1)).toNat ((xwr (xwr σ (k + 1) ((xadd a1 1)).toNat (σ (k + 1) (a1).toNat)) (k + 2) ((xadd a1 1)).toNat ((xwr σ (k + 1) ((xadd a1 1)).toNat (σ (k + 1) (a1).toNat)) (k + 2) (a1).toNat)) (k + 3) (a1).toNat)) (k + 4) ((xadd a1 1)).toNat ((xwr (xwr (xwr σ (k + 1) ((xadd a1 1)).toNat (σ (k + 1) (a1).toNat)) (k + 2) ((xadd a1 1)).toNat ((xwr σ (k + 1) ((xadd a1 1)).toNat (σ (k + 1) (a1).toNat)) (k + 2) (a1).toNat)) (k + 3) ((xadd a1 1)).toNat ((xwr (xwr σ (k + 1) ((xadd a1 1)).toNat (σ (k + 1) (a1).toNat)) (k + 2) ((xadd a1 1)).toNat ((xwr σ (k + 1) ((xadd a1 1)).toNat (σ (k + 1) (a1).toNat)) (k + 2) (a1).toNat)) (k + 3) (a1).toNat)) (k + 4) (a1).toNat)) (k + 5) (a1).toNat)) (k + 6) ((xadd a1 1)).toNat (xadd (xmul ((xwr (xwr (xwr (xwr (xwr σ (k + 1) ((xadd a1 1)).toNat (σ (k + 1) (a1).toNat)) (k + 2) ((xadd a1 1)).toNat ((xwr σ (k + 1) ((xadd a1 1)).toNat (σ (k + 1) (a1).toNat)) (k + 2) (a1).toNat)) (k + 3) ((xadd a1 1)).toNat ((xwr (xwr σ (k + 1) ((xadd a1 1)).toNat (σ (k + 1) (a1).toNat)) (k + 2) ((xadd a1 1)).toNat ((xwr σ (k + 1) ((xadd a1 1)).toNat (σ (k + 1) (a1).toNat)) (k + 2) (a1).toNat)) (k + 3) (a1).toNat)) (k + 4) ((xadd a1 1)).toNat ((xwr (xwr (xwr σ (k + 1) ((xadd a1 1)).toNat (σ (k + 1) (a1).toNat)) (k + 2) ((xadd a1 1)).toNat ((xwr σ (k + 1) ((xadd a1 1)).toNat (σ (k + 1) (a1).toNat)) (k + 2) (a1).toNat)) (k + 3) ((xadd a1 1)).toNat ((xwr (xwr σ (k + 1) ((xadd a1 1)).toNat (σ (k + 1) (a1).toNat)) (k + 2) ((xadd a1 1)).toNat ((xwr σ (k + 1) ((xadd a1 1)).toNat (σ (k + 1) (a1).toNat)) (k + 2) (a1).toNat)) (k + 3) (a1).toNat)) (k + 4) (a1).toNat)) (k + 5) ((xadd a1 1)).toNat ((xwr (xwr (xwr (xwr σ (k + 1) ((xadd a1 1)).toNat (σ (k + 1) (a1).toNat)) (k + 2) ((xadd a1 1)).toNat ((xwr σ (k + 1) ((xadd a1 1)).toNat (σ (k + 1) (a1).toNat)) (k + 2) (a1).toNat)) (k + 3) ((xadd a1 1)).toNat ((xwr (xwr σ (k + 1) ((xadd a1 1)).toNat (σ (k + 1) (a1).toNat)) (k + 2) ((xadd a1 1)).toNat ((xwr σ (k + 1) ((xadd a1 1)).toNat (σ (k + 1) (a1).toNat)) (k + 2) (a1).toNat)) (k + 3) (a1).toNat)) (k + 4) ((xadd a1 1)).toNat ((xwr (xwr (xwr σ (k + 1) ((xadd a1 1)).toNat (σ (k + 1) (a1).toNat)) (k + 2) ((xadd a1 1)).toNat ((xwr σ (k + 1) ((xadd a1 1)).toNat (σ (k + 1) (a1).toNat)) (k + 2) (a1).toNat)) (k + 3) ((xadd a1 1)).toNat ((xwr (xwr σ (k + 1) ((xadd a1 1)).toNat (σ (k + 1) (a1).toNat)) (k + 2) ((xadd a1 1)).toNat ((xwr σ (k + 1) ((xadd a1 1)).toNat (σ (k + 1) (a1).toNat)) (k + 2) (a1).toNat)) (k + 3) (a1).toNat)) (k + 4) (a1).toNat)) (k + 5) (a1).toNat)) (k + 6) (a1).toNat) 10) a2)) (k + 7) ((xadd a1 1)).toNat (xadd ((xwr (xwr (xwr (xwr (xwr (xwr σ (k + 1) ((xadd a1 1)).toNat (σ (k + 1) (a1).toNat)) (k + 2) ((xadd a1 1)).toNat ((xwr σ (k + 1) ((xadd a1 1)).toNat (σ (k + 1) (a1).toNat)) (k + 2) (a1).toNat)) (k + 3) ((xadd a1 1)).toNat ((xwr (xwr σ (k + 1) ((xadd a1 1)).toNat (σ (k + 1) (a1).toNat)) (k + 2) ((xadd a1 1)).toNat ((xwr σ (k + 1) ((xadd a1 1)).toNat (σ (k + 1) (a1).toNat)) (k + 2) (a1).toNat)) (k + 3) (a1).toNat)) (k + 4) ((xadd a1 1)).toNat ((xwr (xwr (xwr σ (k + 1) ((xadd a1 1)).toNat (σ (k + 1) (a1).toNat)) (k + 2) ((xadd a1 1)).toNat ((xwr σ (k + 1) ((xadd a1 1)).toNat (σ (k + 1) (a1).toNat)) (k + 2) (a1).toNat)) (k + 3) ((xadd a1 1)).toNat ((xwr (xwr σ (k + 1) ((xadd a1 1)).toNat (σ (k + 1) (a1).toNat)) (k + 2) ((xadd a1 1)).toNat ((xwr σ (k + 1) ((xadd a1 1)).toNat (σ (k + 1) (a1).toNat)) (k + 2) (a1).toNat)) (k + 3) (a1).toNat)) (k + 4) (a1).toNat)) (k + 5) ((xadd a1 1)).toNat ((xwr (xwr (xwr (xwr σ (k + 1) ((xadd a1 1)).toNat (σ (k + 1) (a1).toNat)) (k + 2) ((xadd a1 1)).toNat ((xwr σ (k + 1) ((xadd a1 1)).toNat (σ (k + 1) (a1).toNat)) (k + 2) (a1).toNat)) (k + 3) ((xadd a1 1)).toNat ((xwr (xwr σ (k + 1) ((xadd a1 1)).toNat (σ (k + 1) (a1).toNat)) (k + 2) ((xadd a1 1)).toNat ((xwr σ (k + 1) ((xadd a1 1)).toNat (σ (k + 1) (a1).toNat)) (k + 2) (a1).toNat)) (k + 3) (a1).toNat)) (k + 4) ((xadd a1 1)).toNat ((xwr (xwr (xwr σ (k + 1) ((xadd a1 1)).toNat (σ (k + 1) (a1).toNat)) (k + 2) ((xadd a1 1)).toNat ((xwr σ (k + 1) ((xadd a1 1)).toNat (σ (k + 1) (a1).toNat)) (k + 2) (a1).toNat)) (k + 3) ((xadd a1 1)).toNat ((xwr (xwr σ (k + 1) ((xadd a1 1)).toNat (σ (k + 1) (a1).toNat)) (k + 2) ((xadd a1 1)).toNat ((xwr σ (k + 1) ((xadd a1 1)).toNat (σ (k + 1) (a1).toNat)) (k + 2) (a1).toNat)) (k + 3) (a1).toNat)) (k + 4) (a1).toNat)) (k + 5) (a1).toNat)) (k + 6) ((xadd a1 1)).toNat (xadd (xmul ((xwr (xwr (xwr (xwr (xwr σ (k + 1) ((xadd a1 1)).toNat (σ (k + 1) (a1).toNat)) (k + 2) ((xadd a1 1)).toNat ((xwr σ (k + 1) ((xadd a1 1)).toNat (σ (k + 1) (a1).toNat)) (k + 2) (a1).toNat)) (k + 3) ((xadd a1 1)).toNat ((xwr (xwr σ (k + 1) ((xadd a1 1)).toNat (σ (k + 1) (a1).toNat)) (k + 2) ((xadd a1 1)).toNat ((xwr σ (k + 1) ((xadd a1 1)).toNat (σ (k + 1) (a1).toNat)) (k + 2) (a1).toNat)) (k + 3) (a1).toNat)) (k + 4) ((xadd a1 1)).toNat ((xwr (xwr (xwr σ (k + 1) ((xadd a1 1)).toNat (σ (k + 1) (a1).toNat)) (k + 2) ((xadd a1 1)).toNat ((xwr σ (k + 1) ((xadd a1 1)).toNat (σ (k + 1) (a1).toNat)) (k + 2) (a1).toNat)) (k + 3) ((xadd a1 1)).toNat ((xwr (xwr σ (k + 1) ((xadd a1 1)).toNat (σ (k + 1) (a1).toNat)) (k + 2) ((xadd a1 1)).toNat ((xwr σ (k + 1) ((xadd a1 1)).toNat (σ (k + 1) (a1).toNat)) (k + 2) (a1).toNat)) (k + 3) (a1).toNat)) (k + 4) (a1).toNat)) (k + 5) ((xadd a1 1)).toNat ((xwr (xwr (xwr (xwr σ (k + 1) ((xadd a1 1)).toNat (σ (k + 1) (a1).toNat)) (k + 2) ((xadd a1 1)).toNat ((xwr σ (k + 1) ((xadd a1 1)).toNat (σ (k + 1) (a1).toNat)) (k + 2) (a1).toNat)) (k + 3) ((xadd a1 1)).toNat ((xwr (xwr σ (k + 1) ((xadd a1 1)).toNat (σ (k + 1) (a1).toNat)) (k + 2) ((xadd a1 1)).toNat ((xwr σ (k + 1) ((xadd a1 1)).toNat (σ (k + 1) (a1).toNat)) (k + 2) (a1).toNat)) (k + 3) (a1).toNat)) (k + 4) ((xadd a1 1)).toNat ((xwr (xwr (xwr σ (k + 1) ((xadd a1 1)).toNat (σ (k + 1) (a1).toNat)) (k + 2) ((xadd a1 1)).toNat ((xwr σ (k + 1) ((xadd a1 1)).toNat (σ (k + 1) (a1).toNat)) (k + 2) (a1).toNat)) (k + 3) ((xadd a1 1)).toNat ((xwr (xwr σ (k + 1) ((xadd a1 1)).toNat (σ (k + 1) (a1).toNat)) (k + 2) ((xadd a1 1)).toNat ((xwr σ (k + 1) ((xadd a1 1)).toNat (σ (k + 1) (a1).toNat)) (k + 2) (a1).toNat)) (k + 3) (a1).toNat)) (k + 4) (a1).toNat)) (k + 5) (a1).toNat)) (k + 6) (a1).toNat) 10) a2)) (k + 7) (a1).toNat) 1)) (k + 8) ((xadd a1 1)).toNat ((xwr (xwr (xwr (xwr (xwr (xwr (xwr σ (k + 1) ((xadd a1 1)).toNat (σ (k + 1) (a1).toNat)) (k + 2) ((xadd a1 1)).toNat ((xwr σ (k + 1) ((xadd a1 1)).toNat (σ (k + 1) (a1).toNat)) (k + 2) (a1).toNat)) (k + 3) ((xadd a1 1)).toNat ((xwr (xwr σ (k + 1) ((xadd a1 1)).toNat (σ (k + 1) (a1).toNat)) (k + 2) ((xadd a1 1)).toNat ((xwr σ (k + 1) ((xadd a1 1)).toNat (σ (k + 1) (a1).toNat)) (k + 2) (a1).toNat)) (k + 3) (a1).toNat)) (k + 4) ((xadd a1 1)).toNat ((xwr (xwr (xwr σ (k + 1) ((xadd a1 1)).toNat (σ (k + 1) (a1).toNat)) (k + 2) ((xadd a1 1)).toNat ((xwr σ (k + 1) ((xadd a1 1)).toNat (σ (k + 1) (a1).toNat)) (k + 2) (a1).toNat)) (k + 3) ((xadd a1 1)).toNat ((xwr (xwr σ (k + 1) ((xadd a1 1)).toNat (σ (k + 1) (a1).toNat)) (k + 2) ((xadd a1 1)).toNat ((xwr σ (k + 1) ((xadd a1 1)).toNat (σ (k + 1) (a1).toNat)) (k + 2) (a1).toNat)) (k + 3) (a1).toNat)) (k + 4) (a1).toNat)) (k + 5) ((xadd a1 1)).toNat ((xwr (xwr (xwr (xwr σ (k + 1) ((xadd a1 1)).toNat (σ (k + 1) (a1).toNat)) (k + 2) ((xadd a1 1)).toNat ((xwr σ (k + 1) ((xadd a1 1)).toNat (σ (k + 1) (a1).toNat)) (k + 2) (a1).toNat)) (k + 3) ((xadd a1 1)).toNat ((xwr (xwr σ (k + 1) ((xadd a1 1)).toNat (σ (k + 1) (a1).toNat)) (k + 2) ((xadd a1 1)).toNat ((xwr σ (k + 1) ((xadd a1 1)).toNat (σ (k + 1) (a1).toNat)) (k + 2) (a1).toNat)) (k + 3) (a1).toNat)) (k + 4) ((xadd a1 1)).toNat ((xwr (xwr (xwr σ (k + 1) ((xadd a1 1)).toNat (σ (k + 1) (a1).toNat)) (k + 2) ((xadd a1 1)).toNat ((xwr σ (k + 1) ((xadd a1 1)).toNat (σ (k + 1) (a1).toNat)) (k + 2) (a1).toNat)) (k + 3) ((xadd a1 1)).toNat ((xwr (xwr σ (k + 1) ((xadd a1 1)).toNat (σ (k + 1) (a1).toNat)) (k + 2) ((xadd a1 1)).toNat ((xwr σ (k + 1) ((xadd a1 1)).toNat (σ (k + 1) (a1).toNat)) (k + 2) (a1).toNat)) (k + 3) (a1).toNat)) (k + 4) (a1).toNat)) (k + 5) (a1).toNat)) (k + 6) ((xadd a1 1)).toNat (xadd (xmul ((xwr (xwr (xwr (xwr (xwr σ (k + 1) ((xadd a1 1)).toNat (σ (k + 1) (a1).toNat)) (k + 2) ((xadd a1 1)).toNat ((xwr σ (k + 1) ((xadd a1 1)).toNat (σ (k + 1) (a1).toNat)) (k + 2) (a1).toNat)) (k + 3) ((xadd a1 1)).toNat ((xwr (xwr σ (k + 1) ((xadd a1 1)).toNat (σ (k + 1) (a1).toNat)) (k + 2) ((xadd a1 1)).toNat ((xwr σ (k + 1) ((xadd a1 1)).toNat (σ (k + 1) (a1).toNat)) (k + 2) (a1).toNat)) (k + 3) (a1).toNat)) (k + 4) ((xadd a1 1)).toNat ((xwr (xwr (xwr σ (k + 1) ((xadd a1 1)).toNat (σ (k + 1) (a1).toNat)) (k + 2) ((xadd a1 1)).toNat ((xwr σ (k + 1) ((xadd a1 1)).toNat (σ (k + 1) (a1).toNat)) (k + 2) (a1).toNat)) (k + 3) ((xadd a1 1)).toNat ((xwr (xwr σ (k + 1) ((xadd a1 1)).toNat (σ (k + 1) (a1).toNat)) (k + 2) ((xadd a1 1)).toNat ((xwr σ (k + 1) ((xadd a1 1)).toNat (σ (k + 1) (a1).toNat)) (k + 2) (a1).toNat)) (k + 3) (a1).toNat)) (k + 4) (a1).toNat)) (k + 5) ((xadd a1 1)).toNat ((xwr (xwr (xwr (xwr σ (k + 1) ((xadd a1 1)).toNat (σ (k + 1) (a1).toNat)) (k + 2) ((xadd a1 1)).toNat ((xwr σ (k + 1) ((xadd a1 1)).toNat (σ (k + 1) (a1).toNat)) (k + 2) (a1).toNat)) (k + 3) ((xadd a1 1)).toNat ((xwr (xwr σ (k + 1) ((xadd a1 1)).toNat (σ (k + 1) (a1).toNat)) (k + 2) ((xadd a1 1)).toNat ((xwr σ (k + 1) ((xadd a1 1)).toNat (σ (k + 1) (a1).toNat)) (k + 2) (a1).toNat)) (k + 3) (a1).toNat)) (k + 4) ((xadd a1 1)).toNat ((xwr (xwr (xwr σ (k + 1) ((xadd a1 1)).toNat (σ (k + 1) (a1).toNat)) (k + 2) ((xadd a1 1)).toNat ((xwr σ (k + 1) ((xadd a1 1)).toNat (σ (k + 1) (a1).toNat)) (k + 2) (a1).toNat)) (k + 3) ((xadd a1 1)).toNat ((xwr (xwr σ (k + 1) ((xadd a1 1)).toNat (σ (k + 1) (a1).toNat)) (k + 2) ((xadd a1 1)).toNat ((xwr σ (k + 1) ((xadd a1 1)).toNat (σ (k + 1) (a1).toNat)) (k + 2) (a1).toNat)) (k + 3) (a1).toNat)) (k + 4) (a1).toNat)) (k + 5) (a1).toNat)) (k + 6) (a1).toNat) 10) a2)) (k + 7) ((xadd a1 1)).toNat (xadd ((xwr (xwr (xwr (xwr (xwr (xwr σ (k + 1) ((xadd a1 1)).toNat (σ (k + 1) (a1).toNat)) (k + 2) ((xadd a1 1)).toNat ((xwr σ (k + 1) ((xadd a1 1)).toNat (σ (k + 1) (a1).toNat)) (k + 2) (a1).toNat)) (k + 3) ((xadd a1 1)).toNat ((xwr (xwr σ (k + 1) ((xadd a1 1)).toNat (σ (k + 1) (a1).toNat)) (k + 2) ((xadd a1 1)).toNat ((xwr σ (k + 1) ((xadd a1 1)).toNat (σ (k + 1) (a1).toNat)) (k + 2) (a1).toNat)) (k + 3) (a1).toNat)) (k + 4) ((xadd a1 1)).toNat ((xwr (xwr (xwr σ (k + 1) ((xadd a1 1)).toNat (σ (k + 1) (a1).toNat)) (k + 2) ((xadd a1 1)).toNat ((xwr σ (k + 1) ((xadd a1 1)).toNat (σ (k + 1) (a1).toNat)) (k + 2) (a1).toNat)) (k + 3) ((xadd a1 1)).toNat ((xwr (xwr σ (k + 1) ((xadd a1 1)).toNat (σ (k + 1) (a1).toNat)) (k + 2) ((xadd a1 1)).toNat ((xwr σ (k + 1) ((xadd a1 1)).toNat (σ (k + 1) (a1).toNat)) (k + 2) (a1).toNat)) (k + 3) (a1).toNat)) (k + 4) (a1).toNat)) (k + 5) ((xadd a1 1)).toNat ((xwr (xwr (xwr (xwr σ (k + 1) ((xadd a1 1)).toNat (σ (k + 1) (a1).toNat)) (k + 2) ((xadd a1 1)).toNat ((xwr σ (k + 1) ((xadd a1 1)).toNat (σ (k + 1) (a1).toNat)) (k + 2) (a1).toNat)) (k + 3) ((xadd a1 1)).toNat ((xwr (xwr σ (k + 1) ((xadd a1 1)).toNat (σ (k + 1) (a1).toNat)) (k + 2) ((xadd a1 1)).toNat ((xwr σ (k + 1) ((xadd a1 1)).toNat (σ (k + 1) (a1).toNat)) (k + 2) (a1).toNat)) (k + 3) (a1).toNat)) (k + 4) ((xadd a1 1)).toNat ((xwr (xwr (xwr σ (k + 1) ((xadd a1 1)).toNat (σ (k + 1) (a1).toNat)) (k + 2) ((xadd a1 1)).toNat ((xwr σ (k + 1) ((xadd a1 1)).toNat (σ (k + 1) (a1).toNat)) (k + 2) (a1).toNat)) (k + 3) ((xadd a1 1)).toNat ((xwr (xwr σ (k + 1) ((xadd a1 1)).toNat (σ (k + 1) (a1).toNat)) (k + 2) ((xadd a1 1)).toNat ((xwr σ (k + 1) ((xadd a1 1)).toNat (σ (k + 1) (a1).toNat)) (k + 2) (a1).toNat)) (k + 3) (a1).toNat)) (k + 4) (a1).toNat)) (k + 5) (a1).toNat)) (k + 6) ((xadd a1 1)).toNat (xadd (xmul ((xwr (xwr (xwr (xwr (xwr σ (k + 1) ((xadd a1 1)).toNat (σ (k + 1) (a1).toNat)) (k + 2) ((xadd a1 1)).toNat ((xwr σ (k + 1) ((xadd a1 1)).toNat (σ (k + 1) (a1).toNat)) (k + 2) (a1).toNat)) (k + 3) ((xadd a1 1)).toNat ((xwr (xwr σ (k + 1) ((xadd a1 1)).toNat (σ (k + 1) (a1).toNat)) (k + 2) ((xadd a1 1)).toNat ((xwr σ (k + 1) ((xadd a1 1)).toNat (σ (k + 1) (a1).toNat)) (k + 2) (a1).toNat)) (k + 3) (a1).toNat)) (k + 4) ((xadd a1 1)).toNat ((xwr (xwr (xwr σ (k + 1) ((xadd a1 1)).toNat (σ (k + 1) (a1).toNat)) (k + 2) ((xadd a1 1)).toNat ((xwr σ (k + 1) ((xadd a1 1)).toNat (σ (k + 1) (a1).toNat)) (k + 2) (a1).toNat)) (k + 3) ((xadd a1 1)).toNat ((xwr (xwr σ (k + 1) ((xadd a1 1)).toNat (σ (k + 1) (a1).toNat)) (k + 2) ((xadd a1 1)).toNat ((xwr σ (k + 1) ((xadd a1 1)).toNat (σ (k + 1) (a1).toNat)) (k + 2) (a1).toNat)) (k + 3) (a1).toNat)) (k + 4) (a1).toNat)) (k + 5) ((xadd a1 1)).toNat ((xwr (xwr (xwr (xwr σ (k + 1) ((xadd a1 1)).toNat (σ (k + 1) (a1).toNat)) (k + 2) ((xadd a1 1)).toNat ((xwr σ (k + 1) ((xadd a1 1)).toNat (σ (k + 1) (a1).toNat)) (k + 2) (a1).toNat)) (k + 3) ((xadd a1 1)).toNat ((xwr (xwr σ (k + 1) ((xadd a1 1)).toNat (σ (k + 1) (a1).toNat)) (k + 2) ((xadd a1 1)).toNat ((xwr σ (k + 1) ((xadd a1 1)).toNat (σ (k + 1) (a1).toNat)) (k + 2) (a1).toNat)) (k + 3) (a1).toNat)) (k + 4) ((xadd a1 1)).toNat ((xwr (xwr (xwr σ (k + 1) ((xadd a1 1)).toNat (σ (k + 1) (a1).toNat)) (k + 2) ((xadd a1 1)).toNat ((xwr σ (k + 1) ((xadd a1 1)).toNat (σ (k + 1) (a1).toNat)) (k + 2) (a1).toNat)) (k + 3) ((xadd a1 1)).toNat ((xwr (xwr σ (k + 1) ((xadd a1 1)).toNat (σ (k + 1) (a1).toNat)) (k + 2) ((xadd a1 1)).toNat ((xwr σ (k + 1) ((xadd a1 1)).toNat (σ (k + 1) (a1).toNat)) (k + 2) (a1).toNat)) (k + 3) (a1).toNat)) (k + 4) (a1).toNat)) (k + 5) (a1).toNat)) (k + 6) (a1).toNat) 10) a2)) (k + 7) (a1).toNat) 1)) (k + 8) (a1).toNat)) else (if (σ (k + 6) (a1).toNat) ≠ 0 then (xwr (xwr (xwr (xwr (xwr (xwr (xwr (xwr σ (k + 1) ((xadd a1 1)).toNat (σ (k + 1) (a1).toNat)) (k + 2) ((xadd a1 1)).toNat ((xwr σ (k + 1) ((xadd a1 1)).toNat (σ (k + 1) (a1).toNat)) (k + 2) (a1).toNat)) (k + 3) ((xadd a1 1)).toNat ((xwr (xwr σ (k + 1) ((xadd a1 1)).toNat (σ (k + 1) (a1).toNat)) (k + 2) ((xadd a1 1)).toNat ((xwr σ (k + 1) ((xadd a1 1)).toNat (σ (k + 1) (a1).toNat)) (k + 2) (a1).toNat)) (k + 3) (a1).toNat)) (k + 4) ((xadd a1 1)).toNat ((xwr (xwr (xwr σ (k + 1) ((xadd a1 1)).toNat (σ (k + 1) (a1).toNat)) (k + 2) ((xadd a1 1)).toNat ((xwr σ (k + 1) ((xadd a1 1)).toNat (σ (k + 1) (a1).toNat)) (k + 2) (a1).toNat)) (k + 3) ((xadd a1 1)).toNat ((xwr (xwr σ (k + 1) ((xadd a1 1)).toNat (σ (k + 1) (a1).toNat)) (k + 2) ((xadd a1 1)).toNat ((xwr σ (k + 1) ((xadd a1 1)).toNat (σ (k + 1) (a1).toNat)) (k + 2) (a1).toNat)) (k + 3) (a1).toNat)) (k + 4) (a1).toNat)) (k + 5) ((xadd a1 1)).toNat ((xwr (xwr (xwr (xwr σ (k + 1) ((xadd a1 1)).toNat (σ (k + 1) (a1).toNat)) (k + 2) ((xadd a1 1)).toNat ((xwr σ (k + 1) ((xadd a1 1)).toNat (σ (k + 1) (a1).toNat)) (k + 2) (a1).toNat)) (k + 3) ((xadd a1 1)).toNat ((xwr (xwr σ (k + 1) ((xadd a1 1)).toNat (σ (k + 1) (a1).toNat)) (k + 2) ((xadd a1 1)).toNat ((xwr σ (k + 1) ((xadd a1 1)).toNat (σ (k + 1) (a1).toNat)) (k + 2) (a1).toNat)) (k + 3) (a1).toNat)) (k + 4) ((xadd a1 1)).toNat ((xwr (xwr (xwr σ (k + 1) ((xadd a1 1)).toNat (σ (k + 1) (a1).toNat)) (k + 2) ((xadd a1 1)).toNat ((xwr σ (k + 1) ((xadd a1 1)).toNat (σ (k + 1) (a1).toNat)) (k + 2) (a1).toNat)) (k + 3) ((xadd a1 1)).toNat ((xwr (xwr σ (k + 1) ((xadd a1 1)).toNat (σ (k + 1) (a1).toNat)) (k + 2) ((xadd a1 1)).toNat ((xwr σ (k + 1) ((xadd a1 1)).toNat (σ (k + 1) (a1).toNat)) (k + 2) (a1).toNat)) (k + 3) (a1).toNat)) (k + 4) (a1).toNat)) (k + 5) (a1).toNat)) (k + 6) ((xadd a1 1)).toNat (xadd (xmul ((xwr (xwr (xwr (xwr (xwr σ (k + 1) ((xadd a1 1)).toNat (σ (k + 1) (a1).toNat)) (k + 2) ((xadd a1 1)).toNat ((xwr σ (k + 1) ((xadd a1 1)).toNat (σ (k + 1) (a1).toNat)) (k + 2) (a1).toNat)) (k + 3) ((xadd a1 1)).toNat ((xwr (xwr σ (k + 1) ((xadd a1 1)).toNat (σ (k + 1) (a1).toNat)) (k + 2) ((xadd a1 1)).toNat ((xwr σ (k + 1) ((xadd a1 1)).toNat (σ (k + 1) (a1).toNat)) (k + 2) (a1).toNat)) (k + 3) (a1).toNat)) (k + 4) ((xadd a1 1)).toNat ((xwr (xwr (xwr σ (k + 1) ((xadd a1 1)).toNat (σ (k + 1) (a1).toNat)) (k + 2) ((xadd a1 1)).toNat ((xwr σ (k + 1) ((xadd a1 1)).toNat (σ (k + 1) (a1).toNat)) (k + 2) (a1).toNat)) (k + 3) ((xadd a1 1)).toNat ((xwr (xwr σ (k + 1) ((xadd a1 1)).toNat (σ (k + 1) (a1).toNat)) (k + 2) ((xadd a1 1)).toNat ((xwr σ (k + 1) ((xadd a1 1)).toNat (σ (k + 1) (a1).toNat)) (k + 2) (a1).toNat)) (k + 3) (a1).toNat)) (k + 4) (a1).toNat)) (k + 5) ((xadd a1 1)).toNat ((xwr (xwr (xwr (xwr σ (k + 1) ((xadd a1 1)).toNat (σ (k + 1) (a1).toNat)) (k + 2) ((xadd a1 1)).toNat ((xwr σ (k + 1) ((xadd a1 1)).toNat (σ (k + 1) (a1).toNat)) (k + 2) (a1).toNat)) (k + 3) ((xadd a1 1)).toNat ((xwr (xwr σ (k + 1) ((xadd a1 1)).toNat (σ (k + 1) (a1).toNat)) (k + 2) ((xadd a1 1)).toNat ((xwr σ (k + 1) ((xadd a1 1)).toNat (σ (k + 1) (a1).toNat)) (k + 2) (a1).toNat)) (k + 3) (a1).toNat)) (k + 4) ((xadd a1 1)).toNat ((xwr (xwr (xwr σ (k + 1) ((xadd a1 1)).toNat (σ (k + 1) (a1).toNat)) (k + 2) ((xadd a1 1)).toNat ((xwr σ (k + 1) ((xadd a1 1)).toNat (σ (k + 1) (a1).toNat)) (k + 2) (a1).toNat)) (k + 3) ((xadd a1 1)).toNat ((xwr (xwr σ (k + 1) ((xadd a1 1)).toNat (σ (k + 1) (a1).toNat)) (k + 2) ((xadd a1 1)).toNat ((xwr σ (k + 1) ((xadd a1 1)).toNat (σ (k + 1) (a1).toNat)) (k + 2) (a1).toNat)) (k + 3) (a1).toNat)) (k + 4) (a1).toNat)) (k + 5) (a1).toNat)) (k + 6) (a1).toNat) 10) a2)) (k + 7) ((xadd a1 1)).toNat (xadd ((xwr (xwr (xwr (xwr (xwr (xwr σ (k + 1) ((xadd a1 1)).toNat (σ (k + 1) (a1).toNat)) (k + 2) ((xadd a1 1)).toNat ((xwr σ (k + 1) ((xadd a1 1)).toNat (σ (k + 1) (a1).toNat)) (k + 2) (a1).toNat)) (k + 3) ((xadd a1 1)).toNat ((xwr (xwr σ (k + 1) ((xadd a1 1)).toNat (σ (k + 1) (a1).toNat)) (k + 2) ((xadd a1 1)).toNat ((xwr σ (k + 1) ((xadd a1 1)).toNat (σ (k + 1) (a1).toNat)) (k + 2) (a1).toNat)) (k + 3) (a1).toNat)) (k + 4) ((xadd a1 1)).toNat ((xwr (xwr (xwr σ (k + 1) ((xadd a1 1)).toNat (σ (k + 1) (a1).toNat)) (k + 2) ((xadd a1 1)).toNat ((xwr σ (k + 1) ((xadd a1 1)).toNat (σ (k + 1) (a1).toNat)) (k + 2) (a1).toNat)) (k + 3) ((xadd a1 1)).toNat ((xwr (xwr σ (k + 1) ((xadd a1 1)).toNat (σ (k + 1) (a1).toNat)) (k + 2) ((xadd a1 1)).toNat ((xwr σ (k + 1) ((xadd a1 1)).toNat (σ (k + 1) (a1).toNat)) (k + 2) (a1).toNat)) (k + 3) (a1).toNat)) (k + 4) (a1).toNat)) (k + 5) ((xadd a1 1)).toNat ((xwr (xwr (xwr (xwr σ (k + 1) ((xadd a1 1)).toNat (σ (k + 1) (a1).toNat)) (k + 2) ((xadd a1 1)).toNat ((xwr σ (k + 1) ((xadd a1 1)).toNat (σ (k + 1) (a1).toNat)) (k + 2) (a1).toNat)) (k + 3) ((xadd a1 1)).toNat ((xwr (xwr σ (k + 1) ((xadd a1 1)).toNat (σ (k + 1) (a1).toNat)) (k + 2) ((xadd a1 1)).toNat ((xwr σ (k + 1) ((xadd a1 1)).toNat (σ (k + 1) (a1).toNat)) (k + 2) (a1).toNat)) (k + 3) (a1).toNat)) (k + 4) ((xadd a1 1)).toNat ((xwr (xwr (xwr σ (k + 1) ((xadd a1 1)).toNat (σ (k + 1) (a1).toNat)) (k + 2) ((xadd a1 1)).toNat ((xwr σ (k + 1) ((xadd a1 1)).toNat (σ (k + 1) (a1).toNat)) (k + 2) (a1).toNat)) (k + 3) ((xadd a1 1)).toNat ((xwr (xwr σ (k + 1) ((xadd a1 1)).toNat (σ (k + 1) (a1).toNat)) (k + 2) ((xadd a1 1)).toNat ((xwr σ (k + 1) ((xadd a1 1)).toNat (σ (k + 1) (a1).toNat)) (k + 2) (a1).toNat)) (k + 3) (a1).toNat)) (k + 4) (a1).toNat)) (k + 5) (a1).toNat)) (k + 6) ((xadd a1 1)).toNat (xadd (xmul ((xwr (xwr (xwr (xwr (xwr σ (k + 1) ((xadd a1 1)).toNat (σ (k + 1) (a1).toNat)) (k + 2) ((xadd a1 1)).toNat ((xwr σ (k + 1) ((xadd a1 1)).toNat (σ (k + 1) (a1).toNat)) (k + 2) (a1).toNat)) (k + 3) ((xadd a1 1)).toNat ((xwr (xwr σ (k + 1) ((xadd a1 1)).toNat (σ (k + 1) (a1).toNat)) (k + 2) ((xadd a1 1)).toNat ((xwr σ (k + 1) ((xadd a1 1)).toNat (σ (k + 1) (a1).toNat)) (k + 2) (a1).toNat)) (k + 3) (a1).toNat)) (k + 4) ((xadd a1 1)).toNat ((xwr (xwr (xwr σ (k + 1) ((xadd a1 1)).toNat (σ (k + 1) (a1).toNat)) (k + 2) ((xadd a1 1)).toNat ((xwr σ (k + 1) ((xadd a1 1)).toNat (σ (k + 1) (a1).toNat)) (k + 2) (a1).toNat)) (k + 3) ((xadd a1 1)).toNat ((xwr (xwr σ (k + 1) ((xadd a1 1)).toNat (σ (k + 1) (a1).toNat)) (k + 2) ((xadd a1 1)).toNat ((xwr σ (k + 1) ((xadd a1 1)).toNat (σ (k + 1) (a1).toNat)) (k + 2) (a1).toNat)) (k + 3) (a1).toNat)) (k + 4) (a1).toNat)) (k + 5) ((xadd a1 1)).toNat ((xwr (xwr (xwr (xwr σ (k + 1) ((xadd a1 1)).toNat (σ (k + 1) (a1).toNat)) (k + 2) ((xadd a1 1)).toNat ((xwr σ (k + 1) ((xadd a1 1)).toNat (σ (k + 1) (a1).toNat)) (k + 2) (a1).toNat)) (k + 3) ((xadd a1 1)).toNat ((xwr (xwr σ (k + 1) ((xadd a1 1)).toNat (σ (k + 1) (a1).toNat)) (k + 2) ((xadd a1 1)).toNat ((xwr σ (k + 1) ((xadd a1 1)).toNat (σ (k + 1) (a1).toNat)) (k + 2) (a1).toNat)) (k + 3) (a1).toNat)) (k + 4) ((xadd a1 1)).toNat ((xwr (xwr (xwr σ (k + 1) ((xadd a1 1)).toNat (σ (k + 1) (a1).toNat)) (k + 2) ((xadd a1 1)).toNat ((xwr σ (k + 1) ((xadd a1 1)).toNat (σ (k + 1) (a1).toNat)) (k + 2) (a1).toNat)) (k + 3) ((xadd a1 1)).toNat ((xwr (xwr σ (k + 1) ((xadd a1 1)).toNat (σ (k + 1) (a1).toNat)) (k + 2) ((xadd a1 1)).toNat ((xwr σ (k + 1) ((xadd a1 1)).toNat (σ (k + 1) (a1).toNat)) (k + 2) (a1).toNat)) (k + 3) (a1).toNat)) (k + 4) (a1).toNat)) (k + 5) (a1).toNat)) (k + 6) (a1).toNat) 10) a2)) (k + 7) (a1).toNat) 1)) (k + 8) ((xadd a1 1)).toNat ((xwr (xwr (xwr (xwr (xwr (xwr (xwr σ (k + 1) ((xadd a1 1)).toNat (σ (k + 1) (a1).toNat)) (k + 2) ((xadd a1 1)).toNat ((xwr σ (k + 1) ((xadd a1 1)).toNat (σ (k + 1) (a1).toNat)) (k + 2) (a1).toNat)) (k + 3) ((xadd a1 1)).toNat ((xwr (xwr σ (k + 1) ((xadd a1 1)).toNat (σ (k + 1) (a1).toNat)) (k + 2) ((xadd a1 1)).toNat ((xwr σ (k + 1) ((xadd a1 1)).toNat (σ (k + 1) (a1).toNat)) (k + 2) (a1).toNat)) (k + 3) (a1).toNat)) (k + 4) ((xadd a1 1)).toNat ((xwr (xwr (xwr σ (k + 1) ((xadd a1 1)).toNat (σ (k + 1) (a1).toNat)) (k + 2) ((xadd a1 1)).toNat ((xwr σ (k + 1) ((xadd a1 1)).toNat (σ (k + 1) (a1).toNat)) (k + 2) (a1).toNat)) (k + 3) ((xadd a1 1)).toNat ((xwr (xwr σ (k + 1) ((xadd a1 1)).toNat (σ (k + 1) (a1).toNat)) (k + 2) ((xadd a1 1)).toNat ((xwr σ (k + 1) ((xadd a1 1)).toNat (σ (k + 1) (a1).toNat)) (k + 2) (a1).toNat)) (k + 3) (a1).toNat)) (k + 4) (a1).toNat)) (k + 5) ((xadd a1 1)).toNat ((xwr (xwr (xwr (xwr σ (k + 1) ((xadd a1 1)).toNat (σ (k + 1) (a1).toNat)) (k + 2) ((xadd a1 1)).toNat ((xwr σ (k + 1) ((xadd a1 1)).toNat (σ (k + 1) (a1).toNat)) (k + 2) (a1).toNat)) (k + 3) ((xadd a1 1)).toNat ((xwr (xwr σ (k + 1) ((xadd a1 1)).toNat (σ (k + 1) (a1).toNat)) (k + 2) ((xadd a1 1)).toNat ((xwr σ (k + 1) ((xadd a1 1)).toNat (σ (k + 1) (a1).toNat)) (k + 2) (a1).toNat)) (k + 3) (a1).toNat)) (k + 4) ((xadd a1 1)).toNat ((xwr (xwr (xwr σ (k + 1) ((xadd a1 1)).toNat (σ (k + 1) (a1).toNat)) (k + 2) ((xadd a1 1)).toNat ((xwr σ (k + 1) ((xadd a1 1)).toNat (σ (k + 1) (a1).toNat)) (k + 2) (a1).toNat)) (k + 3) ((xadd a1 1)).toNat ((xwr (xwr σ (k + 1) ((xadd a1 1)).toNat (σ (k + 1) (a1).toNat)) (k + 2) ((xadd a1 1)).toNat ((xwr σ (k + 1) ((xadd a1 1)).toNat (σ (k + 1) (a1).toNat)) (k + 2) (a1).toNat)) (k + 3) (a1).toNat)) (k + 4) (a1).toNat)) (k + 5) (a1).toNat)) (k + 6) ((xadd a1 1)).toNat (xadd (xmul ((xwr (xwr (xwr (xwr (xwr σ (k + 1) ((xadd a1 1)).toNat (σ (k + 1) (a1).toNat)) (k + 2) ((xadd a1 1)).toNat ((xwr σ (k + 1) ((xadd a1 1)).toNat (σ (k + 1) (a1).toNat)) (k + 2) (a1).toNat)) (k + 3) ((xadd a1 1)).toNat ((xwr (xwr σ (k + 1) ((xadd a1 1)).toNat (σ (k + 1) (a1).toNat)) (k + 2) ((xadd a1 1)).toNat ((xwr σ (k + 1) ((xadd a1 1)).toNat (σ (k + 1) (a1).toNat)) (k + 2) (a1).toNat)) (k + 3) (a1).toNat)) (k + 4) ((xadd a1 1)).toNat ((xwr (xwr (xwr σ (k + 1) ((xadd a1 1)).toNat (σ (k + 1) (a1).toNat)) (k + 2) ((xadd a1 1)).toNat ((xwr σ (k + 1) ((xadd a1 1)).toNat (σ (k + 1) (a1).toNat)) (k + 2) (a1).toNat)) (k + 3) ((xadd a1 1)).toNat ((xwr (xwr σ (k + 1) ((xadd a1 1)).toNat (σ (k + 1) (a1).toNat)) (k + 2) ((xadd a1 1)).toNat ((xwr σ (k + 1) ((xadd a1 1)).toNat (σ (k + 1) (a1).toNat)) (k + 2) (a1).toNat)) (k + 3) (a1).toNat)) (k + 4) (a1).toNat)) (k + 5) ((xadd a1 1)).toNat ((xwr (xwr (xwr (xwr σ (k + 1) ((xadd a1 1)).toNat (σ (k + 1) (a1).toNat)) (k + 2) ((xadd a1 1)).toNat ((xwr σ (k + 1) ((xadd a1 1)).toNat (σ (k + 1) (a1).toNat)) (k + 2) (a1).toNat)) (k + 3) ((xadd a1 1)).toNat ((xwr (xwr σ (k + 1) ((xadd a1 1)).toNat (σ (k + 1) (a1).toNat)) (k + 2) ((xadd a1 1)).toNat ((xwr σ (k + 1) ((xadd a1 1)).toNat (σ (k + 1) (a1).toNat)) (k + 2) (a1).toNat)) (k + 3) (a1).toNat)) (k + 4) ((xadd a1 1)).toNat ((xwr (xwr (xwr σ (k + 1) ((xadd a1 1)).toNat (σ (k + 1) (a1).toNat)) (k + 2) ((xadd a1 1)).toNat ((xwr σ (k + 1) ((xadd a1 1)).toNat (σ (k + 1) (a1).toNat)) (k + 2) (a1).toNat)) (k + 3) ((xadd a1 1)).toNat ((xwr (xwr σ (k + 1) ((xadd a1 1)).toNat (σ (k + 1) (a1).toNat)) (k + 2) ((xadd a1 1)).toNat ((xwr σ (k + 1) ((xadd a1 1)).toNat (σ (k + 1) (a1).toNat)) (k + 2) (a1).toNat)) (k + 3) (a1).toNat)) (k + 4) (a1).toNat)) (k + 5) (a1).toNat)) (k + 6) (a1).toNat) 10) a2)) (k + 7) ((xadd a1 1)).toNat (xadd ((xwr (xwr (xwr (xwr (xwr (xwr σ (k + 1) ((xadd a1 1)).toNat (σ (k + 1) (a1).toNat)) (k + 2) ((xadd a1 1)).toNat ((xwr σ (k + 1) ((xadd a1 1)).toNat (σ (k + 1) (a1).toNat)) (k + 2) (a1).toNat)) (k + 3) ((xadd a1 1)).toNat ((xwr (xwr σ (k + 1) ((xadd a1 1)).toNat (σ (k + 1) (a1).toNat)) (k + 2) ((xadd a1 1)).toNat ((xwr σ (k + 1) ((xadd a1 1)).toNat (σ (k + 1) (a1).toNat)) (k + 2) (a1).toNat)) (k + 3) (a1).toNat)) (k + 4) ((xadd a1 1)).toNat ((xwr (xwr (xwr σ (k + 1) ((xadd a1 1)).toNat (σ (k + 1) (a1).toNat)) (k + 2) ((xadd a1 1)).toNat ((xwr σ (k + 1) ((xadd a1 1)).toNat (σ (k + 1) (a1).toNat)) (k + 2) (a1).toNat)) (k + 3) ((xadd a1 1)).toNat ((xwr (xwr σ (k + 1) ((xadd a1 1)).toNat (σ (k + 1) (a1).toNat)) (k + 2) ((xadd a1 1)).toNat ((xwr σ (k + 1) ((xadd a1 1)).toNat (σ (k + 1) (a1).toNat)) (k + 2) (a1).toNat)) (k + 3) (a1).toNat)) (k + 4) (a1).toNat)) (k + 5) ((xadd a1 1)).toNat ((xwr (xwr (xwr (xwr σ (k + 1) ((xadd a1 1)).toNat (σ (k + 1) (a1).toNat)) (k + 2) ((xadd a1 1)).toNat ((xwr σ (k + 1) ((xadd a1 1)).toNat (σ (k + 1) (a1).toNat)) (k + 2) (a1).toNat)) (k + 3) ((xadd a1 1)).toNat ((xwr (xwr σ (k + 1) ((xadd a1 1)).toNat (σ (k + 1) (a1).toNat)) (k + 2) ((xadd a1 1)).toNat ((xwr σ (k + 1) ((xadd a1 1)).toNat (σ (k + 1) (a1).toNat)) (k + 2) (a1).toNat)) (k + 3) (a1).toNat)) (k + 4) ((xadd a1 1)).toNat ((xwr (xwr (xwr σ (k + 1) ((xadd a1 1)).toNat (σ (k + 1) (a1).toNat)) (k + 2) ((xadd a1 1)).toNat ((xwr σ (k + 1) ((xadd a1 1)).toNat (σ (k + 1) (a1).toNat)) (k + 2) (a1).toNat)) (k + 3) ((xadd a1 1)).toNat ((xwr (xwr σ (k + 1) ((xadd a1 1)).toNat (σ (k + 1) (a1).toNat)) (k + 2) ((xadd a1 1)).toNat ((xwr σ (k + 1) ((xadd a1 1)).toNat (σ (k + 1) (a1).toNat)) (k + 2) (a1).toNat)) (k + 3) (a1).toNat)) (k + 4) (a1).toNat)) (k + 5) (a1).toNat)) (k + 6) ((xadd a1 1)).toNat (xadd (xmul ((xwr (xwr (xwr (xwr (xwr σ (k + 1) ((xadd a1 1)).toNat (σ (k + 1) (a1).toNat)) (k + 2) ((xadd a1 1)).toNat ((xwr σ (k + 1) ((xadd a1 1)).toNat (σ (k + 1) (a1).toNat)) (k + 2) (a1).toNat)) (k + 3) ((xadd a1 1)).toNat ((xwr (xwr σ (k + 1) ((xadd a1 1)).toNat (σ (k + 1) (a1).toNat)) (k + 2) ((xadd a1 1)).toNat ((xwr σ (k + 1) ((xadd a1 1)).toNat (σ (k + 1) (a1).toNat)) (k + 2) (a1).toNat)) (k + 3) (a1).toNat)) (k + 4) ((xadd a1 1)).toNat ((xwr (xwr (xwr σ (k + 1) ((xadd a1 1)).toNat (σ (k + 1) (a1).toNat)) (k + 2) ((xadd a1 1)).toNat ((xwr σ (k + 1) ((xadd a1 1)).toNat (σ (k + 1) (a1).toNat)) (k + 2) (a1).toNat)) (k + 3) ((xadd a1 1)).toNat ((xwr (xwr σ (k + 1) ((xadd a1 1)).toNat (σ (k + 1) (a1).toNat)) (k + 2) ((xadd a1 1)).toNat ((xwr σ (k + 1) ((xadd a1 1)).toNat (σ (k + 1) (a1).toNat)) (k + 2) (a1).toNat)) (k + 3) (a1).toNat)) (k + 4) (a1).toNat)) (k + 5) ((xadd a1 1)).toNat ((xwr (xwr (xwr (xwr σ (k + 1) ((xadd a1 1)).toNat (σ (k + 1) (a1).toNat)) (k + 2) ((xadd a1 1)).toNat ((xwr σ (k + 1) ((xadd a1 1)).toNat (σ (k + 1) (a1).toNat)) (k + 2) (a1).toNat)) (k + 3) ((xadd a1 1)).toNat ((xwr (xwr σ (k + 1) ((xadd a1 1)).toNat (σ (k + 1) (a1).toNat)) (k + 2) ((xadd a1 1)).toNat ((xwr σ (k + 1) ((xadd a1 1)).toNat (σ (k + 1) (a1).toNat)) (k + 2) (a1).toNat)) (k + 3) (a1).toNat)) (k + 4) ((xadd a1 1)).toNat ((xwr (xwr (xwr σ (k + 1) ((xadd a1 1)).toNat (σ (k + 1) (a1).toNat)) (k + 2) ((xadd a1 1)).toNat ((xwr σ (k + 1) ((xadd a1 1)).toNat (σ (k + 1) (a1).toNat)) (k + 2) (a1).toNat)) (k + 3) ((xadd a1 1)).toNat ((xwr (xwr σ (k + 1) ((xadd a1 1)).toNat (σ (k + 1) (a1).toNat)) (k + 2) ((xadd a1 1)).toNat ((xwr σ (k + 1) ((xadd a1 1)).toNat (σ (k + 1) (a1).toNat)) (k + 2) (a1).toNat)) (k + 3) (a1).toNat)) (k + 4) (a1).toNat)) (k + 5) (a1).toNat)) (k + 6) (a1).toNat) 10) a2)) (k + 7) (a1).toNat) 1)) (k + 8) (a1).toNat)) else σ)))
set_option maxHeartbeats 200000 in
theorem s123 {X : Nat × (Nat → Int)} {d : Nat} {k : Nat} {a1 : Int} {a2 : Int} {σ : xM} (hk : isRdg k) (h0 : 0 ≤ a1) (h1 : a1 < 11) : Ev X d 123 0 [some (vr k), some (vi a1), some (vi a2)] [] SH σ = some (some (vi (f123 σ k a1 a2)), SH, (g123 σ k a1 a2)) := by
  refine Eq.trans (b123_0 hk (by first | omega | (simp (disch := omega) only [xadd_eq, xsub_eq, xmul_eq] <;> omega) | (simp (disch := omega) only [xadd_eq, xsub_eq] at *; omega) | (simp [g92, xwr] <;> omega) | exact z20 | exact z63 | exact z94 | exact z111 | exact z115)) ?_
  refine x_if (fun c1 => ?_) (fun c1 => ?_)
  · refine Eq.trans (b123_28) ?_
    simp only [f123, g123, if_pos c1]
  · refine Eq.trans (b123_10 hk (by first | omega | (simp (disch := omega) only [xadd_eq, xsub_eq, xmul_eq] <;> omega) | (simp (disch := omega) only [xadd_eq, xsub_eq] at *; omega) | (simp [g92, xwr] <;> omega) | exact z20 | exact z63 | exact z94 | exact z111 | exact z115)) ?_
    refine x_if (fun c2 => ?_) (fun c2 => ?_)
    · refine Eq.trans (b123_30 hk (by first | omega | (simp (disch := omega) only [xadd_eq, xsub_eq, xmul_eq] <;> omega) | (simp (disch := omega) only [xadd_eq, xsub_eq] at *; omega) | (simp [g92, xwr] <;> omega) | exact z20 | exact z63 | exact z94 | exact z111 | exact z115) (by first | omega | (simp (disch := omega) only [xadd_eq, xsub_eq, xmul_eq] <;> omega) | (simp (disch := omega) only [xadd_eq, xsub_eq] at *; omega) | (simp [g92, xwr] <;> omega) | exact z20 | exact z63 | exact z94 | exact z111 | exact z115)) ?_
      simp only [f123, g123, if_neg c1, if_pos c2]
    · refine Eq.trans (b123_19 hk (by first | omega | (simp (disch := omega) only [xadd_eq, xsub_eq, xmul_eq] <;> omega) | (simp (disch := omega) only [xadd_eq, xsub_eq] at *; omega) | (simp [g92, xwr] <;> omega) | exact z20 | exact z63 | exact z94 | exact z111 | exact z115)) ?_
      refine x_if (fun c3 => ?_) (fun c3 => ?_)
      · refine Eq.trans (b123_30 hk (by first | omega | (simp (disch := omega) only [xadd_eq, xsub_eq, xmul_eq] <;> omega) | (simp (disch := omega) only [xadd_eq, xsub_eq] at *; omega) | (simp [g92, xwr] <;> omega) | exact z20 | exact z63 | exact z94 | exact z111 | exact z115) (by first | omega | (simp (disch := omega) only [xadd_eq, xsub_eq, xmul_eq] <;> omega) | (simp (disch := omega) only [xadd_eq, xsub_eq] at *; omega) | (simp [g92, xwr] <;> omega) | exact z20 | exact z63 | exact z94 | exact z111 | exact z115)) ?_
        simp only [f123, g123, if_neg c1, if_neg c2, if_pos c3]
      · refine Eq.trans (b123_28) ?_
        simp only [f123, g123, if_neg c1, if_neg c2, if_neg c3]
theorem z123 {σ : xM} {k : Nat} {a1 : Int} {a2 : Int} : f123 σ k a1 a2 = 0 ∨ f123 σ k a1 a2 = 1 := by
  unfold f123
  (repeat' split) <;> first | exact Or.inl rfl | exact Or.inr rfl | exact z20 | exact z63 | exact z94 | exact z111 | exact z115

/-- StickSums$Reading lostWith (I)I -/
def f126 (σ : xM) (k : Nat) (a1 : Int) : Int := (if (σ (k + 5) (a1).toNat) ≠ 47 then (σ (k + 8) (a1).toNat) else (if (σ (k + 6) (a1).toNat) ≠ 0 then (σ (k + 8) (a1).toNat) else (xor' (σ (k + 8) (a1).toNat) (xshl 1 (σ (k + 1) (a1).toNat)))))
set_option maxHeartbeats 200000 in
theorem s126 {X : Nat × (Nat → Int)} {d : Nat} {k : Nat} {a1 : Int} {σ : xM} (hk : isRdg k) (h0 : 0 ≤ a1) (h1 : a1 < 12) : Ev X d 126 0 [some (vr k), some (vi a1)] [] SH σ = some (some (vi (f126 σ k a1)), SH, σ) := by
  refine Eq.trans (b126_0 hk (by first | omega | (simp (disch := omega) only [xadd_eq, xsub_eq, xmul_eq] <;> omega) | (simp (disch := omega) only [xadd_eq, xsub_eq] at *; omega) | (simp [g92, xwr] <;> omega) | exact z20 | exact z63 | exact z94 | exact z111 | exact z115 | exact z123)) ?_
  refine x_if (fun c1 => ?_) (fun c1 => ?_)
  · refine Eq.trans (b126_38 hk (by first | omega | (simp (disch := omega) only [xadd_eq, xsub_eq, xmul_eq] <;> omega) | (simp (disch := omega) only [xadd_eq, xsub_eq] at *; omega) | (simp [g92, xwr] <;> omega) | exact z20 | exact z63 | exact z94 | exact z111 | exact z115 | exact z123)) ?_
    refine Eq.trans (b126_44) ?_
    simp only [f126, if_pos c1]
  · refine Eq.trans (b126_11 hk (by first | omega | (simp (disch := omega) only [xadd_eq, xsub_eq, xmul_eq] <;> omega) | (simp (disch := omega) only [xadd_eq, xsub_eq] at *; omega) | (simp [g92, xwr] <;> omega) | exact z20 | exact z63 | exact z94 | exact z111 | exact z115 | exact z123)) ?_
    refine x_if (fun c2 => ?_) (fun c2 => ?_)
    · refine Eq.trans (b126_38 hk (by first | omega | (simp (disch := omega) only [xadd_eq, xsub_eq, xmul_eq] <;> omega) | (simp (disch := omega) only [xadd_eq, xsub_eq] at *; omega) | (simp [g92, xwr] <;> omega) | exact z20 | exact z63 | exact z94 | exact z111 | exact z115 | exact z123)) ?_
      refine Eq.trans (b126_44) ?_
      simp only [f126, if_neg c1, if_pos c2]
    · refine Eq.trans (b126_20 hk (by first | omega | (simp (disch := omega) only [xadd_eq, xsub_eq, xmul_eq] <;> omega) | (simp (disch := omega) only [xadd_eq, xsub_eq] at *; omega) | (simp [g92, xwr] <;> omega) | exact z20 | exact z63 | exact z94 | exact z111 | exact z115 | exact z123)) ?_
      refine Eq.trans (b126_44) ?_
      simp only [f126, if_neg c1, if_neg c2]

/-- StickSums$Reading isWhole (I)Z -/
def f127 (σ : xM) (k : Nat) (a1 : Int) : Int := (if a1 < 0 then 0 else (if 11 < a1 then 0 else (if (σ (k + 1) (a1).toNat) ≠ 1 then 0 else (if (σ (k + 7) (a1).toNat) ≤ 0 then 0 else 1))))
set_option maxHeartbeats 200000 in
theorem s127 {X : Nat × (Nat → Int)} {d : Nat} {k : Nat} {a1 : Int} {σ : xM} (hk : isRdg k) : Ev X d 127 0 [some (vr k), some (vi a1)] [] SH σ = some (some (vi (f127 σ k a1)), SH, σ) := by
  refine Eq.trans (b127_0) ?_
  refine x_if (fun c1 => ?_) (fun c1 => ?_)
  · refine Eq.trans (b127_33) ?_
    refine Eq.trans (b127_34 (by first | omega | (simp (disch := omega) only [xadd_eq, xsub_eq, xmul_eq] <;> omega) | (simp (disch := omega) only [xadd_eq, xsub_eq] at *; omega) | (simp [g92, xwr] <;> omega) | exact z20 | exact z63 | exact z94 | exact z111 | exact z115 | exact z123)) ?_
    simp only [f127, if_pos c1]
  · refine Eq.trans (b127_4) ?_
    refine x_if (fun c2 => ?_) (fun c2 => ?_)
    · refine Eq.trans (b127_33) ?_
      refine Eq.trans (b127_34 (by first | omega | (simp (disch := omega) only [xadd_eq, xsub_eq, xmul_eq] <;> omega) | (simp (disch := omega) only [xadd_eq, xsub_eq] at *; omega) | (simp [g92, xwr] <;> omega) | exact z20 | exact z63 | exact z94 | exact z111 | exact z115 | exact z123)) ?_
      simp only [f127, if_neg c1, if_pos c2]
    · refine Eq.trans (b127_10 hk (by first | omega | (simp (disch := omega) only [xadd_eq, xsub_eq, xmul_eq] <;> omega) | (simp (disch := omega) only [xadd_eq, xsub_eq] at *; omega) | (simp [g92, xwr] <;> omega) | exact z20 | exact z63 | exact z94 | exact z111 | exact z115 | exact z123)) ?_
      refine x_if (fun c3 => ?_) (fun c3 => ?_)
      · refine Eq.trans (b127_33) ?_
        refine Eq.trans (b127_34 (by first | omega | (simp (disch := omega) only [xadd_eq, xsub_eq, xmul_eq] <;> omega) | (simp (disch := omega) only [xadd_eq, xsub_eq] at *; omega) | (simp [g92, xwr] <;> omega) | exact z20 | exact z63 | exact z94 | exact z111 | exact z115 | exact z123)) ?_
        simp only [f127, if_neg c1, if_neg c2, if_pos c3]
      · refine Eq.trans (b127_20 hk (by first | omega | (simp (disch := omega) only [xadd_eq, xsub_eq, xmul_eq] <;> omega) | (simp (disch := omega) only [xadd_eq, xsub_eq] at *; omega) | (simp [g92, xwr] <;> omega) | exact z20 | exact z63 | exact z94 | exact z111 | exact z115 | exact z123)) ?_
        refine x_if (fun c4 => ?_) (fun c4 => ?_)
        · refine Eq.trans (b127_33) ?_
          refine Eq.trans (b127_34 (by first | omega | (simp (disch := omega) only [xadd_eq, xsub_eq, xmul_eq] <;> omega) | (simp (disch := omega) only [xadd_eq, xsub_eq] at *; omega) | (simp [g92, xwr] <;> omega) | exact z20 | exact z63 | exact z94 | exact z111 | exact z115 | exact z123)) ?_
          simp only [f127, if_neg c1, if_neg c2, if_neg c3, if_pos c4]
        · refine Eq.trans (b127_29) ?_
          refine Eq.trans (b127_34 (by first | omega | (simp (disch := omega) only [xadd_eq, xsub_eq, xmul_eq] <;> omega) | (simp (disch := omega) only [xadd_eq, xsub_eq] at *; omega) | (simp [g92, xwr] <;> omega) | exact z20 | exact z63 | exact z94 | exact z111 | exact z115 | exact z123)) ?_
          simp only [f127, if_neg c1, if_neg c2, if_neg c3, if_neg c4]
theorem z127 {σ : xM} {k : Nat} {a1 : Int} : f127 σ k a1 = 0 ∨ f127 σ k a1 = 1 := by
  unfold f127
  (repeat' split) <;> first | exact Or.inl rfl | exact Or.inr rfl | exact z20 | exact z63 | exact z94 | exact z111 | exact z115 | exact z123

/-- StickSums$Reading isParted (I)Z -/
def f131 (σ : xM) (k : Nat) (a1 : Int) : Int := (if a1 < 0 then 0 else (if 11 < a1 then 0 else (if (σ (k + 1) (a1).toNat) ≠ 1 then 0 else 1)))
set_option maxHeartbeats 200000 in
theorem s131 {X : Nat × (Nat → Int)} {d : Nat} {k : Nat} {a1 : Int} {σ : xM} (hk : isRdg k) : Ev X d 131 0 [some (vr k), some (vi a1)] [] SH σ = some (some (vi (f131 σ k a1)), SH, σ) := by
  refine Eq.trans (b131_0) ?_
  refine x_if (fun c1 => ?_) (fun c1 => ?_)
  · refine Eq.trans (b131_24) ?_
    refine Eq.trans (b131_25 (by first | omega | (simp (disch := omega) only [xadd_eq, xsub_eq, xmul_eq] <;> omega) | (simp (disch := omega) only [xadd_eq, xsub_eq] at *; omega) | (simp [g92, xwr] <;> omega) | exact z20 | exact z63 | exact z94 | exact z111 | exact z115 | exact z123 | exact z127)) ?_
    simp only [f131, if_pos c1]
  · refine Eq.trans (b131_4) ?_
    refine x_if (fun c2 => ?_) (fun c2 => ?_)
    · refine Eq.trans (b131_24) ?_
      refine Eq.trans (b131_25 (by first | omega | (simp (disch := omega) only [xadd_eq, xsub_eq, xmul_eq] <;> omega) | (simp (disch := omega) only [xadd_eq, xsub_eq] at *; omega) | (simp [g92, xwr] <;> omega) | exact z20 | exact z63 | exact z94 | exact z111 | exact z115 | exact z123 | exact z127)) ?_
      simp only [f131, if_neg c1, if_pos c2]
    · refine Eq.trans (b131_10 hk (by first | omega | (simp (disch := omega) only [xadd_eq, xsub_eq, xmul_eq] <;> omega) | (simp (disch := omega) only [xadd_eq, xsub_eq] at *; omega) | (simp [g92, xwr] <;> omega) | exact z20 | exact z63 | exact z94 | exact z111 | exact z115 | exact z123 | exact z127)) ?_
      refine x_if (fun c3 => ?_) (fun c3 => ?_)
      · refine Eq.trans (b131_24) ?_
        refine Eq.trans (b131_25 (by first | omega | (simp (disch := omega) only [xadd_eq, xsub_eq, xmul_eq] <;> omega) | (simp (disch := omega) only [xadd_eq, xsub_eq] at *; omega) | (simp [g92, xwr] <;> omega) | exact z20 | exact z63 | exact z94 | exact z111 | exact z115 | exact z123 | exact z127)) ?_
        simp only [f131, if_neg c1, if_neg c2, if_pos c3]
      · refine Eq.trans (b131_20) ?_
        refine Eq.trans (b131_25 (by first | omega | (simp (disch := omega) only [xadd_eq, xsub_eq, xmul_eq] <;> omega) | (simp (disch := omega) only [xadd_eq, xsub_eq] at *; omega) | (simp [g92, xwr] <;> omega) | exact z20 | exact z63 | exact z94 | exact z111 | exact z115 | exact z123 | exact z127)) ?_
        simp only [f131, if_neg c1, if_neg c2, if_neg c3]
theorem z131 {σ : xM} {k : Nat} {a1 : Int} : f131 σ k a1 = 0 ∨ f131 σ k a1 = 1 := by
  unfold f131
  (repeat' split) <;> first | exact Or.inl rfl | exact Or.inr rfl | exact z20 | exact z63 | exact z94 | exact z111 | exact z115 | exact z123 | exact z127

/-- StickSums$Reading isLost (I)Z -/
def f132 (σ : xM) (k : Nat) (a1 : Int) : Int := (if a1 < 0 then 0 else (if 11 < a1 then 0 else (if (σ (k + 8) (a1).toNat) = 0 then 0 else 1)))
set_option maxHeartbeats 200000 in
theorem s132 {X : Nat × (Nat → Int)} {d : Nat} {k : Nat} {a1 : Int} {σ : xM} (hk : isRdg k) : Ev X d 132 0 [some (vr k), some (vi a1)] [] SH σ = some (some (vi (f132 σ k a1)), SH, σ) := by
  refine Eq.trans (b132_0) ?_
  refine x_if (fun c1 => ?_) (fun c1 => ?_)
  · refine Eq.trans (b132_23) ?_
    refine Eq.trans (b132_24 (by first | omega | (simp (disch := omega) only [xadd_eq, xsub_eq, xmul_eq] <;> omega) | (simp (disch := omega) only [xadd_eq, xsub_eq] at *; omega) | (simp [g92, xwr] <;> omega) | exact z20 | exact z63 | exact z94 | exact z111 | exact z115 | exact z123 | exact z127 | exact z131)) ?_
    simp only [f132, if_pos c1]
  · refine Eq.trans (b132_4) ?_
    refine x_if (fun c2 => ?_) (fun c2 => ?_)
    · refine Eq.trans (b132_23) ?_
      refine Eq.trans (b132_24 (by first | omega | (simp (disch := omega) only [xadd_eq, xsub_eq, xmul_eq] <;> omega) | (simp (disch := omega) only [xadd_eq, xsub_eq] at *; omega) | (simp [g92, xwr] <;> omega) | exact z20 | exact z63 | exact z94 | exact z111 | exact z115 | exact z123 | exact z127 | exact z131)) ?_
      simp only [f132, if_neg c1, if_pos c2]
    · refine Eq.trans (b132_10 hk (by first | omega | (simp (disch := omega) only [xadd_eq, xsub_eq, xmul_eq] <;> omega) | (simp (disch := omega) only [xadd_eq, xsub_eq] at *; omega) | (simp [g92, xwr] <;> omega) | exact z20 | exact z63 | exact z94 | exact z111 | exact z115 | exact z123 | exact z127 | exact z131)) ?_
      refine x_if (fun c3 => ?_) (fun c3 => ?_)
      · refine Eq.trans (b132_23) ?_
        refine Eq.trans (b132_24 (by first | omega | (simp (disch := omega) only [xadd_eq, xsub_eq, xmul_eq] <;> omega) | (simp (disch := omega) only [xadd_eq, xsub_eq] at *; omega) | (simp [g92, xwr] <;> omega) | exact z20 | exact z63 | exact z94 | exact z111 | exact z115 | exact z123 | exact z127 | exact z131)) ?_
        simp only [f132, if_neg c1, if_neg c2, if_pos c3]
      · refine Eq.trans (b132_19) ?_
        refine Eq.trans (b132_24 (by first | omega | (simp (disch := omega) only [xadd_eq, xsub_eq, xmul_eq] <;> omega) | (simp (disch := omega) only [xadd_eq, xsub_eq] at *; omega) | (simp [g92, xwr] <;> omega) | exact z20 | exact z63 | exact z94 | exact z111 | exact z115 | exact z123 | exact z127 | exact z131)) ?_
        simp only [f132, if_neg c1, if_neg c2, if_neg c3]
theorem z132 {σ : xM} {k : Nat} {a1 : Int} : f132 σ k a1 = 0 ∨ f132 σ k a1 = 1 := by
  unfold f132
  (repeat' split) <;> first | exact Or.inl rfl | exact Or.inr rfl | exact z20 | exact z63 | exact z94 | exact z111 | exact z115 | exact z123 | exact z127 | exact z131

/-- StickSums$Reading canBecomeTrue (II)Z -/
def f133 (σ : xM) (k : Nat) (a1 : Int) (a2 : Int) : Int := (if a1 < 0 then 0 else (if 11 < a1 then 0 else (if a2 < 0 then 0 else (if a2 ≤ 4 then (if (σ (k + 5) (a1).toNat) = 42 then 1 else (if (σ (k + 5) (a1).toNat) ≠ 47 then (if (σ (k + 5) (a1).toNat) ≠ 43 then (if (xsub (σ (k + 3) (a1).toNat) (σ (k + 2) (a1).toNat)) < (xmul (σ (k + 6) (a1).toNat) (xcv 4 (a2).toNat)) then 0 else (if (xmul (xadd (σ (k + 6) (a1).toNat) 1) (xcv 4 (a2).toNat)) ≤ (xsub (σ (k + 3) (a1).toNat) (σ (k + 2) (a1).toNat)) then 0 else 1)) else (if (xsub (σ (k + 2) (a1).toNat) (σ (k + 3) (a1).toNat)) < (xmul (σ (k + 6) (a1).toNat) (xcv 4 (a2).toNat)) then 0 else (if (xmul (xadd (σ (k + 6) (a1).toNat) 1) (xcv 4 (a2).toNat)) ≤ (xsub (σ (k + 2) (a1).toNat) (σ (k + 3) (a1).toNat)) then 0 else 1))) else 1)) else 0))))
set_option maxHeartbeats 200000 in
theorem s133 {X : Nat × (Nat → Int)} {d : Nat} {k : Nat} {a1 : Int} {a2 : Int} {σ : xM} (hk : isRdg k) : Ev X d 133 0 [some (vr k), some (vi a1), some (vi a2), none] [] SH σ = some (some (vi (f133 σ k a1 a2)), SH, σ) := by
  refine Eq.trans (b133_0) ?_
  refine x_if (fun c1 => ?_) (fun c1 => ?_)
  · refine Eq.trans (b133_19) ?_
    simp only [f133, if_pos c1]
  · refine Eq.trans (b133_4) ?_
    refine x_if (fun c2 => ?_) (fun c2 => ?_)
    · refine Eq.trans (b133_19) ?_
      simp only [f133, if_neg c1, if_pos c2]
    · refine Eq.trans (b133_10) ?_
      refine x_if (fun c3 => ?_) (fun c3 => ?_)
      · refine Eq.trans (b133_19) ?_
        simp only [f133, if_neg c1, if_neg c2, if_pos c3]
      · refine Eq.trans (b133_14) ?_
        refine x_if (fun c4 => ?_) (fun c4 => ?_)
        · refine Eq.trans (b133_21 hk (by first | omega | (simp (disch := omega) only [xadd_eq, xsub_eq, xmul_eq] <;> omega) | (simp (disch := omega) only [xadd_eq, xsub_eq] at *; omega) | (simp [g92, xwr] <;> omega) | exact z20 | exact z63 | exact z94 | exact z111 | exact z115 | exact z123 | exact z127 | exact z131 | exact z132)) ?_
          refine x_if (fun c5 => ?_) (fun c5 => ?_)
          · refine Eq.trans (b133_43) ?_
            simp only [f133, if_neg c1, if_neg c2, if_neg c3, if_pos c4, if_pos c5]
          · refine Eq.trans (b133_32 hk (by first | omega | (simp (disch := omega) only [xadd_eq, xsub_eq, xmul_eq] <;> omega) | (simp (disch := omega) only [xadd_eq, xsub_eq] at *; omega) | (simp [g92, xwr] <;> omega) | exact z20 | exact z63 | exact z94 | exact z111 | exact z115 | exact z123 | exact z127 | exact z131 | exact z132)) ?_
            refine x_if (fun c6 => ?_) (fun c6 => ?_)
            · refine Eq.trans (b133_45 hk (by first | omega | (simp (disch := omega) only [xadd_eq, xsub_eq, xmul_eq] <;> omega) | (simp (disch := omega) only [xadd_eq, xsub_eq] at *; omega) | (simp [g92, xwr] <;> omega) | exact z20 | exact z63 | exact z94 | exact z111 | exact z115 | exact z123 | exact z127 | exact z131 | exact z132)) ?_
              refine x_if (fun c7 => ?_) (fun c7 => ?_)
              · refine Eq.trans (b133_72 hk (by first | omega | (simp (disch := omega) only [xadd_eq, xsub_eq, xmul_eq] <;> omega) | (simp (disch := omega) only [xadd_eq, xsub_eq] at *; omega) | (simp [g92, xwr] <;> omega) | exact z20 | exact z63 | exact z94 | exact z111 | exact z115 | exact z123 | exact z127 | exact z131 | exact z132)) ?_
                refine Eq.trans (b133_85 hk (by first | omega | (simp (disch := omega) only [xadd_eq, xsub_eq, xmul_eq] <;> omega) | (simp (disch := omega) only [xadd_eq, xsub_eq] at *; omega) | (simp [g92, xwr] <;> omega) | exact z20 | exact z63 | exact z94 | exact z111 | exact z115 | exact z123 | exact z127 | exact z131 | exact z132) (by first | omega | (simp (disch := omega) only [xadd_eq, xsub_eq, xmul_eq] <;> omega) | (simp (disch := omega) only [xadd_eq, xsub_eq] at *; omega) | (simp [g92, xwr] <;> omega) | exact z20 | exact z63 | exact z94 | exact z111 | exact z115 | exact z123 | exact z127 | exact z131 | exact z132)) ?_
                refine x_if (fun c8 => ?_) (fun c8 => ?_)
                · refine Eq.trans (b133_124) ?_
                  refine Eq.trans (b133_125 (by first | omega | (simp (disch := omega) only [xadd_eq, xsub_eq, xmul_eq] <;> omega) | (simp (disch := omega) only [xadd_eq, xsub_eq] at *; omega) | (simp [g92, xwr] <;> omega) | exact z20 | exact z63 | exact z94 | exact z111 | exact z115 | exact z123 | exact z127 | exact z131 | exact z132)) ?_
                  simp only [f133, if_neg c1, if_neg c2, if_neg c3, if_pos c4, if_neg c5, if_pos c6, if_pos c7, if_pos c8]
                · refine Eq.trans (b133_102 hk (by first | omega | (simp (disch := omega) only [xadd_eq, xsub_eq, xmul_eq] <;> omega) | (simp (disch := omega) only [xadd_eq, xsub_eq] at *; omega) | (simp [g92, xwr] <;> omega) | exact z20 | exact z63 | exact z94 | exact z111 | exact z115 | exact z123 | exact z127 | exact z131 | exact z132) (by first | omega | (simp (disch := omega) only [xadd_eq, xsub_eq, xmul_eq] <;> omega) | (simp (disch := omega) only [xadd_eq, xsub_eq] at *; omega) | (simp [g92, xwr] <;> omega) | exact z20 | exact z63 | exact z94 | exact z111 | exact z115 | exact z123 | exact z127 | exact z131 | exact z132)) ?_
                  refine x_if (fun c9 => ?_) (fun c9 => ?_)
                  · refine Eq.trans (b133_124) ?_
                    refine Eq.trans (b133_125 (by first | omega | (simp (disch := omega) only [xadd_eq, xsub_eq, xmul_eq] <;> omega) | (simp (disch := omega) only [xadd_eq, xsub_eq] at *; omega) | (simp [g92, xwr] <;> omega) | exact z20 | exact z63 | exact z94 | exact z111 | exact z115 | exact z123 | exact z127 | exact z131 | exact z132)) ?_
                    simp only [f133, if_neg c1, if_neg c2, if_neg c3, if_pos c4, if_neg c5, if_pos c6, if_pos c7, if_neg c8, if_pos c9]
                  · refine Eq.trans (b133_120) ?_
                    refine Eq.trans (b133_125 (by first | omega | (simp (disch := omega) only [xadd_eq, xsub_eq, xmul_eq] <;> omega) | (simp (disch := omega) only [xadd_eq, xsub_eq] at *; omega) | (simp [g92, xwr] <;> omega) | exact z20 | exact z63 | exact z94 | exact z111 | exact z115 | exact z123 | exact z127 | exact z131 | exact z132)) ?_
                    simp only [f133, if_neg c1, if_neg c2, if_neg c3, if_pos c4, if_neg c5, if_pos c6, if_pos c7, if_neg c8, if_neg c9]
              · refine Eq.trans (b133_56 hk (by first | omega | (simp (disch := omega) only [xadd_eq, xsub_eq, xmul_eq] <;> omega) | (simp (disch := omega) only [xadd_eq, xsub_eq] at *; omega) | (simp [g92, xwr] <;> omega) | exact z20 | exact z63 | exact z94 | exact z111 | exact z115 | exact z123 | exact z127 | exact z131 | exact z132)) ?_
                refine Eq.trans (b133_85 hk (by first | omega | (simp (disch := omega) only [xadd_eq, xsub_eq, xmul_eq] <;> omega) | (simp (disch := omega) only [xadd_eq, xsub_eq] at *; omega) | (simp [g92, xwr] <;> omega) | exact z20 | exact z63 | exact z94 | exact z111 | exact z115 | exact z123 | exact z127 | exact z131 | exact z132) (by first | omega | (simp (disch := omega) only [xadd_eq, xsub_eq, xmul_eq] <;> omega) | (simp (disch := omega) only [xadd_eq, xsub_eq] at *; omega) | (simp [g92, xwr] <;> omega) | exact z20 | exact z63 | exact z94 | exact z111 | exact z115 | exact z123 | exact z127 | exact z131 | exact z132)) ?_
                refine x_if (fun c10 => ?_) (fun c10 => ?_)
                · refine Eq.trans (b133_124) ?_
                  refine Eq.trans (b133_125 (by first | omega | (simp (disch := omega) only [xadd_eq, xsub_eq, xmul_eq] <;> omega) | (simp (disch := omega) only [xadd_eq, xsub_eq] at *; omega) | (simp [g92, xwr] <;> omega) | exact z20 | exact z63 | exact z94 | exact z111 | exact z115 | exact z123 | exact z127 | exact z131 | exact z132)) ?_
                  simp only [f133, if_neg c1, if_neg c2, if_neg c3, if_pos c4, if_neg c5, if_pos c6, if_neg c7, if_pos c10]
                · refine Eq.trans (b133_102 hk (by first | omega | (simp (disch := omega) only [xadd_eq, xsub_eq, xmul_eq] <;> omega) | (simp (disch := omega) only [xadd_eq, xsub_eq] at *; omega) | (simp [g92, xwr] <;> omega) | exact z20 | exact z63 | exact z94 | exact z111 | exact z115 | exact z123 | exact z127 | exact z131 | exact z132) (by first | omega | (simp (disch := omega) only [xadd_eq, xsub_eq, xmul_eq] <;> omega) | (simp (disch := omega) only [xadd_eq, xsub_eq] at *; omega) | (simp [g92, xwr] <;> omega) | exact z20 | exact z63 | exact z94 | exact z111 | exact z115 | exact z123 | exact z127 | exact z131 | exact z132)) ?_
                  refine x_if (fun c11 => ?_) (fun c11 => ?_)
                  · refine Eq.trans (b133_124) ?_
                    refine Eq.trans (b133_125 (by first | omega | (simp (disch := omega) only [xadd_eq, xsub_eq, xmul_eq] <;> omega) | (simp (disch := omega) only [xadd_eq, xsub_eq] at *; omega) | (simp [g92, xwr] <;> omega) | exact z20 | exact z63 | exact z94 | exact z111 | exact z115 | exact z123 | exact z127 | exact z131 | exact z132)) ?_
                    simp only [f133, if_neg c1, if_neg c2, if_neg c3, if_pos c4, if_neg c5, if_pos c6, if_neg c7, if_neg c10, if_pos c11]
                  · refine Eq.trans (b133_120) ?_
                    refine Eq.trans (b133_125 (by first | omega | (simp (disch := omega) only [xadd_eq, xsub_eq, xmul_eq] <;> omega) | (simp (disch := omega) only [xadd_eq, xsub_eq] at *; omega) | (simp [g92, xwr] <;> omega) | exact z20 | exact z63 | exact z94 | exact z111 | exact z115 | exact z123 | exact z127 | exact z131 | exact z132)) ?_
                    simp only [f133, if_neg c1, if_neg c2, if_neg c3, if_pos c4, if_neg c5, if_pos c6, if_neg c7, if_neg c10, if_neg c11]
            · refine Eq.trans (b133_43) ?_
              simp only [f133, if_neg c1, if_neg c2, if_neg c3, if_pos c4, if_neg c5, if_neg c6]
        · refine Eq.trans (b133_19) ?_
          simp only [f133, if_neg c1, if_neg c2, if_neg c3, if_neg c4]
theorem z133 {σ : xM} {k : Nat} {a1 : Int} {a2 : Int} : f133 σ k a1 a2 = 0 ∨ f133 σ k a1 a2 = 1 := by
  unfold f133
  (repeat' split) <;> first | exact Or.inl rfl | exact Or.inr rfl | exact z20 | exact z63 | exact z94 | exact z111 | exact z115 | exact z123 | exact z127 | exact z131 | exact z132

/-- StickSums$Row has (I)Z -/
def f136 (σ : xM) (k : Nat) (a1 : Int) : Int := (if a1 < 0 then 0 else (if (σ k 0) ≤ a1 then 0 else (if 11 ≤ a1 then 0 else 1)))
set_option maxHeartbeats 200000 in
theorem s136 {X : Nat × (Nat → Int)} {d : Nat} {k : Nat} {a1 : Int} {σ : xM} (hk : isRow k) : Ev X d 136 0 [some (vr k), some (vi a1)] [] SH σ = some (some (vi (f136 σ k a1)), SH, σ) := by
  refine Eq.trans (b136_0) ?_
  refine x_if (fun c1 => ?_) (fun c1 => ?_)
  · refine Eq.trans (b136_22) ?_
    refine Eq.trans (b136_23 (by first | omega | (simp (disch := omega) only [xadd_eq, xsub_eq, xmul_eq] <;> omega) | (simp (disch := omega) only [xadd_eq, xsub_eq] at *; omega) | (simp [g92, xwr] <;> omega) | exact z20 | exact z63 | exact z94 | exact z111 | exact z115 | exact z123 | exact z127 | exact z131 | exact z132 | exact z133)) ?_
    simp only [f136, if_pos c1]
  · refine Eq.trans (b136_4 hk) ?_
    refine x_if (fun c2 => ?_) (fun c2 => ?_)
    · refine Eq.trans (b136_22) ?_
      refine Eq.trans (b136_23 (by first | omega | (simp (disch := omega) only [xadd_eq, xsub_eq, xmul_eq] <;> omega) | (simp (disch := omega) only [xadd_eq, xsub_eq] at *; omega) | (simp [g92, xwr] <;> omega) | exact z20 | exact z63 | exact z94 | exact z111 | exact z115 | exact z123 | exact z127 | exact z131 | exact z132 | exact z133)) ?_
      simp only [f136, if_neg c1, if_pos c2]
    · refine Eq.trans (b136_12) ?_
      refine x_if (fun c3 => ?_) (fun c3 => ?_)
      · refine Eq.trans (b136_22) ?_
        refine Eq.trans (b136_23 (by first | omega | (simp (disch := omega) only [xadd_eq, xsub_eq, xmul_eq] <;> omega) | (simp (disch := omega) only [xadd_eq, xsub_eq] at *; omega) | (simp [g92, xwr] <;> omega) | exact z20 | exact z63 | exact z94 | exact z111 | exact z115 | exact z123 | exact z127 | exact z131 | exact z132 | exact z133)) ?_
        simp only [f136, if_neg c1, if_neg c2, if_pos c3]
      · refine Eq.trans (b136_18) ?_
        refine Eq.trans (b136_23 (by first | omega | (simp (disch := omega) only [xadd_eq, xsub_eq, xmul_eq] <;> omega) | (simp (disch := omega) only [xadd_eq, xsub_eq] at *; omega) | (simp [g92, xwr] <;> omega) | exact z20 | exact z63 | exact z94 | exact z111 | exact z115 | exact z123 | exact z127 | exact z131 | exact z132 | exact z133)) ?_
        simp only [f136, if_neg c1, if_neg c2, if_neg c3]
theorem z136 {σ : xM} {k : Nat} {a1 : Int} : f136 σ k a1 = 0 ∨ f136 σ k a1 = 1 := by
  unfold f136
  (repeat' split) <;> first | exact Or.inl rfl | exact Or.inr rfl | exact z20 | exact z63 | exact z94 | exact z111 | exact z115 | exact z123 | exact z127 | exact z131 | exact z132 | exact z133
theorem p136 {σ : xM} {k : Nat} {a1 : Int} (h : ¬ f136 σ k a1 = 0) : 0 ≤ a1 ∧ a1 < σ k 0 ∧ a1 < 11 := by
  unfold f136 at h
  (repeat' split at h) <;> first | omega | exact absurd rfl h

/-- StickSums$Row hasPlace (II)Z -/
def f137 (σ : xM) (k : Nat) (a1 : Int) (a2 : Int) : Int := (if (f136 σ k a1) = 0 then 0 else (if a2 < 0 then 0 else (if (σ (k + 1) (a1).toNat) = 0 then (if 5 ≤ a2 then 0 else 1) else (if 7 ≤ a2 then 0 else 1))))
set_option maxHeartbeats 200000 in
theorem s137 {X : Nat × (Nat → Int)} {d : Nat} {k : Nat} {a1 : Int} {a2 : Int} {σ : xM} (hk : isRow k) : Ev X (d + 1) 137 0 [some (vr k), some (vi a1), some (vi a2)] [] SH σ = some (some (vi (f137 σ k a1 a2)), SH, σ) := by
  refine Eq.trans (b137_0 hk) ?_
  refine x_bind (s136 (by first | assumption | exact isWlk.rdg (by assumption) | (unfold isRow; decide) | (unfold isRdg; decide) | (unfold isWlk; decide) | rfl)) ?_
  refine Eq.trans (b137_5) ?_
  refine x_if (fun c1 => ?_) (fun c1 => ?_)
  · refine Eq.trans (b137_35) ?_
    refine Eq.trans (b137_36 (by first | omega | (simp (disch := omega) only [xadd_eq, xsub_eq, xmul_eq] <;> omega) | (have := p136 (by assumption); omega) | (have := p136 (by assumption); simp (disch := omega) only [xadd_eq, xsub_eq] <;> omega) | (simp (disch := omega) only [xadd_eq, xsub_eq] at *; omega) | (simp [g92, xwr] <;> omega) | exact z20 | exact z63 | exact z94 | exact z111 | exact z115 | exact z123 | exact z127 | exact z131 | exact z132 | exact z133 | exact z136)) ?_
    simp only [f137, if_pos c1]
  · refine Eq.trans (b137_8) ?_
    refine x_if (fun c2 => ?_) (fun c2 => ?_)
    · refine Eq.trans (b137_35) ?_
      refine Eq.trans (b137_36 (by first | omega | (simp (disch := omega) only [xadd_eq, xsub_eq, xmul_eq] <;> omega) | (have := p136 (by assumption); omega) | (have := p136 (by assumption); simp (disch := omega) only [xadd_eq, xsub_eq] <;> omega) | (simp (disch := omega) only [xadd_eq, xsub_eq] at *; omega) | (simp [g92, xwr] <;> omega) | exact z20 | exact z63 | exact z94 | exact z111 | exact z115 | exact z123 | exact z127 | exact z131 | exact z132 | exact z133 | exact z136)) ?_
      simp only [f137, if_neg c1, if_pos c2]
    · refine Eq.trans (b137_12 hk (by first | omega | (simp (disch := omega) only [xadd_eq, xsub_eq, xmul_eq] <;> omega) | (have := p136 (by assumption); omega) | (have := p136 (by assumption); simp (disch := omega) only [xadd_eq, xsub_eq] <;> omega) | (simp (disch := omega) only [xadd_eq, xsub_eq] at *; omega) | (simp [g92, xwr] <;> omega) | exact z20 | exact z63 | exact z94 | exact z111 | exact z115 | exact z123 | exact z127 | exact z131 | exact z132 | exact z133 | exact z136)) ?_
      refine x_if (fun c3 => ?_) (fun c3 => ?_)
      · refine Eq.trans (b137_27) ?_
        refine Eq.trans (b137_28) ?_
        refine x_if (fun c4 => ?_) (fun c4 => ?_)
        · refine Eq.trans (b137_35) ?_
          refine Eq.trans (b137_36 (by first | omega | (simp (disch := omega) only [xadd_eq, xsub_eq, xmul_eq] <;> omega) | (have := p136 (by assumption); omega) | (have := p136 (by assumption); simp (disch := omega) only [xadd_eq, xsub_eq] <;> omega) | (simp (disch := omega) only [xadd_eq, xsub_eq] at *; omega) | (simp [g92, xwr] <;> omega) | exact z20 | exact z63 | exact z94 | exact z111 | exact z115 | exact z123 | exact z127 | exact z131 | exact z132 | exact z133 | exact z136)) ?_
          simp only [f137, if_neg c1, if_neg c2, if_pos c3, if_pos c4]
        · refine Eq.trans (b137_31) ?_
          refine Eq.trans (b137_36 (by first | omega | (simp (disch := omega) only [xadd_eq, xsub_eq, xmul_eq] <;> omega) | (have := p136 (by assumption); omega) | (have := p136 (by assumption); simp (disch := omega) only [xadd_eq, xsub_eq] <;> omega) | (simp (disch := omega) only [xadd_eq, xsub_eq] at *; omega) | (simp [g92, xwr] <;> omega) | exact z20 | exact z63 | exact z94 | exact z111 | exact z115 | exact z123 | exact z127 | exact z131 | exact z132 | exact z133 | exact z136)) ?_
          simp only [f137, if_neg c1, if_neg c2, if_pos c3, if_neg c4]
      · refine Eq.trans (b137_22) ?_
        refine Eq.trans (b137_28) ?_
        refine x_if (fun c5 => ?_) (fun c5 => ?_)
        · refine Eq.trans (b137_35) ?_
          refine Eq.trans (b137_36 (by first | omega | (simp (disch := omega) only [xadd_eq, xsub_eq, xmul_eq] <;> omega) | (have := p136 (by assumption); omega) | (have := p136 (by assumption); simp (disch := omega) only [xadd_eq, xsub_eq] <;> omega) | (simp (disch := omega) only [xadd_eq, xsub_eq] at *; omega) | (simp [g92, xwr] <;> omega) | exact z20 | exact z63 | exact z94 | exact z111 | exact z115 | exact z123 | exact z127 | exact z131 | exact z132 | exact z133 | exact z136)) ?_
          simp only [f137, if_neg c1, if_neg c2, if_neg c3, if_pos c5]
        · refine Eq.trans (b137_31) ?_
          refine Eq.trans (b137_36 (by first | omega | (simp (disch := omega) only [xadd_eq, xsub_eq, xmul_eq] <;> omega) | (have := p136 (by assumption); omega) | (have := p136 (by assumption); simp (disch := omega) only [xadd_eq, xsub_eq] <;> omega) | (simp (disch := omega) only [xadd_eq, xsub_eq] at *; omega) | (simp [g92, xwr] <;> omega) | exact z20 | exact z63 | exact z94 | exact z111 | exact z115 | exact z123 | exact z127 | exact z131 | exact z132 | exact z133 | exact z136)) ?_
          simp only [f137, if_neg c1, if_neg c2, if_neg c3, if_neg c5]
theorem z137 {σ : xM} {k : Nat} {a1 : Int} {a2 : Int} : f137 σ k a1 a2 = 0 ∨ f137 σ k a1 a2 = 1 := by
  unfold f137
  (repeat' split) <;> first | exact Or.inl rfl | exact Or.inr rfl | exact z20 | exact z63 | exact z94 | exact z111 | exact z115 | exact z123 | exact z127 | exact z131 | exact z132 | exact z133 | exact z136
theorem p137 {σ : xM} {k : Nat} {a1 a2 : Int} (h : ¬ f137 σ k a1 a2 = 0) : 0 ≤ a1 ∧ a1 < σ k 0 ∧ a1 < 11 ∧ 0 ≤ a2 ∧ a2 < 7 := by
  unfold f137 at h
  split at h
  · exact absurd rfl h
  · have := p136 (by assumption)
    (repeat' split at h) <;> first | omega | exact absurd rfl h

/-- StickSums$Row lies (II)Z -/
def f138 (σ : xM) (k : Nat) (a1 : Int) (a2 : Int) : Int := (if (f137 σ k a1 a2) = 0 then 0 else (if (xand (xshr (σ (k + 2) (a1).toNat) a2) 1) ≠ 1 then 0 else 1))
set_option maxHeartbeats 200000 in
theorem s138 {X : Nat × (Nat → Int)} {d : Nat} {k : Nat} {a1 : Int} {a2 : Int} {σ : xM} (hk : isRow k) : Ev X (d + 2) 138 0 [some (vr k), some (vi a1), some (vi a2)] [] SH σ = some (some (vi (f138 σ k a1 a2)), SH, σ) := by
  refine Eq.trans (b138_0 hk) ?_
  refine x_bind (s137 (by first | assumption | exact isWlk.rdg (by assumption) | (unfold isRow; decide) | (unfold isRdg; decide) | (unfold isWlk; decide) | rfl)) ?_
  refine Eq.trans (b138_6) ?_
  refine x_if (fun c1 => ?_) (fun c1 => ?_)
  · refine Eq.trans (b138_27) ?_
    refine Eq.trans (b138_28 (by first | omega | (simp (disch := omega) only [xadd_eq, xsub_eq, xmul_eq] <;> omega) | (have := p136 (by assumption); omega) | (have := p137 (by assumption); omega) | (have := p136 (by assumption); simp (disch := omega) only [xadd_eq, xsub_eq] <;> omega) | (have := p137 (by assumption); simp (disch := omega) only [xadd_eq, xsub_eq] <;> omega) | (simp (disch := omega) only [xadd_eq, xsub_eq] at *; omega) | (simp [g92, xwr] <;> omega) | exact z20 | exact z63 | exact z94 | exact z111 | exact z115 | exact z123 | exact z127 | exact z131 | exact z132 | exact z133 | exact z136 | exact z137)) ?_
    simp only [f138, if_pos c1]
  · refine Eq.trans (b138_9 hk (by first | omega | (simp (disch := omega) only [xadd_eq, xsub_eq, xmul_eq] <;> omega) | (have := p136 (by assumption); omega) | (have := p137 (by assumption); omega) | (have := p136 (by assumption); simp (disch := omega) only [xadd_eq, xsub_eq] <;> omega) | (have := p137 (by assumption); simp (disch := omega) only [xadd_eq, xsub_eq] <;> omega) | (simp (disch := omega) only [xadd_eq, xsub_eq] at *; omega) | (simp [g92, xwr] <;> omega) | exact z20 | exact z63 | exact z94 | exact z111 | exact z115 | exact z123 | exact z127 | exact z131 | exact z132 | exact z133 | exact z136 | exact z137)) ?_
    refine x_if (fun c2 => ?_) (fun c2 => ?_)
    · refine Eq.trans (b138_27) ?_
      refine Eq.trans (b138_28 (by first | omega | (simp (disch := omega) only [xadd_eq, xsub_eq, xmul_eq] <;> omega) | (have := p136 (by assumption); omega) | (have := p137 (by assumption); omega) | (have := p136 (by assumption); simp (disch := omega) only [xadd_eq, xsub_eq] <;> omega) | (have := p137 (by assumption); simp (disch := omega) only [xadd_eq, xsub_eq] <;> omega) | (simp (disch := omega) only [xadd_eq, xsub_eq] at *; omega) | (simp [g92, xwr] <;> omega) | exact z20 | exact z63 | exact z94 | exact z111 | exact z115 | exact z123 | exact z127 | exact z131 | exact z132 | exact z133 | exact z136 | exact z137)) ?_
      simp only [f138, if_neg c1, if_pos c2]
    · refine Eq.trans (b138_23) ?_
      refine Eq.trans (b138_28 (by first | omega | (simp (disch := omega) only [xadd_eq, xsub_eq, xmul_eq] <;> omega) | (have := p136 (by assumption); omega) | (have := p137 (by assumption); omega) | (have := p136 (by assumption); simp (disch := omega) only [xadd_eq, xsub_eq] <;> omega) | (have := p137 (by assumption); simp (disch := omega) only [xadd_eq, xsub_eq] <;> omega) | (simp (disch := omega) only [xadd_eq, xsub_eq] at *; omega) | (simp [g92, xwr] <;> omega) | exact z20 | exact z63 | exact z94 | exact z111 | exact z115 | exact z123 | exact z127 | exact z131 | exact z132 | exact z133 | exact z136 | exact z137)) ?_
      simp only [f138, if_neg c1, if_neg c2]
theorem z138 {σ : xM} {k : Nat} {a1 : Int} {a2 : Int} : f138 σ k a1 a2 = 0 ∨ f138 σ k a1 a2 = 1 := by
  unfold f138
  (repeat' split) <;> first | exact Or.inl rfl | exact Or.inr rfl | exact z20 | exact z63 | exact z94 | exact z111 | exact z115 | exact z123 | exact z127 | exact z131 | exact z132 | exact z133 | exact z136 | exact z137

/-- StickSums$Row flip (II)V: the cells behind it -/
def g139 (σ : xM) (k : Nat) (a1 : Int) (a2 : Int) : xM := (if (f137 σ k a1 a2) = 0 then σ else (xwr σ (k + 2) (a1).toNat (xxor (σ (k + 2) (a1).toNat) (xshl 1 a2))))
set_option maxHeartbeats 200000 in
theorem s139 {X : Nat × (Nat → Int)} {d : Nat} {k : Nat} {a1 : Int} {a2 : Int} {σ : xM} (hk : isRow k) : Ev X (d + 2) 139 0 [some (vr k), some (vi a1), some (vi a2)] [] SH σ = some (none, SH, (g139 σ k a1 a2)) := by
  refine Eq.trans (b139_0 hk) ?_
  refine x_bind (s137 (by first | assumption | exact isWlk.rdg (by assumption) | (unfold isRow; decide) | (unfold isRdg; decide) | (unfold isWlk; decide) | rfl)) ?_
  refine Eq.trans (b139_6) ?_
  refine x_if (fun c1 => ?_) (fun c1 => ?_)
  · refine Eq.trans (b139_21) ?_
    simp only [g139, if_pos c1]
  · refine Eq.trans (b139_9 hk (by first | omega | (simp (disch := omega) only [xadd_eq, xsub_eq, xmul_eq] <;> omega) | (have := p136 (by assumption); omega) | (have := p137 (by assumption); omega) | (have := p136 (by assumption); simp (disch := omega) only [xadd_eq, xsub_eq] <;> omega) | (have := p137 (by assumption); simp (disch := omega) only [xadd_eq, xsub_eq] <;> omega) | (simp (disch := omega) only [xadd_eq, xsub_eq] at *; omega) | (simp [g92, xwr] <;> omega) | exact z20 | exact z63 | exact z94 | exact z111 | exact z115 | exact z123 | exact z127 | exact z131 | exact z132 | exact z133 | exact z136 | exact z137 | exact z138)) ?_
    refine Eq.trans (b139_21) ?_
    simp only [g139, if_neg c1]

/-- StickSums$Sightings counts (II)Z -/
def f150 (σ : xM) (a1 : Int) (a2 : Int) : Int := (if a2 < (σ 45 (a1).toNat) then 0 else (if (σ 46 (a1).toNat) = (-1) then 1 else (if (σ 46 (a1).toNat) ≤ a2 then 0 else 1)))
set_option maxHeartbeats 200000 in
theorem s150 {X : Nat × (Nat → Int)} {d : Nat} {a1 : Int} {a2 : Int} {σ : xM} (h0 : 0 ≤ a1) (h1 : a1 < 60) : Ev X d 150 0 [some (vr 41), some (vi a1), some (vi a2)] [] SH σ = some (some (vi (f150 σ a1 a2)), SH, σ) := by
  refine Eq.trans (b150_0 (by first | omega | (simp (disch := omega) only [xadd_eq, xsub_eq, xmul_eq] <;> omega) | (have := p136 (by assumption); omega) | (have := p137 (by assumption); omega) | (have := p136 (by assumption); simp (disch := omega) only [xadd_eq, xsub_eq] <;> omega) | (have := p137 (by assumption); simp (disch := omega) only [xadd_eq, xsub_eq] <;> omega) | (simp (disch := omega) only [xadd_eq, xsub_eq] at *; omega) | (simp [g92, xwr] <;> omega) | exact z20 | exact z63 | exact z94 | exact z111 | exact z115 | exact z123 | exact z127 | exact z131 | exact z132 | exact z133 | exact z136 | exact z137 | exact z138)) ?_
  refine x_if (fun c1 => ?_) (fun c1 => ?_)
  · refine Eq.trans (b150_34) ?_
    refine Eq.trans (b150_35 (by first | omega | (simp (disch := omega) only [xadd_eq, xsub_eq, xmul_eq] <;> omega) | (have := p136 (by assumption); omega) | (have := p137 (by assumption); omega) | (have := p136 (by assumption); simp (disch := omega) only [xadd_eq, xsub_eq] <;> omega) | (have := p137 (by assumption); simp (disch := omega) only [xadd_eq, xsub_eq] <;> omega) | (simp (disch := omega) only [xadd_eq, xsub_eq] at *; omega) | (simp [g92, xwr] <;> omega) | exact z20 | exact z63 | exact z94 | exact z111 | exact z115 | exact z123 | exact z127 | exact z131 | exact z132 | exact z133 | exact z136 | exact z137 | exact z138)) ?_
    simp only [f150, if_pos c1]
  · refine Eq.trans (b150_10 (by first | omega | (simp (disch := omega) only [xadd_eq, xsub_eq, xmul_eq] <;> omega) | (have := p136 (by assumption); omega) | (have := p137 (by assumption); omega) | (have := p136 (by assumption); simp (disch := omega) only [xadd_eq, xsub_eq] <;> omega) | (have := p137 (by assumption); simp (disch := omega) only [xadd_eq, xsub_eq] <;> omega) | (simp (disch := omega) only [xadd_eq, xsub_eq] at *; omega) | (simp [g92, xwr] <;> omega) | exact z20 | exact z63 | exact z94 | exact z111 | exact z115 | exact z123 | exact z127 | exact z131 | exact z132 | exact z133 | exact z136 | exact z137 | exact z138)) ?_
    refine x_if (fun c2 => ?_) (fun c2 => ?_)
    · refine Eq.trans (b150_30) ?_
      refine Eq.trans (b150_35 (by first | omega | (simp (disch := omega) only [xadd_eq, xsub_eq, xmul_eq] <;> omega) | (have := p136 (by assumption); omega) | (have := p137 (by assumption); omega) | (have := p136 (by assumption); simp (disch := omega) only [xadd_eq, xsub_eq] <;> omega) | (have := p137 (by assumption); simp (disch := omega) only [xadd_eq, xsub_eq] <;> omega) | (simp (disch := omega) only [xadd_eq, xsub_eq] at *; omega) | (simp [g92, xwr] <;> omega) | exact z20 | exact z63 | exact z94 | exact z111 | exact z115 | exact z123 | exact z127 | exact z131 | exact z132 | exact z133 | exact z136 | exact z137 | exact z138)) ?_
      simp only [f150, if_neg c1, if_pos c2]
    · refine Eq.trans (b150_20 (by first | omega | (simp (disch := omega) only [xadd_eq, xsub_eq, xmul_eq] <;> omega) | (have := p136 (by assumption); omega) | (have := p137 (by assumption); omega) | (have := p136 (by assumption); simp (disch := omega) only [xadd_eq, xsub_eq] <;> omega) | (have := p137 (by assumption); simp (disch := omega) only [xadd_eq, xsub_eq] <;> omega) | (simp (disch := omega) only [xadd_eq, xsub_eq] at *; omega) | (simp [g92, xwr] <;> omega) | exact z20 | exact z63 | exact z94 | exact z111 | exact z115 | exact z123 | exact z127 | exact z131 | exact z132 | exact z133 | exact z136 | exact z137 | exact z138)) ?_
      refine x_if (fun c3 => ?_) (fun c3 => ?_)
      · refine Eq.trans (b150_34) ?_
        refine Eq.trans (b150_35 (by first | omega | (simp (disch := omega) only [xadd_eq, xsub_eq, xmul_eq] <;> omega) | (have := p136 (by assumption); omega) | (have := p137 (by assumption); omega) | (have := p136 (by assumption); simp (disch := omega) only [xadd_eq, xsub_eq] <;> omega) | (have := p137 (by assumption); simp (disch := omega) only [xadd_eq, xsub_eq] <;> omega) | (simp (disch := omega) only [xadd_eq, xsub_eq] at *; omega) | (simp [g92, xwr] <;> omega) | exact z20 | exact z63 | exact z94 | exact z111 | exact z115 | exact z123 | exact z127 | exact z131 | exact z132 | exact z133 | exact z136 | exact z137 | exact z138)) ?_
        simp only [f150, if_neg c1, if_neg c2, if_pos c3]
      · refine Eq.trans (b150_30) ?_
        refine Eq.trans (b150_35 (by first | omega | (simp (disch := omega) only [xadd_eq, xsub_eq, xmul_eq] <;> omega) | (have := p136 (by assumption); omega) | (have := p137 (by assumption); omega) | (have := p136 (by assumption); simp (disch := omega) only [xadd_eq, xsub_eq] <;> omega) | (have := p137 (by assumption); simp (disch := omega) only [xadd_eq, xsub_eq] <;> omega) | (simp (disch := omega) only [xadd_eq, xsub_eq] at *; omega) | (simp [g92, xwr] <;> omega) | exact z20 | exact z63 | exact z94 | exact z111 | exact z115 | exact z123 | exact z127 | exact z131 | exact z132 | exact z133 | exact z136 | exact z137 | exact z138)) ?_
        simp only [f150, if_neg c1, if_neg c2, if_neg c3]
theorem z150 {σ : xM} {a1 : Int} {a2 : Int} : f150 σ a1 a2 = 0 ∨ f150 σ a1 a2 = 1 := by
  unfold f150
  (repeat' split) <;> first | exact Or.inl rfl | exact Or.inr rfl | exact z20 | exact z63 | exact z94 | exact z111 | exact z115 | exact z123 | exact z127 | exact z131 | exact z132 | exact z133 | exact z136 | exact z137 | exact z138

/-- StickSums$Sightings add (IIZ)I -/
def f151 (σ : xM) (a1 : Int) (a2 : Int) (a3 : Int) : Int := (if (σ 41 1) < 60 then (xsub (xadd (σ 41 1) 1) 1) else (-1))
/-- StickSums$Sightings add (IIZ)I: the cells behind it -/
def g151 (σ : xM) (a1 : Int) (a2 : Int) (a3 : Int) : xM := (if (σ 41 1) < 60 then (xwr (xwr (xwr (xwr (xwr (xwr σ 42 ((σ 41 1)).toNat a1) 43 ((σ 41 1)).toNat a2) 44 ((σ 41 1)).toNat a3) 45 ((σ 41 1)).toNat (σ 41 0)) 46 ((σ 41 1)).toNat (-1)) 41 1 (xadd (σ 41 1) 1)) else σ)
set_option maxHeartbeats 200000 in
theorem s151 {X : Nat × (Nat → Int)} {d : Nat} {a1 : Int} {a2 : Int} {a3 : Int} {σ : xM} (h0 : 0 ≤ σ 41 1) (h1 : a3 = 0 ∨ a3 = 1) : Ev X d 151 0 [some (vr 41), some (vi a1), some (vi a2), some (vi a3)] [] SH σ = some (some (vi (f151 σ a1 a2 a3)), SH, (g151 σ a1 a2 a3)) := by
  refine Eq.trans (b151_0) ?_
  refine x_if (fun c1 => ?_) (fun c1 => ?_)
  · refine Eq.trans (b151_11 (by first | omega | (simp (disch := omega) only [xadd_eq, xsub_eq, xmul_eq] <;> omega) | (have := p136 (by assumption); omega) | (have := p137 (by assumption); omega) | (have := p136 (by assumption); simp (disch := omega) only [xadd_eq, xsub_eq] <;> omega) | (have := p137 (by assumption); simp (disch := omega) only [xadd_eq, xsub_eq] <;> omega) | (simp (disch := omega) only [xadd_eq, xsub_eq] at *; omega) | (simp [g92, xwr] <;> omega) | exact z20 | exact z63 | exact z94 | exact z111 | exact z115 | exact z123 | exact z127 | exact z131 | exact z132 | exact z133 | exact z136 | exact z137 | exact z138 | exact z150) (by first | omega | (simp (disch := omega) only [xadd_eq, xsub_eq, xmul_eq] <;> omega) | (have := p136 (by assumption); omega) | (have := p137 (by assumption); omega) | (have := p136 (by assumption); simp (disch := omega) only [xadd_eq, xsub_eq] <;> omega) | (have := p137 (by assumption); simp (disch := omega) only [xadd_eq, xsub_eq] <;> omega) | (simp (disch := omega) only [xadd_eq, xsub_eq] at *; omega) | (simp [g92, xwr] <;> omega) | exact z20 | exact z63 | exact z94 | exact z111 | exact z115 | exact z123 | exact z127 | exact z131 | exact z132 | exact z133 | exact z136 | exact z137 | exact z138 | exact z150)) ?_
    simp only [f151, g151, if_pos c1]
  · refine Eq.trans (b151_9) ?_
    simp only [f151, g151, if_neg c1]

/-- StickSums$Sightings takeBack (I)Z -/
def f152 (σ : xM) (a1 : Int) : Int := (if a1 < 0 then 0 else (if (σ 41 1) ≤ a1 then 0 else (if 60 ≤ a1 then 0 else (if (σ 46 (a1).toNat) = (-1) then 1 else 0))))
/-- StickSums$Sightings takeBack (I)Z: the cells behind it -/
def g152 (σ : xM) (a1 : Int) : xM := (if a1 < 0 then σ else (if (σ 41 1) ≤ a1 then σ else (if 60 ≤ a1 then σ else (if (σ 46 (a1).toNat) = (-1) then (xwr σ 46 (a1).toNat (σ 41 0)) else σ))))
set_option maxHeartbeats 200000 in
theorem s152 {X : Nat × (Nat → Int)} {d : Nat} {a1 : Int} {σ : xM} : Ev X d 152 0 [some (vr 41), some (vi a1)] [] SH σ = some (some (vi (f152 σ a1)), SH, (g152 σ a1)) := by
  refine Eq.trans (b152_0) ?_
  refine x_if (fun c1 => ?_) (fun c1 => ?_)
  · refine Eq.trans (b152_28) ?_
    simp only [f152, g152, if_pos c1]
  · refine Eq.trans (b152_4) ?_
    refine x_if (fun c2 => ?_) (fun c2 => ?_)
    · refine Eq.trans (b152_28) ?_
      simp only [f152, g152, if_neg c1, if_pos c2]
    · refine Eq.trans (b152_12) ?_
      refine x_if (fun c3 => ?_) (fun c3 => ?_)
      · refine Eq.trans (b152_28) ?_
        simp only [f152, g152, if_neg c1, if_neg c2, if_pos c3]
      · refine Eq.trans (b152_18 (by first | omega | (simp (disch := omega) only [xadd_eq, xsub_eq, xmul_eq] <;> omega) | (have := p136 (by assumption); omega) | (have := p137 (by assumption); omega) | (have := p136 (by assumption); simp (disch := omega) only [xadd_eq, xsub_eq] <;> omega) | (have := p137 (by assumption); simp (disch := omega) only [xadd_eq, xsub_eq] <;> omega) | (simp (disch := omega) only [xadd_eq, xsub_eq] at *; omega) | (simp [g92, xwr] <;> omega) | exact z20 | exact z63 | exact z94 | exact z111 | exact z115 | exact z123 | exact z127 | exact z131 | exact z132 | exact z133 | exact z136 | exact z137 | exact z138 | exact z150)) ?_
        refine x_if (fun c4 => ?_) (fun c4 => ?_)
        · refine Eq.trans (b152_30 (by first | omega | (simp (disch := omega) only [xadd_eq, xsub_eq, xmul_eq] <;> omega) | (have := p136 (by assumption); omega) | (have := p137 (by assumption); omega) | (have := p136 (by assumption); simp (disch := omega) only [xadd_eq, xsub_eq] <;> omega) | (have := p137 (by assumption); simp (disch := omega) only [xadd_eq, xsub_eq] <;> omega) | (simp (disch := omega) only [xadd_eq, xsub_eq] at *; omega) | (simp [g92, xwr] <;> omega) | exact z20 | exact z63 | exact z94 | exact z111 | exact z115 | exact z123 | exact z127 | exact z131 | exact z132 | exact z133 | exact z136 | exact z137 | exact z138 | exact z150)) ?_
          simp only [f152, g152, if_neg c1, if_neg c2, if_neg c3, if_pos c4]
        · refine Eq.trans (b152_28) ?_
          simp only [f152, g152, if_neg c1, if_neg c2, if_neg c3, if_neg c4]
theorem z152 {σ : xM} {a1 : Int} : f152 σ a1 = 0 ∨ f152 σ a1 = 1 := by
  unfold f152
  (repeat' split) <;> first | exact Or.inl rfl | exact Or.inr rfl | exact z20 | exact z63 | exact z94 | exact z111 | exact z115 | exact z123 | exact z127 | exact z131 | exact z132 | exact z133 | exact z136 | exact z137 | exact z138 | exact z150

/-- StickSums$Sightings passTime (I)I -/
def f153 (σ : xM) (a1 : Int) : Int := (if a1 < 0 then (-1) else (if 1000 < a1 then (-1) else (if (xadd (σ 41 0) a1) ≤ 100000 then (xadd (σ 41 0) a1) else (-1))))
/-- StickSums$Sightings passTime (I)I: the cells behind it -/
def g153 (σ : xM) (a1 : Int) : xM := (if a1 < 0 then σ else (if 1000 < a1 then σ else (if (xadd (σ 41 0) a1) ≤ 100000 then (xwr σ 41 0 (xadd (σ 41 0) a1)) else σ)))
set_option maxHeartbeats 200000 in
theorem s153 {X : Nat × (Nat → Int)} {d : Nat} {a1 : Int} {σ : xM} : Ev X d 153 0 [some (vr 41), some (vi a1)] [] SH σ = some (some (vi (f153 σ a1)), SH, (g153 σ a1)) := by
  refine Eq.trans (b153_0) ?_
  refine x_if (fun c1 => ?_) (fun c1 => ?_)
  · refine Eq.trans (b153_22) ?_
    simp only [f153, g153, if_pos c1]
  · refine Eq.trans (b153_4) ?_
    refine x_if (fun c2 => ?_) (fun c2 => ?_)
    · refine Eq.trans (b153_22) ?_
      simp only [f153, g153, if_neg c1, if_pos c2]
    · refine Eq.trans (b153_11) ?_
      refine x_if (fun c3 => ?_) (fun c3 => ?_)
      · refine Eq.trans (b153_24) ?_
        simp only [f153, g153, if_neg c1, if_neg c2, if_pos c3]
      · refine Eq.trans (b153_22) ?_
        simp only [f153, g153, if_neg c1, if_neg c2, if_neg c3]

/-- StickSums$Tape hasRoom (I)Z -/
def f155 (σ : xM) (a1 : Int) : Int := (if 300 < (xadd (σ 1 1) a1) then 0 else 1)
set_option maxHeartbeats 200000 in
theorem s155 {X : Nat × (Nat → Int)} {d : Nat} {a1 : Int} {σ : xM} : Ev X d 155 0 [some (vr 1), some (vi a1)] [] SH σ = some (some (vi (f155 σ a1)), SH, σ) := by
  refine Eq.trans (b155_0) ?_
  refine x_if (fun c1 => ?_) (fun c1 => ?_)
  · refine Eq.trans (b155_16) ?_
    refine Eq.trans (b155_17 (by first | omega | (simp (disch := omega) only [xadd_eq, xsub_eq, xmul_eq] <;> omega) | (have := p136 (by assumption); omega) | (have := p137 (by assumption); omega) | (have := p136 (by assumption); simp (disch := omega) only [xadd_eq, xsub_eq] <;> omega) | (have := p137 (by assumption); simp (disch := omega) only [xadd_eq, xsub_eq] <;> omega) | (simp (disch := omega) only [xadd_eq, xsub_eq] at *; omega) | (simp [g92, xwr] <;> omega) | exact z20 | exact z63 | exact z94 | exact z111 | exact z115 | exact z123 | exact z127 | exact z131 | exact z132 | exact z133 | exact z136 | exact z137 | exact z138 | exact z150 | exact z152)) ?_
    simp only [f155, if_pos c1]
  · refine Eq.trans (b155_12) ?_
    refine Eq.trans (b155_17 (by first | omega | (simp (disch := omega) only [xadd_eq, xsub_eq, xmul_eq] <;> omega) | (have := p136 (by assumption); omega) | (have := p137 (by assumption); omega) | (have := p136 (by assumption); simp (disch := omega) only [xadd_eq, xsub_eq] <;> omega) | (have := p137 (by assumption); simp (disch := omega) only [xadd_eq, xsub_eq] <;> omega) | (simp (disch := omega) only [xadd_eq, xsub_eq] at *; omega) | (simp [g92, xwr] <;> omega) | exact z20 | exact z63 | exact z94 | exact z111 | exact z115 | exact z123 | exact z127 | exact z131 | exact z132 | exact z133 | exact z136 | exact z137 | exact z138 | exact z150 | exact z152)) ?_
    simp only [f155, if_neg c1]
theorem z155 {σ : xM} {a1 : Int} : f155 σ a1 = 0 ∨ f155 σ a1 = 1 := by
  unfold f155
  (repeat' split) <;> first | exact Or.inl rfl | exact Or.inr rfl | exact z20 | exact z63 | exact z94 | exact z111 | exact z115 | exact z123 | exact z127 | exact z131 | exact z132 | exact z133 | exact z136 | exact z137 | exact z138 | exact z150 | exact z152

/-- StickSums$Tape forgetFault ()V: the cells behind it -/
def g158 (σ : xM)  : xM := (xwr (xwr σ 1 2 0) 1 3 (-1))
set_option maxHeartbeats 200000 in
theorem s158 {X : Nat × (Nat → Int)} {d : Nat}  {σ : xM} : Ev X d 158 0 [some (vr 1)] [] SH σ = some (none, SH, (g158 σ )) := by
  refine Eq.trans (b158_0) ?_
  rfl

/-- StickSums$Tape byteAt (I)I -/
def f160 (σ : xM) (a1 : Int) : Int := (if a1 < 0 then (-1) else (if (σ 1 1) ≤ a1 then (-1) else (if 300 ≤ a1 then (-1) else (σ 2 (a1).toNat))))
set_option maxHeartbeats 200000 in
theorem s160 {X : Nat × (Nat → Int)} {d : Nat} {a1 : Int} {σ : xM} : Ev X d 160 0 [some (vr 1), some (vi a1)] [] SH σ = some (some (vi (f160 σ a1)), SH, σ) := by
  refine Eq.trans (b160_0) ?_
  refine x_if (fun c1 => ?_) (fun c1 => ?_)
  · refine Eq.trans (b160_28) ?_
    refine Eq.trans (b160_29) ?_
    simp only [f160, if_pos c1]
  · refine Eq.trans (b160_4) ?_
    refine x_if (fun c2 => ?_) (fun c2 => ?_)
    · refine Eq.trans (b160_28) ?_
      refine Eq.trans (b160_29) ?_
      simp only [f160, if_neg c1, if_pos c2]
    · refine Eq.trans (b160_12) ?_
      refine x_if (fun c3 => ?_) (fun c3 => ?_)
      · refine Eq.trans (b160_28) ?_
        refine Eq.trans (b160_29) ?_
        simp only [f160, if_neg c1, if_neg c2, if_pos c3]
      · refine Eq.trans (b160_19 (by first | omega | (simp (disch := omega) only [xadd_eq, xsub_eq, xmul_eq] <;> omega) | (have := p136 (by assumption); omega) | (have := p137 (by assumption); omega) | (have := p136 (by assumption); simp (disch := omega) only [xadd_eq, xsub_eq] <;> omega) | (have := p137 (by assumption); simp (disch := omega) only [xadd_eq, xsub_eq] <;> omega) | (simp (disch := omega) only [xadd_eq, xsub_eq] at *; omega) | (simp [g92, xwr] <;> omega) | exact z20 | exact z63 | exact z94 | exact z111 | exact z115 | exact z123 | exact z127 | exact z131 | exact z132 | exact z133 | exact z136 | exact z137 | exact z138 | exact z150 | exact z152 | exact z155)) ?_
        refine Eq.trans (b160_29) ?_
        simp only [f160, if_neg c1, if_neg c2, if_neg c3]

/-- StickSums$Tape isBlank (I)Z -/
def f161 (σ : xM) (a0 : Int) : Int := (if a0 = 32 then 1 else (if a0 ≠ 10 then 0 else 1))
set_option maxHeartbeats 200000 in
theorem s161 {X : Nat × (Nat → Int)} {d : Nat} {a0 : Int} {σ : xM} : Ev X d 161 0 [some (vi a0)] [] SH σ = some (some (vi (f161 σ a0)), SH, σ) := by
  refine Eq.trans (b161_0) ?_
  refine x_if (fun c1 => ?_) (fun c1 => ?_)
  · refine Eq.trans (b161_12) ?_
    refine Eq.trans (b161_17 (by first | omega | (simp (disch := omega) only [xadd_eq, xsub_eq, xmul_eq] <;> omega) | (have := p136 (by assumption); omega) | (have := p137 (by assumption); omega) | (have := p136 (by assumption); simp (disch := omega) only [xadd_eq, xsub_eq] <;> omega) | (have := p137 (by assumption); simp (disch := omega) only [xadd_eq, xsub_eq] <;> omega) | (simp (disch := omega) only [xadd_eq, xsub_eq] at *; omega) | (simp [g92, xwr] <;> omega) | exact z20 | exact z63 | exact z94 | exact z111 | exact z115 | exact z123 | exact z127 | exact z131 | exact z132 | exact z133 | exact z136 | exact z137 | exact z138 | exact z150 | exact z152 | exact z155)) ?_
    simp only [f161, if_pos c1]
  · refine Eq.trans (b161_6) ?_
    refine x_if (fun c2 => ?_) (fun c2 => ?_)
    · refine Eq.trans (b161_16) ?_
      refine Eq.trans (b161_17 (by first | omega | (simp (disch := omega) only [xadd_eq, xsub_eq, xmul_eq] <;> omega) | (have := p136 (by assumption); omega) | (have := p137 (by assumption); omega) | (have := p136 (by assumption); simp (disch := omega) only [xadd_eq, xsub_eq] <;> omega) | (have := p137 (by assumption); simp (disch := omega) only [xadd_eq, xsub_eq] <;> omega) | (simp (disch := omega) only [xadd_eq, xsub_eq] at *; omega) | (simp [g92, xwr] <;> omega) | exact z20 | exact z63 | exact z94 | exact z111 | exact z115 | exact z123 | exact z127 | exact z131 | exact z132 | exact z133 | exact z136 | exact z137 | exact z138 | exact z150 | exact z152 | exact z155)) ?_
      simp only [f161, if_neg c1, if_pos c2]
    · refine Eq.trans (b161_12) ?_
      refine Eq.trans (b161_17 (by first | omega | (simp (disch := omega) only [xadd_eq, xsub_eq, xmul_eq] <;> omega) | (have := p136 (by assumption); omega) | (have := p137 (by assumption); omega) | (have := p136 (by assumption); simp (disch := omega) only [xadd_eq, xsub_eq] <;> omega) | (have := p137 (by assumption); simp (disch := omega) only [xadd_eq, xsub_eq] <;> omega) | (simp (disch := omega) only [xadd_eq, xsub_eq] at *; omega) | (simp [g92, xwr] <;> omega) | exact z20 | exact z63 | exact z94 | exact z111 | exact z115 | exact z123 | exact z127 | exact z131 | exact z132 | exact z133 | exact z136 | exact z137 | exact z138 | exact z150 | exact z152 | exact z155)) ?_
      simp only [f161, if_neg c1, if_neg c2]
theorem z161 {σ : xM} {a0 : Int} : f161 σ a0 = 0 ∨ f161 σ a0 = 1 := by
  unfold f161
  (repeat' split) <;> first | exact Or.inl rfl | exact Or.inr rfl | exact z20 | exact z63 | exact z94 | exact z111 | exact z115 | exact z123 | exact z127 | exact z131 | exact z132 | exact z133 | exact z136 | exact z137 | exact z138 | exact z150 | exact z152 | exact z155

/-- StickSums$Tape isLetter (I)Z -/
def f162 (σ : xM) (a0 : Int) : Int := (if a0 < 97 then 0 else (if 122 < a0 then 0 else 1))
set_option maxHeartbeats 200000 in
theorem s162 {X : Nat × (Nat → Int)} {d : Nat} {a0 : Int} {σ : xM} : Ev X d 162 0 [some (vi a0)] [] SH σ = some (some (vi (f162 σ a0)), SH, σ) := by
  refine Eq.trans (b162_0) ?_
  refine x_if (fun c1 => ?_) (fun c1 => ?_)
  · refine Eq.trans (b162_16) ?_
    refine Eq.trans (b162_17 (by first | omega | (simp (disch := omega) only [xadd_eq, xsub_eq, xmul_eq] <;> omega) | (have := p136 (by assumption); omega) | (have := p137 (by assumption); omega) | (have := p136 (by assumption); simp (disch := omega) only [xadd_eq, xsub_eq] <;> omega) | (have := p137 (by assumption); simp (disch := omega) only [xadd_eq, xsub_eq] <;> omega) | (simp (disch := omega) only [xadd_eq, xsub_eq] at *; omega) | (simp [g92, xwr] <;> omega) | exact z20 | exact z63 | exact z94 | exact z111 | exact z115 | exact z123 | exact z127 | exact z131 | exact z132 | exact z133 | exact z136 | exact z137 | exact z138 | exact z150 | exact z152 | exact z155 | exact z161)) ?_
    simp only [f162, if_pos c1]
  · refine Eq.trans (b162_6) ?_
    refine x_if (fun c2 => ?_) (fun c2 => ?_)
    · refine Eq.trans (b162_16) ?_
      refine Eq.trans (b162_17 (by first | omega | (simp (disch := omega) only [xadd_eq, xsub_eq, xmul_eq] <;> omega) | (have := p136 (by assumption); omega) | (have := p137 (by assumption); omega) | (have := p136 (by assumption); simp (disch := omega) only [xadd_eq, xsub_eq] <;> omega) | (have := p137 (by assumption); simp (disch := omega) only [xadd_eq, xsub_eq] <;> omega) | (simp (disch := omega) only [xadd_eq, xsub_eq] at *; omega) | (simp [g92, xwr] <;> omega) | exact z20 | exact z63 | exact z94 | exact z111 | exact z115 | exact z123 | exact z127 | exact z131 | exact z132 | exact z133 | exact z136 | exact z137 | exact z138 | exact z150 | exact z152 | exact z155 | exact z161)) ?_
      simp only [f162, if_neg c1, if_pos c2]
    · refine Eq.trans (b162_12) ?_
      refine Eq.trans (b162_17 (by first | omega | (simp (disch := omega) only [xadd_eq, xsub_eq, xmul_eq] <;> omega) | (have := p136 (by assumption); omega) | (have := p137 (by assumption); omega) | (have := p136 (by assumption); simp (disch := omega) only [xadd_eq, xsub_eq] <;> omega) | (have := p137 (by assumption); simp (disch := omega) only [xadd_eq, xsub_eq] <;> omega) | (simp (disch := omega) only [xadd_eq, xsub_eq] at *; omega) | (simp [g92, xwr] <;> omega) | exact z20 | exact z63 | exact z94 | exact z111 | exact z115 | exact z123 | exact z127 | exact z131 | exact z132 | exact z133 | exact z136 | exact z137 | exact z138 | exact z150 | exact z152 | exact z155 | exact z161)) ?_
      simp only [f162, if_neg c1, if_neg c2]
theorem z162 {σ : xM} {a0 : Int} : f162 σ a0 = 0 ∨ f162 σ a0 = 1 := by
  unfold f162
  (repeat' split) <;> first | exact Or.inl rfl | exact Or.inr rfl | exact z20 | exact z63 | exact z94 | exact z111 | exact z115 | exact z123 | exact z127 | exact z131 | exact z132 | exact z133 | exact z136 | exact z137 | exact z138 | exact z150 | exact z152 | exact z155 | exact z161

/-- StickSums$Tape isDigit (I)Z -/
def f164 (σ : xM) (a0 : Int) : Int := (if a0 < 48 then 0 else (if 57 < a0 then 0 else 1))
set_option maxHeartbeats 200000 in
theorem s164 {X : Nat × (Nat → Int)} {d : Nat} {a0 : Int} {σ : xM} : Ev X d 164 0 [some (vi a0)] [] SH σ = some (some (vi (f164 σ a0)), SH, σ) := by
  refine Eq.trans (b164_0) ?_
  refine x_if (fun c1 => ?_) (fun c1 => ?_)
  · refine Eq.trans (b164_16) ?_
    refine Eq.trans (b164_17 (by first | omega | (simp (disch := omega) only [xadd_eq, xsub_eq, xmul_eq] <;> omega) | (have := p136 (by assumption); omega) | (have := p137 (by assumption); omega) | (have := p136 (by assumption); simp (disch := omega) only [xadd_eq, xsub_eq] <;> omega) | (have := p137 (by assumption); simp (disch := omega) only [xadd_eq, xsub_eq] <;> omega) | (simp (disch := omega) only [xadd_eq, xsub_eq] at *; omega) | (simp [g92, xwr] <;> omega) | exact z20 | exact z63 | exact z94 | exact z111 | exact z115 | exact z123 | exact z127 | exact z131 | exact z132 | exact z133 | exact z136 | exact z137 | exact z138 | exact z150 | exact z152 | exact z155 | exact z161 | exact z162)) ?_
    simp only [f164, if_pos c1]
  · refine Eq.trans (b164_6) ?_
    refine x_if (fun c2 => ?_) (fun c2 => ?_)
    · refine Eq.trans (b164_16) ?_
      refine Eq.trans (b164_17 (by first | omega | (simp (disch := omega) only [xadd_eq, xsub_eq, xmul_eq] <;> omega) | (have := p136 (by assumption); omega) | (have := p137 (by assumption); omega) | (have := p136 (by assumption); simp (disch := omega) only [xadd_eq, xsub_eq] <;> omega) | (have := p137 (by assumption); simp (disch := omega) only [xadd_eq, xsub_eq] <;> omega) | (simp (disch := omega) only [xadd_eq, xsub_eq] at *; omega) | (simp [g92, xwr] <;> omega) | exact z20 | exact z63 | exact z94 | exact z111 | exact z115 | exact z123 | exact z127 | exact z131 | exact z132 | exact z133 | exact z136 | exact z137 | exact z138 | exact z150 | exact z152 | exact z155 | exact z161 | exact z162)) ?_
      simp only [f164, if_neg c1, if_pos c2]
    · refine Eq.trans (b164_12) ?_
      refine Eq.trans (b164_17 (by first | omega | (simp (disch := omega) only [xadd_eq, xsub_eq, xmul_eq] <;> omega) | (have := p136 (by assumption); omega) | (have := p137 (by assumption); omega) | (have := p136 (by assumption); simp (disch := omega) only [xadd_eq, xsub_eq] <;> omega) | (have := p137 (by assumption); simp (disch := omega) only [xadd_eq, xsub_eq] <;> omega) | (simp (disch := omega) only [xadd_eq, xsub_eq] at *; omega) | (simp [g92, xwr] <;> omega) | exact z20 | exact z63 | exact z94 | exact z111 | exact z115 | exact z123 | exact z127 | exact z131 | exact z132 | exact z133 | exact z136 | exact z137 | exact z138 | exact z150 | exact z152 | exact z155 | exact z161 | exact z162)) ?_
      simp only [f164, if_neg c1, if_neg c2]
theorem z164 {σ : xM} {a0 : Int} : f164 σ a0 = 0 ∨ f164 σ a0 = 1 := by
  unfold f164
  (repeat' split) <;> first | exact Or.inl rfl | exact Or.inr rfl | exact z20 | exact z63 | exact z94 | exact z111 | exact z115 | exact z123 | exact z127 | exact z131 | exact z132 | exact z133 | exact z136 | exact z137 | exact z138 | exact z150 | exact z152 | exact z155 | exact z161 | exact z162

/-- StickSums$Tape refuse (II)Z -/
def f169 (σ : xM) (a1 : Int) (a2 : Int) : Int := 0
/-- StickSums$Tape refuse (II)Z: the cells behind it -/
def g169 (σ : xM) (a1 : Int) (a2 : Int) : xM := (xwr (xwr σ 1 2 a1) 1 3 a2)
set_option maxHeartbeats 200000 in
theorem s169 {X : Nat × (Nat → Int)} {d : Nat} {a1 : Int} {a2 : Int} {σ : xM} : Ev X d 169 0 [some (vr 1), some (vi a1), some (vi a2)] [] SH σ = some (some (vi (f169 σ a1 a2)), SH, (g169 σ a1 a2)) := by
  refine Eq.trans (b169_0) ?_
  rfl
theorem z169 {σ : xM} {a1 : Int} {a2 : Int} : f169 σ a1 a2 = 0 ∨ f169 σ a1 a2 = 1 := by
  unfold f169
  (repeat' split) <;> first | exact Or.inl rfl | exact Or.inr rfl | exact z20 | exact z63 | exact z94 | exact z111 | exact z115 | exact z123 | exact z127 | exact z131 | exact z132 | exact z133 | exact z136 | exact z137 | exact z138 | exact z150 | exact z152 | exact z155 | exact z161 | exact z162 | exact z164

/-- StickSums$Tape isSign (C)Z -/
def f171 (σ : xM) (a1 : Int) : Int := (if (σ 1 5) ≠ 3 then 0 else (if (σ 1 8) ≠ a1 then 0 else 1))
set_option maxHeartbeats 200000 in
theorem s171 {X : Nat × (Nat → Int)} {d : Nat} {a1 : Int} {σ : xM} : Ev X d 171 0 [some (vr 1), some (vi a1)] [] SH σ = some (some (vi (f171 σ a1)), SH, σ) := by
  refine Eq.trans (b171_0) ?_
  refine x_if (fun c1 => ?_) (fun c1 => ?_)
  · refine Eq.trans (b171_20) ?_
    refine Eq.trans (b171_21 (by first | omega | (simp (disch := omega) only [xadd_eq, xsub_eq, xmul_eq] <;> omega) | (have := p136 (by assumption); omega) | (have := p137 (by assumption); omega) | (have := p136 (by assumption); simp (disch := omega) only [xadd_eq, xsub_eq] <;> omega) | (have := p137 (by assumption); simp (disch := omega) only [xadd_eq, xsub_eq] <;> omega) | (simp (disch := omega) only [xadd_eq, xsub_eq] at *; omega) | (simp [g92, xwr] <;> omega) | exact z20 | exact z63 | exact z94 | exact z111 | exact z115 | exact z123 | exact z127 | exact z131 | exact z132 | exact z133 | exact z136 | exact z137 | exact z138 | exact z150 | exact z152 | exact z155 | exact z161 | exact z162 | exact z164 | exact z169)) ?_
    simp only [f171, if_pos c1]
  · refine Eq.trans (b171_8) ?_
    refine x_if (fun c2 => ?_) (fun c2 => ?_)
    · refine Eq.trans (b171_20) ?_
      refine Eq.trans (b171_21 (by first | omega | (simp (disch := omega) only [xadd_eq, xsub_eq, xmul_eq] <;> omega) | (have := p136 (by assumption); omega) | (have := p137 (by assumption); omega) | (have := p136 (by assumption); simp (disch := omega) only [xadd_eq, xsub_eq] <;> omega) | (have := p137 (by assumption); simp (disch := omega) only [xadd_eq, xsub_eq] <;> omega) | (simp (disch := omega) only [xadd_eq, xsub_eq] at *; omega) | (simp [g92, xwr] <;> omega) | exact z20 | exact z63 | exact z94 | exact z111 | exact z115 | exact z123 | exact z127 | exact z131 | exact z132 | exact z133 | exact z136 | exact z137 | exact z138 | exact z150 | exact z152 | exact z155 | exact z161 | exact z162 | exact z164 | exact z169)) ?_
      simp only [f171, if_neg c1, if_pos c2]
    · refine Eq.trans (b171_16) ?_
      refine Eq.trans (b171_21 (by first | omega | (simp (disch := omega) only [xadd_eq, xsub_eq, xmul_eq] <;> omega) | (have := p136 (by assumption); omega) | (have := p137 (by assumption); omega) | (have := p136 (by assumption); simp (disch := omega) only [xadd_eq, xsub_eq] <;> omega) | (have := p137 (by assumption); simp (disch := omega) only [xadd_eq, xsub_eq] <;> omega) | (simp (disch := omega) only [xadd_eq, xsub_eq] at *; omega) | (simp [g92, xwr] <;> omega) | exact z20 | exact z63 | exact z94 | exact z111 | exact z115 | exact z123 | exact z127 | exact z131 | exact z132 | exact z133 | exact z136 | exact z137 | exact z138 | exact z150 | exact z152 | exact z155 | exact z161 | exact z162 | exact z164 | exact z169)) ?_
      simp only [f171, if_neg c1, if_neg c2]
theorem z171 {σ : xM} {a1 : Int} : f171 σ a1 = 0 ∨ f171 σ a1 = 1 := by
  unfold f171
  (repeat' split) <;> first | exact Or.inl rfl | exact Or.inr rfl | exact z20 | exact z63 | exact z94 | exact z111 | exact z115 | exact z123 | exact z127 | exact z131 | exact z132 | exact z133 | exact z136 | exact z137 | exact z138 | exact z150 | exact z152 | exact z155 | exact z161 | exact z162 | exact z164 | exact z169

/-- StickSums$Walk costOf (II)I -/
def f175 (σ : xM) (a0 : Int) (a1 : Int) : Int := (xadd (xmul 4 a0) a1)
set_option maxHeartbeats 200000 in
theorem s175 {X : Nat × (Nat → Int)} {d : Nat} {a0 : Int} {a1 : Int} {σ : xM} : Ev X d 175 0 [some (vi a0), some (vi a1)] [] SH σ = some (some (vi (f175 σ a0 a1)), SH, σ) := by
  refine Eq.trans (b175_0) ?_
  rfl

/-- StickSums$Walk choiceIn (JI)I -/
def f184 (σ : xM) (a0 : Int) (a2 : Int) : Int := (if a2 < 0 then (-1) else (if a2 < 11 then (xand (xl2i (lshr' a0 (xmul 5 a2))) 31) else (-1)))
set_option maxHeartbeats 200000 in
theorem s184 {X : Nat × (Nat → Int)} {d : Nat} {a0 : Int} {a2 : Int} {σ : xM} : Ev X d 184 0 [some (vl a0), none, some (vi a2)] [] SH σ = some (some (vi (f184 σ a0 a2)), SH, σ) := by
  refine Eq.trans (b184_0) ?_
  refine x_if (fun c1 => ?_) (fun c1 => ?_)
  · refine Eq.trans (b184_10) ?_
    refine Eq.trans (b184_23) ?_
    simp only [f184, if_pos c1]
  · refine Eq.trans (b184_4) ?_
    refine x_if (fun c2 => ?_) (fun c2 => ?_)
    · refine Eq.trans (b184_14) ?_
      refine Eq.trans (b184_23) ?_
      simp only [f184, if_neg c1, if_pos c2]
    · refine Eq.trans (b184_10) ?_
      refine Eq.trans (b184_23) ?_
      simp only [f184, if_neg c1, if_neg c2]

/-- StickSums$Walk canPay (III)Z -/
def f185 (σ : xM) (k : Nat) (a1 : Int) (a2 : Int) (a3 : Int) : Int := (if a2 < a3 then 0 else (if (xand a2 3) < (xand a3 3) then 0 else (if (xand (xshr (σ (k + 15) (a1).toNat) (xsub a2 a3)) 1) ≠ 1 then 0 else 1)))
set_option maxHeartbeats 200000 in
theorem s185 {X : Nat × (Nat → Int)} {d : Nat} {k : Nat} {a1 : Int} {a2 : Int} {a3 : Int} {σ : xM} (hk : isWlk k) (h0 : 0 ≤ a1) (h1 : a1 < 12) : Ev X d 185 0 [some (vr k), some (vi a1), some (vi a2), some (vi a3)] [] SH σ = some (some (vi (f185 σ k a1 a2 a3)), SH, σ) := by
  refine Eq.trans (b185_0) ?_
  refine x_if (fun c1 => ?_) (fun c1 => ?_)
  · refine Eq.trans (b185_34) ?_
    refine Eq.trans (b185_35 (by first | omega | (simp (disch := omega) only [xadd_eq, xsub_eq, xmul_eq] <;> omega) | (have := p136 (by assumption); omega) | (have := p137 (by assumption); omega) | (have := p136 (by assumption); simp (disch := omega) only [xadd_eq, xsub_eq] <;> omega) | (have := p137 (by assumption); simp (disch := omega) only [xadd_eq, xsub_eq] <;> omega) | (simp (disch := omega) only [xadd_eq, xsub_eq] at *; omega) | (simp [g92, xwr] <;> omega) | exact z20 | exact z63 | exact z94 | exact z111 | exact z115 | exact z123 | exact z127 | exact z131 | exact z132 | exact z133 | exact z136 | exact z137 | exact z138 | exact z150 | exact z152 | exact z155 | exact z161 | exact z162 | exact z164 | exact z169 | exact z171)) ?_
    simp only [f185, if_pos c1]
  · refine Eq.trans (b185_5) ?_
    refine x_if (fun c2 => ?_) (fun c2 => ?_)
    · refine Eq.trans (b185_34) ?_
      refine Eq.trans (b185_35 (by first | omega | (simp (disch := omega) only [xadd_eq, xsub_eq, xmul_eq] <;> omega) | (have := p136 (by assumption); omega) | (have := p137 (by assumption); omega) | (have := p136 (by assumption); simp (disch := omega) only [xadd_eq, xsub_eq] <;> omega) | (have := p137 (by assumption); simp (disch := omega) only [xadd_eq, xsub_eq] <;> omega) | (simp (disch := omega) only [xadd_eq, xsub_eq] at *; omega) | (simp [g92, xwr] <;> omega) | exact z20 | exact z63 | exact z94 | exact z111 | exact z115 | exact z123 | exact z127 | exact z131 | exact z132 | exact z133 | exact z136 | exact z137 | exact z138 | exact z150 | exact z152 | exact z155 | exact z161 | exact z162 | exact z164 | exact z169 | exact z171)) ?_
      simp only [f185, if_neg c1, if_pos c2]
    · refine Eq.trans (b185_14 hk (by first | omega | (simp (disch := omega) only [xadd_eq, xsub_eq, xmul_eq] <;> omega) | (have := p136 (by assumption); omega) | (have := p137 (by assumption); omega) | (have := p136 (by assumption); simp (disch := omega) only [xadd_eq, xsub_eq] <;> omega) | (have := p137 (by assumption); simp (disch := omega) only [xadd_eq, xsub_eq] <;> omega) | (simp (disch := omega) only [xadd_eq, xsub_eq] at *; omega) | (simp [g92, xwr] <;> omega) | exact z20 | exact z63 | exact z94 | exact z111 | exact z115 | exact z123 | exact z127 | exact z131 | exact z132 | exact z133 | exact z136 | exact z137 | exact z138 | exact z150 | exact z152 | exact z155 | exact z161 | exact z162 | exact z164 | exact z169 | exact z171)) ?_
      refine x_if (fun c3 => ?_) (fun c3 => ?_)
      · refine Eq.trans (b185_34) ?_
        refine Eq.trans (b185_35 (by first | omega | (simp (disch := omega) only [xadd_eq, xsub_eq, xmul_eq] <;> omega) | (have := p136 (by assumption); omega) | (have := p137 (by assumption); omega) | (have := p136 (by assumption); simp (disch := omega) only [xadd_eq, xsub_eq] <;> omega) | (have := p137 (by assumption); simp (disch := omega) only [xadd_eq, xsub_eq] <;> omega) | (simp (disch := omega) only [xadd_eq, xsub_eq] at *; omega) | (simp [g92, xwr] <;> omega) | exact z20 | exact z63 | exact z94 | exact z111 | exact z115 | exact z123 | exact z127 | exact z131 | exact z132 | exact z133 | exact z136 | exact z137 | exact z138 | exact z150 | exact z152 | exact z155 | exact z161 | exact z162 | exact z164 | exact z169 | exact z171)) ?_
        simp only [f185, if_neg c1, if_neg c2, if_pos c3]
      · refine Eq.trans (b185_30) ?_
        refine Eq.trans (b185_35 (by first | omega | (simp (disch := omega) only [xadd_eq, xsub_eq, xmul_eq] <;> omega) | (have := p136 (by assumption); omega) | (have := p137 (by assumption); omega) | (have := p136 (by assumption); simp (disch := omega) only [xadd_eq, xsub_eq] <;> omega) | (have := p137 (by assumption); simp (disch := omega) only [xadd_eq, xsub_eq] <;> omega) | (simp (disch := omega) only [xadd_eq, xsub_eq] at *; omega) | (simp [g92, xwr] <;> omega) | exact z20 | exact z63 | exact z94 | exact z111 | exact z115 | exact z123 | exact z127 | exact z131 | exact z132 | exact z133 | exact z136 | exact z137 | exact z138 | exact z150 | exact z152 | exact z155 | exact z161 | exact z162 | exact z164 | exact z169 | exact z171)) ?_
        simp only [f185, if_neg c1, if_neg c2, if_neg c3]
theorem z185 {σ : xM} {k : Nat} {a1 : Int} {a2 : Int} {a3 : Int} : f185 σ k a1 a2 a3 = 0 ∨ f185 σ k a1 a2 a3 = 1 := by
  unfold f185
  (repeat' split) <;> first | exact Or.inl rfl | exact Or.inr rfl | exact z20 | exact z63 | exact z94 | exact z111 | exact z115 | exact z123 | exact z127 | exact z131 | exact z132 | exact z133 | exact z136 | exact z137 | exact z138 | exact z150 | exact z152 | exact z155 | exact z161 | exact z162 | exact z164 | exact z169 | exact z171

/-- StickSums$Walk keeps (I)Z -/
def f187 (σ : xM) (k : Nat) (a1 : Int) : Int := (if a1 < (σ k 16) then 0 else (if (σ k 15) ≤ a1 then 0 else (if 256 ≤ (xsub a1 (σ k 16)) then 0 else 1)))
set_option maxHeartbeats 200000 in
theorem s187 {X : Nat × (Nat → Int)} {d : Nat} {k : Nat} {a1 : Int} {σ : xM} (hk : isWlk k) : Ev X d 187 0 [some (vr k), some (vi a1)] [] SH σ = some (some (vi (f187 σ k a1)), SH, σ) := by
  refine Eq.trans (b187_0 hk) ?_
  refine x_if (fun c1 => ?_) (fun c1 => ?_)
  · refine Eq.trans (b187_32) ?_
    refine Eq.trans (b187_33 (by first | omega | (simp (disch := omega) only [xadd_eq, xsub_eq, xmul_eq] <;> omega) | (have := p136 (by assumption); omega) | (have := p137 (by assumption); omega) | (have := p136 (by assumption); simp (disch := omega) only [xadd_eq, xsub_eq] <;> omega) | (have := p137 (by assumption); simp (disch := omega) only [xadd_eq, xsub_eq] <;> omega) | (simp (disch := omega) only [xadd_eq, xsub_eq] at *; omega) | (simp [g92, xwr] <;> omega) | exact z20 | exact z63 | exact z94 | exact z111 | exact z115 | exact z123 | exact z127 | exact z131 | exact z132 | exact z133 | exact z136 | exact z137 | exact z138 | exact z150 | exact z152 | exact z155 | exact z161 | exact z162 | exact z164 | exact z169 | exact z171 | exact z185)) ?_
    simp only [f187, if_pos c1]
  · refine Eq.trans (b187_8 hk) ?_
    refine x_if (fun c2 => ?_) (fun c2 => ?_)
    · refine Eq.trans (b187_32) ?_
      refine Eq.trans (b187_33 (by first | omega | (simp (disch := omega) only [xadd_eq, xsub_eq, xmul_eq] <;> omega) | (have := p136 (by assumption); omega) | (have := p137 (by assumption); omega) | (have := p136 (by assumption); simp (disch := omega) only [xadd_eq, xsub_eq] <;> omega) | (have := p137 (by assumption); simp (disch := omega) only [xadd_eq, xsub_eq] <;> omega) | (simp (disch := omega) only [xadd_eq, xsub_eq] at *; omega) | (simp [g92, xwr] <;> omega) | exact z20 | exact z63 | exact z94 | exact z111 | exact z115 | exact z123 | exact z127 | exact z131 | exact z132 | exact z133 | exact z136 | exact z137 | exact z138 | exact z150 | exact z152 | exact z155 | exact z161 | exact z162 | exact z164 | exact z169 | exact z171 | exact z185)) ?_
      simp only [f187, if_neg c1, if_pos c2]
    · refine Eq.trans (b187_16 hk) ?_
      refine x_if (fun c3 => ?_) (fun c3 => ?_)
      · refine Eq.trans (b187_32) ?_
        refine Eq.trans (b187_33 (by first | omega | (simp (disch := omega) only [xadd_eq, xsub_eq, xmul_eq] <;> omega) | (have := p136 (by assumption); omega) | (have := p137 (by assumption); omega) | (have := p136 (by assumption); simp (disch := omega) only [xadd_eq, xsub_eq] <;> omega) | (have := p137 (by assumption); simp (disch := omega) only [xadd_eq, xsub_eq] <;> omega) | (simp (disch := omega) only [xadd_eq, xsub_eq] at *; omega) | (simp [g92, xwr] <;> omega) | exact z20 | exact z63 | exact z94 | exact z111 | exact z115 | exact z123 | exact z127 | exact z131 | exact z132 | exact z133 | exact z136 | exact z137 | exact z138 | exact z150 | exact z152 | exact z155 | exact z161 | exact z162 | exact z164 | exact z169 | exact z171 | exact z185)) ?_
        simp only [f187, if_neg c1, if_neg c2, if_pos c3]
      · refine Eq.trans (b187_28) ?_
        refine Eq.trans (b187_33 (by first | omega | (simp (disch := omega) only [xadd_eq, xsub_eq, xmul_eq] <;> omega) | (have := p136 (by assumption); omega) | (have := p137 (by assumption); omega) | (have := p136 (by assumption); simp (disch := omega) only [xadd_eq, xsub_eq] <;> omega) | (have := p137 (by assumption); simp (disch := omega) only [xadd_eq, xsub_eq] <;> omega) | (simp (disch := omega) only [xadd_eq, xsub_eq] at *; omega) | (simp [g92, xwr] <;> omega) | exact z20 | exact z63 | exact z94 | exact z111 | exact z115 | exact z123 | exact z127 | exact z131 | exact z132 | exact z133 | exact z136 | exact z137 | exact z138 | exact z150 | exact z152 | exact z155 | exact z161 | exact z162 | exact z164 | exact z169 | exact z171 | exact z185)) ?_
        simp only [f187, if_neg c1, if_neg c2, if_neg c3]
theorem z187 {σ : xM} {k : Nat} {a1 : Int} : f187 σ k a1 = 0 ∨ f187 σ k a1 = 1 := by
  unfold f187
  (repeat' split) <;> first | exact Or.inl rfl | exact Or.inr rfl | exact z20 | exact z63 | exact z94 | exact z111 | exact z115 | exact z123 | exact z127 | exact z131 | exact z132 | exact z133 | exact z136 | exact z137 | exact z138 | exact z150 | exact z152 | exact z155 | exact z161 | exact z162 | exact z164 | exact z169 | exact z171 | exact z185
theorem p187 {σ : xM} {k : Nat} {a1 : Int} (h : ¬ f187 σ k a1 = 0) : σ k 16 ≤ a1 ∧ a1 < σ k 15 ∧ xsub a1 (σ k 16) < 256 := by
  unfold f187 at h
  (repeat' split at h) <;> first | omega | exact absurd rfl h

/-- StickSumsModel end (I)I -/
def f195 (σ : xM) (a1 : Int) : Int := (if a1 < 0 then (-1) else (if a1 ≤ (σ 100 1) then a1 else (-1)))
/-- StickSumsModel end (I)I: the cells behind it -/
def g195 (σ : xM) (a1 : Int) : xM := (if a1 < 0 then σ else (if a1 ≤ (σ 100 1) then (xwr σ 100 1 a1) else σ))
set_option maxHeartbeats 200000 in
theorem s195 {X : Nat × (Nat → Int)} {d : Nat} {a1 : Int} {σ : xM} : Ev X d 195 0 [some (vr 100), some (vi a1)] [] SH σ = some (some (vi (f195 σ a1)), SH, (g195 σ a1)) := by
  refine Eq.trans (b195_0) ?_
  refine x_if (fun c1 => ?_) (fun c1 => ?_)
  · refine Eq.trans (b195_12) ?_
    simp only [f195, g195, if_pos c1]
  · refine Eq.trans (b195_4) ?_
    refine x_if (fun c2 => ?_) (fun c2 => ?_)
    · refine Eq.trans (b195_14) ?_
      simp only [f195, g195, if_neg c1, if_pos c2]
    · refine Eq.trans (b195_12) ?_
      simp only [f195, g195, if_neg c1, if_neg c2]

/-- StickSumsModel start (Z)V: the cells behind it -/
def g197 (σ : xM) (a1 : Int) : xM := (xwr (xwr (xwr (xwr (xwr (xwr σ 100 10 a1) 100 5 (σ 100 1)) 100 1 0) 100 4 0) 100 2 0) 100 3 (-1))
set_option maxHeartbeats 200000 in
theorem s197 {X : Nat × (Nat → Int)} {d : Nat} {a1 : Int} {σ : xM} (h0 : a1 = 0 ∨ a1 = 1) : Ev X d 197 0 [some (vr 100), some (vi a1)] [] SH σ = some (none, SH, (g197 σ a1)) := by
  refine Eq.trans (b197_0 (by first | omega | (simp (disch := omega) only [xadd_eq, xsub_eq, xmul_eq] <;> omega) | (have := p136 (by assumption); omega) | (have := p137 (by assumption); omega) | (have := p187 (by assumption); omega) | (have := p136 (by assumption); simp (disch := omega) only [xadd_eq, xsub_eq] <;> omega) | (have := p137 (by assumption); simp (disch := omega) only [xadd_eq, xsub_eq] <;> omega) | (have := p187 (by assumption); simp (disch := omega) only [xadd_eq, xsub_eq] <;> omega) | (simp (disch := omega) only [xadd_eq, xsub_eq] at *; omega) | (simp [g92, xwr] <;> omega) | exact z20 | exact z63 | exact z94 | exact z111 | exact z115 | exact z123 | exact z127 | exact z131 | exact z132 | exact z133 | exact z136 | exact z137 | exact z138 | exact z150 | exact z152 | exact z155 | exact z161 | exact z162 | exact z164 | exact z169 | exact z171 | exact z185 | exact z187)) ?_
  rfl

/-- StickSumsModel here (I)I -/
def f199 (σ : xM) (a1 : Int) : Int := (if (σ 100 5) ≤ (xadd (σ 100 4) a1) then (-1) else (σ 101 ((xadd (σ 100 4) a1)).toNat))
set_option maxHeartbeats 200000 in
theorem s199 {X : Nat × (Nat → Int)} {d : Nat} {a1 : Int} {σ : xM} (h0 : 0 ≤ σ 100 4 + a1) (h1 : σ 100 4 + a1 ≤ 2147483647) (h2 : σ 100 5 ≤ 300) : Ev X d 199 0 [some (vr 100), some (vi a1)] [] SH σ = some (some (vi (f199 σ a1)), SH, σ) := by
  refine Eq.trans (b199_0) ?_
  refine x_if (fun c1 => ?_) (fun c1 => ?_)
  · refine Eq.trans (b199_27) ?_
    refine Eq.trans (b199_28) ?_
    simp only [f199, if_pos c1]
  · refine Eq.trans (b199_13 (by first | omega | (simp (disch := omega) only [xadd_eq, xsub_eq, xmul_eq] <;> omega) | (have := p136 (by assumption); omega) | (have := p137 (by assumption); omega) | (have := p187 (by assumption); omega) | (have := p136 (by assumption); simp (disch := omega) only [xadd_eq, xsub_eq] <;> omega) | (have := p137 (by assumption); simp (disch := omega) only [xadd_eq, xsub_eq] <;> omega) | (have := p187 (by assumption); simp (disch := omega) only [xadd_eq, xsub_eq] <;> omega) | (simp (disch := omega) only [xadd_eq, xsub_eq] at *; omega) | (simp [g92, xwr] <;> omega) | exact z20 | exact z63 | exact z94 | exact z111 | exact z115 | exact z123 | exact z127 | exact z131 | exact z132 | exact z133 | exact z136 | exact z137 | exact z138 | exact z150 | exact z152 | exact z155 | exact z161 | exact z162 | exact z164 | exact z169 | exact z171 | exact z185 | exact z187)) ?_
    refine Eq.trans (b199_28) ?_
    simp only [f199, if_neg c1]

/-- StickSumsModel isLetter (I)Z -/
def f200 (σ : xM) (a0 : Int) : Int := (if a0 < 97 then 0 else (if 122 < a0 then 0 else 1))
set_option maxHeartbeats 200000 in
theorem s200 {X : Nat × (Nat → Int)} {d : Nat} {a0 : Int} {σ : xM} : Ev X d 200 0 [some (vi a0)] [] SH σ = some (some (vi (f200 σ a0)), SH, σ) := by
  refine Eq.trans (b200_0) ?_
  refine x_if (fun c1 => ?_) (fun c1 => ?_)
  · refine Eq.trans (b200_16) ?_
    refine Eq.trans (b200_17 (by first | omega | (simp (disch := omega) only [xadd_eq, xsub_eq, xmul_eq] <;> omega) | (have := p136 (by assumption); omega) | (have := p137 (by assumption); omega) | (have := p187 (by assumption); omega) | (have := p136 (by assumption); simp (disch := omega) only [xadd_eq, xsub_eq] <;> omega) | (have := p137 (by assumption); simp (disch := omega) only [xadd_eq, xsub_eq] <;> omega) | (have := p187 (by assumption); simp (disch := omega) only [xadd_eq, xsub_eq] <;> omega) | (simp (disch := omega) only [xadd_eq, xsub_eq] at *; omega) | (simp [g92, xwr] <;> omega) | exact z20 | exact z63 | exact z94 | exact z111 | exact z115 | exact z123 | exact z127 | exact z131 | exact z132 | exact z133 | exact z136 | exact z137 | exact z138 | exact z150 | exact z152 | exact z155 | exact z161 | exact z162 | exact z164 | exact z169 | exact z171 | exact z185 | exact z187)) ?_
    simp only [f200, if_pos c1]
  · refine Eq.trans (b200_6) ?_
    refine x_if (fun c2 => ?_) (fun c2 => ?_)
    · refine Eq.trans (b200_16) ?_
      refine Eq.trans (b200_17 (by first | omega | (simp (disch := omega) only [xadd_eq, xsub_eq, xmul_eq] <;> omega) | (have := p136 (by assumption); omega) | (have := p137 (by assumption); omega) | (have := p187 (by assumption); omega) | (have := p136 (by assumption); simp (disch := omega) only [xadd_eq, xsub_eq] <;> omega) | (have := p137 (by assumption); simp (disch := omega) only [xadd_eq, xsub_eq] <;> omega) | (have := p187 (by assumption); simp (disch := omega) only [xadd_eq, xsub_eq] <;> omega) | (simp (disch := omega) only [xadd_eq, xsub_eq] at *; omega) | (simp [g92, xwr] <;> omega) | exact z20 | exact z63 | exact z94 | exact z111 | exact z115 | exact z123 | exact z127 | exact z131 | exact z132 | exact z133 | exact z136 | exact z137 | exact z138 | exact z150 | exact z152 | exact z155 | exact z161 | exact z162 | exact z164 | exact z169 | exact z171 | exact z185 | exact z187)) ?_
      simp only [f200, if_neg c1, if_pos c2]
    · refine Eq.trans (b200_12) ?_
      refine Eq.trans (b200_17 (by first | omega | (simp (disch := omega) only [xadd_eq, xsub_eq, xmul_eq] <;> omega) | (have := p136 (by assumption); omega) | (have := p137 (by assumption); omega) | (have := p187 (by assumption); omega) | (have := p136 (by assumption); simp (disch := omega) only [xadd_eq, xsub_eq] <;> omega) | (have := p137 (by assumption); simp (disch := omega) only [xadd_eq, xsub_eq] <;> omega) | (have := p187 (by assumption); simp (disch := omega) only [xadd_eq, xsub_eq] <;> omega) | (simp (disch := omega) only [xadd_eq, xsub_eq] at *; omega) | (simp [g92, xwr] <;> omega) | exact z20 | exact z63 | exact z94 | exact z111 | exact z115 | exact z123 | exact z127 | exact z131 | exact z132 | exact z133 | exact z136 | exact z137 | exact z138 | exact z150 | exact z152 | exact z155 | exact z161 | exact z162 | exact z164 | exact z169 | exact z171 | exact z185 | exact z187)) ?_
      simp only [f200, if_neg c1, if_neg c2]
theorem z200 {σ : xM} {a0 : Int} : f200 σ a0 = 0 ∨ f200 σ a0 = 1 := by
  unfold f200
  (repeat' split) <;> first | exact Or.inl rfl | exact Or.inr rfl | exact z20 | exact z63 | exact z94 | exact z111 | exact z115 | exact z123 | exact z127 | exact z131 | exact z132 | exact z133 | exact z136 | exact z137 | exact z138 | exact z150 | exact z152 | exact z155 | exact z161 | exact z162 | exact z164 | exact z169 | exact z171 | exact z185 | exact z187

/-- StickSumsModel isDigit (I)Z -/
def f201 (σ : xM) (a0 : Int) : Int := (if a0 < 48 then 0 else (if 57 < a0 then 0 else 1))
set_option maxHeartbeats 200000 in
theorem s201 {X : Nat × (Nat → Int)} {d : Nat} {a0 : Int} {σ : xM} : Ev X d 201 0 [some (vi a0)] [] SH σ = some (some (vi (f201 σ a0)), SH, σ) := by
  refine Eq.trans (b201_0) ?_
  refine x_if (fun c1 => ?_) (fun c1 => ?_)
  · refine Eq.trans (b201_16) ?_
    refine Eq.trans (b201_17 (by first | omega | (simp (disch := omega) only [xadd_eq, xsub_eq, xmul_eq] <;> omega) | (have := p136 (by assumption); omega) | (have := p137 (by assumption); omega) | (have := p187 (by assumption); omega) | (have := p136 (by assumption); simp (disch := omega) only [xadd_eq, xsub_eq] <;> omega) | (have := p137 (by assumption); simp (disch := omega) only [xadd_eq, xsub_eq] <;> omega) | (have := p187 (by assumption); simp (disch := omega) only [xadd_eq, xsub_eq] <;> omega) | (simp (disch := omega) only [xadd_eq, xsub_eq] at *; omega) | (simp [g92, xwr] <;> omega) | exact z20 | exact z63 | exact z94 | exact z111 | exact z115 | exact z123 | exact z127 | exact z131 | exact z132 | exact z133 | exact z136 | exact z137 | exact z138 | exact z150 | exact z152 | exact z155 | exact z161 | exact z162 | exact z164 | exact z169 | exact z171 | exact z185 | exact z187 | exact z200)) ?_
    simp only [f201, if_pos c1]
  · refine Eq.trans (b201_6) ?_
    refine x_if (fun c2 => ?_) (fun c2 => ?_)
    · refine Eq.trans (b201_16) ?_
      refine Eq.trans (b201_17 (by first | omega | (simp (disch := omega) only [xadd_eq, xsub_eq, xmul_eq] <;> omega) | (have := p136 (by assumption); omega) | (have := p137 (by assumption); omega) | (have := p187 (by assumption); omega) | (have := p136 (by assumption); simp (disch := omega) only [xadd_eq, xsub_eq] <;> omega) | (have := p137 (by assumption); simp (disch := omega) only [xadd_eq, xsub_eq] <;> omega) | (have := p187 (by assumption); simp (disch := omega) only [xadd_eq, xsub_eq] <;> omega) | (simp (disch := omega) only [xadd_eq, xsub_eq] at *; omega) | (simp [g92, xwr] <;> omega) | exact z20 | exact z63 | exact z94 | exact z111 | exact z115 | exact z123 | exact z127 | exact z131 | exact z132 | exact z133 | exact z136 | exact z137 | exact z138 | exact z150 | exact z152 | exact z155 | exact z161 | exact z162 | exact z164 | exact z169 | exact z171 | exact z185 | exact z187 | exact z200)) ?_
      simp only [f201, if_neg c1, if_pos c2]
    · refine Eq.trans (b201_12) ?_
      refine Eq.trans (b201_17 (by first | omega | (simp (disch := omega) only [xadd_eq, xsub_eq, xmul_eq] <;> omega) | (have := p136 (by assumption); omega) | (have := p137 (by assumption); omega) | (have := p187 (by assumption); omega) | (have := p136 (by assumption); simp (disch := omega) only [xadd_eq, xsub_eq] <;> omega) | (have := p137 (by assumption); simp (disch := omega) only [xadd_eq, xsub_eq] <;> omega) | (have := p187 (by assumption); simp (disch := omega) only [xadd_eq, xsub_eq] <;> omega) | (simp (disch := omega) only [xadd_eq, xsub_eq] at *; omega) | (simp [g92, xwr] <;> omega) | exact z20 | exact z63 | exact z94 | exact z111 | exact z115 | exact z123 | exact z127 | exact z131 | exact z132 | exact z133 | exact z136 | exact z137 | exact z138 | exact z150 | exact z152 | exact z155 | exact z161 | exact z162 | exact z164 | exact z169 | exact z171 | exact z185 | exact z187 | exact z200)) ?_
      simp only [f201, if_neg c1, if_neg c2]
theorem z201 {σ : xM} {a0 : Int} : f201 σ a0 = 0 ∨ f201 σ a0 = 1 := by
  unfold f201
  (repeat' split) <;> first | exact Or.inl rfl | exact Or.inr rfl | exact z20 | exact z63 | exact z94 | exact z111 | exact z115 | exact z123 | exact z127 | exact z131 | exact z132 | exact z133 | exact z136 | exact z137 | exact z138 | exact z150 | exact z152 | exact z155 | exact z161 | exact z162 | exact z164 | exact z169 | exact z171 | exact z185 | exact z187 | exact z200

/-- StickSumsModel isSign (I)Z -/
def f202 (σ : xM) (a1 : Int) : Int := (if (σ 100 10) = 0 then (if a1 ≠ 59 then 0 else 1) else (if a1 = 40 then 1 else (if a1 = 41 then 1 else (if a1 = 60 then 1 else (if a1 = 62 then 1 else (if a1 = 61 then 1 else (if a1 = 43 then 1 else (if a1 = 45 then 1 else (if a1 ≠ 42 then 0 else 1)))))))))
set_option maxHeartbeats 200000 in
theorem s202 {X : Nat × (Nat → Int)} {d : Nat} {a1 : Int} {σ : xM} : Ev X d 202 0 [some (vr 100), some (vi a1)] [] SH σ = some (some (vi (f202 σ a1)), SH, σ) := by
  refine Eq.trans (b202_0) ?_
  refine x_if (fun c1 => ?_) (fun c1 => ?_)
  · refine Eq.trans (b202_63) ?_
    refine x_if (fun c2 => ?_) (fun c2 => ?_)
    · refine Eq.trans (b202_73) ?_
      refine Eq.trans (b202_74 (by first | omega | (simp (disch := omega) only [xadd_eq, xsub_eq, xmul_eq] <;> omega) | (have := p136 (by assumption); omega) | (have := p137 (by assumption); omega) | (have := p187 (by assumption); omega) | (have := p136 (by assumption); simp (disch := omega) only [xadd_eq, xsub_eq] <;> omega) | (have := p137 (by assumption); simp (disch := omega) only [xadd_eq, xsub_eq] <;> omega) | (have := p187 (by assumption); simp (disch := omega) only [xadd_eq, xsub_eq] <;> omega) | (simp (disch := omega) only [xadd_eq, xsub_eq] at *; omega) | (simp [g92, xwr] <;> omega) | exact z20 | exact z63 | exact z94 | exact z111 | exact z115 | exact z123 | exact z127 | exact z131 | exact z132 | exact z133 | exact z136 | exact z137 | exact z138 | exact z150 | exact z152 | exact z155 | exact z161 | exact z162 | exact z164 | exact z169 | exact z171 | exact z185 | exact z187 | exact z200 | exact z201)) ?_
      simp only [f202, if_pos c1, if_pos c2]
    · refine Eq.trans (b202_69) ?_
      refine Eq.trans (b202_74 (by first | omega | (simp (disch := omega) only [xadd_eq, xsub_eq, xmul_eq] <;> omega) | (have := p136 (by assumption); omega) | (have := p137 (by assumption); omega) | (have := p187 (by assumption); omega) | (have := p136 (by assumption); simp (disch := omega) only [xadd_eq, xsub_eq] <;> omega) | (have := p137 (by assumption); simp (disch := omega) only [xadd_eq, xsub_eq] <;> omega) | (have := p187 (by assumption); simp (disch := omega) only [xadd_eq, xsub_eq] <;> omega) | (simp (disch := omega) only [xadd_eq, xsub_eq] at *; omega) | (simp [g92, xwr] <;> omega) | exact z20 | exact z63 | exact z94 | exact z111 | exact z115 | exact z123 | exact z127 | exact z131 | exact z132 | exact z133 | exact z136 | exact z137 | exact z138 | exact z150 | exact z152 | exact z155 | exact z161 | exact z162 | exact z164 | exact z169 | exact z171 | exact z185 | exact z187 | exact z200 | exact z201)) ?_
      simp only [f202, if_pos c1, if_neg c2]
  · refine Eq.trans (b202_7) ?_
    refine x_if (fun c3 => ?_) (fun c3 => ?_)
    · refine Eq.trans (b202_55) ?_
      refine Eq.trans (b202_74 (by first | omega | (simp (disch := omega) only [xadd_eq, xsub_eq, xmul_eq] <;> omega) | (have := p136 (by assumption); omega) | (have := p137 (by assumption); omega) | (have := p187 (by assumption); omega) | (have := p136 (by assumption); simp (disch := omega) only [xadd_eq, xsub_eq] <;> omega) | (have := p137 (by assumption); simp (disch := omega) only [xadd_eq, xsub_eq] <;> omega) | (have := p187 (by assumption); simp (disch := omega) only [xadd_eq, xsub_eq] <;> omega) | (simp (disch := omega) only [xadd_eq, xsub_eq] at *; omega) | (simp [g92, xwr] <;> omega) | exact z20 | exact z63 | exact z94 | exact z111 | exact z115 | exact z123 | exact z127 | exact z131 | exact z132 | exact z133 | exact z136 | exact z137 | exact z138 | exact z150 | exact z152 | exact z155 | exact z161 | exact z162 | exact z164 | exact z169 | exact z171 | exact z185 | exact z187 | exact z200 | exact z201)) ?_
      simp only [f202, if_neg c1, if_pos c3]
    · refine Eq.trans (b202_13) ?_
      refine x_if (fun c4 => ?_) (fun c4 => ?_)
      · refine Eq.trans (b202_55) ?_
        refine Eq.trans (b202_74 (by first | omega | (simp (disch := omega) only [xadd_eq, xsub_eq, xmul_eq] <;> omega) | (have := p136 (by assumption); omega) | (have := p137 (by assumption); omega) | (have := p187 (by assumption); omega) | (have := p136 (by assumption); simp (disch := omega) only [xadd_eq, xsub_eq] <;> omega) | (have := p137 (by assumption); simp (disch := omega) only [xadd_eq, xsub_eq] <;> omega) | (have := p187 (by assumption); simp (disch := omega) only [xadd_eq, xsub_eq] <;> omega) | (simp (disch := omega) only [xadd_eq, xsub_eq] at *; omega) | (simp [g92, xwr] <;> omega) | exact z20 | exact z63 | exact z94 | exact z111 | exact z115 | exact z123 | exact z127 | exact z131 | exact z132 | exact z133 | exact z136 | exact z137 | exact z138 | exact z150 | exact z152 | exact z155 | exact z161 | exact z162 | exact z164 | exact z169 | exact z171 | exact z185 | exact z187 | exact z200 | exact z201)) ?_
        simp only [f202, if_neg c1, if_neg c3, if_pos c4]
      · refine Eq.trans (b202_19) ?_
        refine x_if (fun c5 => ?_) (fun c5 => ?_)
        · refine Eq.trans (b202_55) ?_
          refine Eq.trans (b202_74 (by first | omega | (simp (disch := omega) only [xadd_eq, xsub_eq, xmul_eq] <;> omega) | (have := p136 (by assumption); omega) | (have := p137 (by assumption); omega) | (have := p187 (by assumption); omega) | (have := p136 (by assumption); simp (disch := omega) only [xadd_eq, xsub_eq] <;> omega) | (have := p137 (by assumption); simp (disch := omega) only [xadd_eq, xsub_eq] <;> omega) | (have := p187 (by assumption); simp (disch := omega) only [xadd_eq, xsub_eq] <;> omega) | (simp (disch := omega) only [xadd_eq, xsub_eq] at *; omega) | (simp [g92, xwr] <;> omega) | exact z20 | exact z63 | exact z94 | exact z111 | exact z115 | exact z123 | exact z127 | exact z131 | exact z132 | exact z133 | exact z136 | exact z137 | exact z138 | exact z150 | exact z152 | exact z155 | exact z161 | exact z162 | exact z164 | exact z169 | exact z171 | exact z185 | exact z187 | exact z200 | exact z201)) ?_
          simp only [f202, if_neg c1, if_neg c3, if_neg c4, if_pos c5]
        · refine Eq.trans (b202_25) ?_
          refine x_if (fun c6 => ?_) (fun c6 => ?_)
          · refine Eq.trans (b202_55) ?_
            refine Eq.trans (b202_74 (by first | omega | (simp (disch := omega) only [xadd_eq, xsub_eq, xmul_eq] <;> omega) | (have := p136 (by assumption); omega) | (have := p137 (by assumption); omega) | (have := p187 (by assumption); omega) | (have := p136 (by assumption); simp (disch := omega) only [xadd_eq, xsub_eq] <;> omega) | (have := p137 (by assumption); simp (disch := omega) only [xadd_eq, xsub_eq] <;> omega) | (have := p187 (by assumption); simp (disch := omega) only [xadd_eq, xsub_eq] <;> omega) | (simp (disch := omega) only [xadd_eq, xsub_eq] at *; omega) | (simp [g92, xwr] <;> omega) | exact z20 | exact z63 | exact z94 | exact z111 | exact z115 | exact z123 | exact z127 | exact z131 | exact z132 | exact z133 | exact z136 | exact z137 | exact z138 | exact z150 | exact z152 | exact z155 | exact z161 | exact z162 | exact z164 | exact z169 | exact z171 | exact z185 | exact z187 | exact z200 | exact z201)) ?_
            simp only [f202, if_neg c1, if_neg c3, if_neg c4, if_neg c5, if_pos c6]
          · refine Eq.trans (b202_31) ?_
            refine x_if (fun c7 => ?_) (fun c7 => ?_)
            · refine Eq.trans (b202_55) ?_
              refine Eq.trans (b202_74 (by first | omega | (simp (disch := omega) only [xadd_eq, xsub_eq, xmul_eq] <;> omega) | (have := p136 (by assumption); omega) | (have := p137 (by assumption); omega) | (have := p187 (by assumption); omega) | (have := p136 (by assumption); simp (disch := omega) only [xadd_eq, xsub_eq] <;> omega) | (have := p137 (by assumption); simp (disch := omega) only [xadd_eq, xsub_eq] <;> omega) | (have := p187 (by assumption); simp (disch := omega) only [xadd_eq, xsub_eq] <;> omega) | (simp (disch := omega) only [xadd_eq, xsub_eq] at *; omega) | (simp [g92, xwr] <;> omega) | exact z20 | exact z63 | exact z94 | exact z111 | exact z115 | exact z123 | exact z127 | exact z131 | exact z132 | exact z133 | exact z136 | exact z137 | exact z138 | exact z150 | exact z152 | exact z155 | exact z161 | exact z162 | exact z164 | exact z169 | exact z171 | exact z185 | exact z187 | exact z200 | exact z201)) ?_
              simp only [f202, if_neg c1, if_neg c3, if_neg c4, if_neg c5, if_neg c6, if_pos c7]
            · refine Eq.trans (b202_37) ?_
              refine x_if (fun c8 => ?_) (fun c8 => ?_)
              · refine Eq.trans (b202_55) ?_
                refine Eq.trans (b202_74 (by first | omega | (simp (disch := omega) only [xadd_eq, xsub_eq, xmul_eq] <;> omega) | (have := p136 (by assumption); omega) | (have := p137 (by assumption); omega) | (have := p187 (by assumption); omega) | (have := p136 (by assumption); simp (disch := omega) only [xadd_eq, xsub_eq] <;> omega) | (have := p137 (by assumption); simp (disch := omega) only [xadd_eq, xsub_eq] <;> omega) | (have := p187 (by assumption); simp (disch := omega) only [xadd_eq, xsub_eq] <;> omega) | (simp (disch := omega) only [xadd_eq, xsub_eq] at *; omega) | (simp [g92, xwr] <;> omega) | exact z20 | exact z63 | exact z94 | exact z111 | exact z115 | exact z123 | exact z127 | exact z131 | exact z132 | exact z133 | exact z136 | exact z137 | exact z138 | exact z150 | exact z152 | exact z155 | exact z161 | exact z162 | exact z164 | exact z169 | exact z171 | exact z185 | exact z187 | exact z200 | exact z201)) ?_
                simp only [f202, if_neg c1, if_neg c3, if_neg c4, if_neg c5, if_neg c6, if_neg c7, if_pos c8]
              · refine Eq.trans (b202_43) ?_
                refine x_if (fun c9 => ?_) (fun c9 => ?_)
                · refine Eq.trans (b202_55) ?_
                  refine Eq.trans (b202_74 (by first | omega | (simp (disch := omega) only [xadd_eq, xsub_eq, xmul_eq] <;> omega) | (have := p136 (by assumption); omega) | (have := p137 (by assumption); omega) | (have := p187 (by assumption); omega) | (have := p136 (by assumption); simp (disch := omega) only [xadd_eq, xsub_eq] <;> omega) | (have := p137 (by assumption); simp (disch := omega) only [xadd_eq, xsub_eq] <;> omega) | (have := p187 (by assumption); simp (disch := omega) only [xadd_eq, xsub_eq] <;> omega) | (simp (disch := omega) only [xadd_eq, xsub_eq] at *; omega) | (simp [g92, xwr] <;> omega) | exact z20 | exact z63 | exact z94 | exact z111 | exact z115 | exact z123 | exact z127 | exact z131 | exact z132 | exact z133 | exact z136 | exact z137 | exact z138 | exact z150 | exact z152 | exact z155 | exact z161 | exact z162 | exact z164 | exact z169 | exact z171 | exact z185 | exact z187 | exact z200 | exact z201)) ?_
                  simp only [f202, if_neg c1, if_neg c3, if_neg c4, if_neg c5, if_neg c6, if_neg c7, if_neg c8, if_pos c9]
                · refine Eq.trans (b202_49) ?_
                  refine x_if (fun c10 => ?_) (fun c10 => ?_)
                  · refine Eq.trans (b202_59) ?_
                    refine Eq.trans (b202_74 (by first | omega | (simp (disch := omega) only [xadd_eq, xsub_eq, xmul_eq] <;> omega) | (have := p136 (by assumption); omega) | (have := p137 (by assumption); omega) | (have := p187 (by assumption); omega) | (have := p136 (by assumption); simp (disch := omega) only [xadd_eq, xsub_eq] <;> omega) | (have := p137 (by assumption); simp (disch := omega) only [xadd_eq, xsub_eq] <;> omega) | (have := p187 (by assumption); simp (disch := omega) only [xadd_eq, xsub_eq] <;> omega) | (simp (disch := omega) only [xadd_eq, xsub_eq] at *; omega) | (simp [g92, xwr] <;> omega) | exact z20 | exact z63 | exact z94 | exact z111 | exact z115 | exact z123 | exact z127 | exact z131 | exact z132 | exact z133 | exact z136 | exact z137 | exact z138 | exact z150 | exact z152 | exact z155 | exact z161 | exact z162 | exact z164 | exact z169 | exact z171 | exact z185 | exact z187 | exact z200 | exact z201)) ?_
                    simp only [f202, if_neg c1, if_neg c3, if_neg c4, if_neg c5, if_neg c6, if_neg c7, if_neg c8, if_neg c9, if_pos c10]
                  · refine Eq.trans (b202_55) ?_
                    refine Eq.trans (b202_74 (by first | omega | (simp (disch := omega) only [xadd_eq, xsub_eq, xmul_eq] <;> omega) | (have := p136 (by assumption); omega) | (have := p137 (by assumption); omega) | (have := p187 (by assumption); omega) | (have := p136 (by assumption); simp (disch := omega) only [xadd_eq, xsub_eq] <;> omega) | (have := p137 (by assumption); simp (disch := omega) only [xadd_eq, xsub_eq] <;> omega) | (have := p187 (by assumption); simp (disch := omega) only [xadd_eq, xsub_eq] <;> omega) | (simp (disch := omega) only [xadd_eq, xsub_eq] at *; omega) | (simp [g92, xwr] <;> omega) | exact z20 | exact z63 | exact z94 | exact z111 | exact z115 | exact z123 | exact z127 | exact z131 | exact z132 | exact z133 | exact z136 | exact z137 | exact z138 | exact z150 | exact z152 | exact z155 | exact z161 | exact z162 | exact z164 | exact z169 | exact z171 | exact z185 | exact z187 | exact z200 | exact z201)) ?_
                    simp only [f202, if_neg c1, if_neg c3, if_neg c4, if_neg c5, if_neg c6, if_neg c7, if_neg c8, if_neg c9, if_neg c10]
theorem z202 {σ : xM} {a1 : Int} : f202 σ a1 = 0 ∨ f202 σ a1 = 1 := by
  unfold f202
  (repeat' split) <;> first | exact Or.inl rfl | exact Or.inr rfl | exact z20 | exact z63 | exact z94 | exact z111 | exact z115 | exact z123 | exact z127 | exact z131 | exact z132 | exact z133 | exact z136 | exact z137 | exact z138 | exact z150 | exact z152 | exact z155 | exact z161 | exact z162 | exact z164 | exact z169 | exact z171 | exact z185 | exact z187 | exact z200 | exact z201

/-- StickSumsModel isWord (J)Z -/
def f205 (σ : xM) (a1 : Int) : Int := (if (σ 100 6) ≠ 1 then 0 else (if (lcmp' (σ 100 9) a1) ≠ 0 then 0 else 1))
set_option maxHeartbeats 200000 in
theorem s205 {X : Nat × (Nat → Int)} {d : Nat} {a1 : Int} {σ : xM} : Ev X d 205 0 [some (vr 100), some (vl a1), none] [] SH σ = some (some (vi (f205 σ a1)), SH, σ) := by
  refine Eq.trans (b205_0) ?_
  refine x_if (fun c1 => ?_) (fun c1 => ?_)
  · refine Eq.trans (b205_21) ?_
    refine Eq.trans (b205_22 (by first | omega | (simp (disch := omega) only [xadd_eq, xsub_eq, xmul_eq] <;> omega) | (have := p136 (by assumption); omega) | (have := p137 (by assumption); omega) | (have := p187 (by assumption); omega) | (have := p136 (by assumption); simp (disch := omega) only [xadd_eq, xsub_eq] <;> omega) | (have := p137 (by assumption); simp (disch := omega) only [xadd_eq, xsub_eq] <;> omega) | (have := p187 (by assumption); simp (disch := omega) only [xadd_eq, xsub_eq] <;> omega) | (simp (disch := omega) only [xadd_eq, xsub_eq] at *; omega) | (simp [g92, xwr] <;> omega) | exact z20 | exact z63 | exact z94 | exact z111 | exact z115 | exact z123 | exact z127 | exact z131 | exact z132 | exact z133 | exact z136 | exact z137 | exact z138 | exact z150 | exact z152 | exact z155 | exact z161 | exact z162 | exact z164 | exact z169 | exact z171 | exact z185 | exact z187 | exact z200 | exact z201 | exact z202)) ?_
    simp only [f205, if_pos c1]
  · refine Eq.trans (b205_8) ?_
    refine x_if (fun c2 => ?_) (fun c2 => ?_)
    · refine Eq.trans (b205_21) ?_
      refine Eq.trans (b205_22 (by first | omega | (simp (disch := omega) only [xadd_eq, xsub_eq, xmul_eq] <;> omega) | (have := p136 (by assumption); omega) | (have := p137 (by assumption); omega) | (have := p187 (by assumption); omega) | (have := p136 (by assumption); simp (disch := omega) only [xadd_eq, xsub_eq] <;> omega) | (have := p137 (by assumption); simp (disch := omega) only [xadd_eq, xsub_eq] <;> omega) | (have := p187 (by assumption); simp (disch := omega) only [xadd_eq, xsub_eq] <;> omega) | (simp (disch := omega) only [xadd_eq, xsub_eq] at *; omega) | (simp [g92, xwr] <;> omega) | exact z20 | exact z63 | exact z94 | exact z111 | exact z115 | exact z123 | exact z127 | exact z131 | exact z132 | exact z133 | exact z136 | exact z137 | exact z138 | exact z150 | exact z152 | exact z155 | exact z161 | exact z162 | exact z164 | exact z169 | exact z171 | exact z185 | exact z187 | exact z200 | exact z201 | exact z202)) ?_
      simp only [f205, if_neg c1, if_pos c2]
    · refine Eq.trans (b205_17) ?_
      refine Eq.trans (b205_22 (by first | omega | (simp (disch := omega) only [xadd_eq, xsub_eq, xmul_eq] <;> omega) | (have := p136 (by assumption); omega) | (have := p137 (by assumption); omega) | (have := p187 (by assumption); omega) | (have := p136 (by assumption); simp (disch := omega) only [xadd_eq, xsub_eq] <;> omega) | (have := p137 (by assumption); simp (disch := omega) only [xadd_eq, xsub_eq] <;> omega) | (have := p187 (by assumption); simp (disch := omega) only [xadd_eq, xsub_eq] <;> omega) | (simp (disch := omega) only [xadd_eq, xsub_eq] at *; omega) | (simp [g92, xwr] <;> omega) | exact z20 | exact z63 | exact z94 | exact z111 | exact z115 | exact z123 | exact z127 | exact z131 | exact z132 | exact z133 | exact z136 | exact z137 | exact z138 | exact z150 | exact z152 | exact z155 | exact z161 | exact z162 | exact z164 | exact z169 | exact z171 | exact z185 | exact z187 | exact z200 | exact z201 | exact z202)) ?_
      simp only [f205, if_neg c1, if_neg c2]
theorem z205 {σ : xM} {a1 : Int} : f205 σ a1 = 0 ∨ f205 σ a1 = 1 := by
  unfold f205
  (repeat' split) <;> first | exact Or.inl rfl | exact Or.inr rfl | exact z20 | exact z63 | exact z94 | exact z111 | exact z115 | exact z123 | exact z127 | exact z131 | exact z132 | exact z133 | exact z136 | exact z137 | exact z138 | exact z150 | exact z152 | exact z155 | exact z161 | exact z162 | exact z164 | exact z169 | exact z171 | exact z185 | exact z187 | exact z200 | exact z201 | exact z202

/-- StickSumsModel wrong (I)V: the cells behind it -/
def g206 (σ : xM) (a1 : Int) : xM := (if (σ 100 2) ≤ 0 then (if (σ 100 6) ≠ 3 then (xwr (xwr σ 100 2 a1) 100 3 (σ 100 7)) else (xwr (xwr σ 100 2 1) 100 3 (σ 100 7))) else σ)
set_option maxHeartbeats 200000 in
theorem s206 {X : Nat × (Nat → Int)} {d : Nat} {a1 : Int} {σ : xM} : Ev X d 206 0 [some (vr 100), some (vi a1)] [] SH σ = some (none, SH, (g206 σ a1)) := by
  refine Eq.trans (b206_0) ?_
  refine x_if (fun c1 => ?_) (fun c1 => ?_)
  · refine Eq.trans (b206_8) ?_
    refine x_if (fun c2 => ?_) (fun c2 => ?_)
    · refine Eq.trans (b206_21) ?_
      refine Eq.trans (b206_22) ?_
      simp only [g206, if_pos c1, if_pos c2]
    · refine Eq.trans (b206_17) ?_
      refine Eq.trans (b206_22) ?_
      simp only [g206, if_pos c1, if_neg c2]
  · refine Eq.trans (b206_7) ?_
    simp only [g206, if_neg c1]

/-- StickSumsModel told (II)I -/
def f207 (σ : xM) (a1 : Int) (a2 : Int) : Int := (if (σ 100 2) ≤ 0 then (if (σ 100 6) = 2 then (if (σ 100 8) < a1 then ((g206 σ 4) 100 8) else (if (σ 100 8) ≤ a2 then (σ 100 8) else ((g206 σ 4) 100 8))) else ((g206 σ 2) 100 8)) else 0)
/-- StickSumsModel told (II)I: the cells behind it -/
def g207 (σ : xM) (a1 : Int) (a2 : Int) : xM := (if (σ 100 2) ≤ 0 then (if (σ 100 6) = 2 then (if (σ 100 8) < a1 then (g206 σ 4) else (if (σ 100 8) ≤ a2 then σ else (g206 σ 4))) else (g206 σ 2)) else σ)
set_option maxHeartbeats 200000 in
theorem s207 {X : Nat × (Nat → Int)} {d : Nat} {a1 : Int} {a2 : Int} {σ : xM} : Ev X (d + 1) 207 0 [some (vr 100), some (vi a1), some (vi a2)] [] SH σ = some (some (vi (f207 σ a1 a2)), SH, (g207 σ a1 a2)) := by
  refine Eq.trans (b207_0) ?_
  refine x_if (fun c1 => ?_) (fun c1 => ?_)
  · refine Eq.trans (b207_9) ?_
    refine x_if (fun c2 => ?_) (fun c2 => ?_)
    · refine Eq.trans (b207_25) ?_
      refine x_if (fun c3 => ?_) (fun c3 => ?_)
      · refine Eq.trans (b207_41) ?_
        refine x_bind (s206) ?_
        refine Eq.trans (b207_46) ?_
        simp only [f207, g207, if_pos c1, if_pos c2, if_pos c3]
      · refine Eq.trans (b207_33) ?_
        refine x_if (fun c4 => ?_) (fun c4 => ?_)
        · refine Eq.trans (b207_46) ?_
          simp only [f207, g207, if_pos c1, if_pos c2, if_neg c3, if_pos c4]
        · refine Eq.trans (b207_41) ?_
          refine x_bind (s206) ?_
          refine Eq.trans (b207_46) ?_
          simp only [f207, g207, if_pos c1, if_pos c2, if_neg c3, if_neg c4]
    · refine Eq.trans (b207_17) ?_
      refine x_bind (s206) ?_
      refine Eq.trans (b207_22) ?_
      refine Eq.trans (b207_46) ?_
      simp only [f207, g207, if_pos c1, if_neg c2]
  · refine Eq.trans (b207_7) ?_
    simp only [f207, g207, if_neg c1]

/-- StickSumsModel fault (I)I -/
def f209 (σ : xM) (a1 : Int) : Int := (if a1 ≠ 0 then (if a1 ≠ 1 then (-1) else (σ 100 3)) else (σ 100 2))
set_option maxHeartbeats 200000 in
theorem s209 {X : Nat × (Nat → Int)} {d : Nat} {a1 : Int} {σ : xM} : Ev X d 209 0 [some (vr 100), some (vi a1)] [] SH σ = some (some (vi (f209 σ a1)), SH, σ) := by
  refine Eq.trans (b209_0) ?_
  refine x_if (fun c1 => ?_) (fun c1 => ?_)
  · refine Eq.trans (b209_11) ?_
    refine x_if (fun c2 => ?_) (fun c2 => ?_)
    · refine Eq.trans (b209_23) ?_
      refine Eq.trans (b209_24) ?_
      simp only [f209, if_pos c1, if_pos c2]
    · refine Eq.trans (b209_16) ?_
      refine Eq.trans (b209_24) ?_
      simp only [f209, if_pos c1, if_neg c2]
  · refine Eq.trans (b209_4) ?_
    refine Eq.trans (b209_24) ?_
    simp only [f209, if_neg c1]

/-- StickSumsModel way (II)I -/
def f210 (σ : xM) (a1 : Int) (a2 : Int) : Int := (if a1 < 0 then (-1) else (if 9 < a1 then (-1) else (if a2 < 0 then (-1) else (if 1 < a2 then (-1) else (if (σ 102 ((xadd (xmul 2 a1) a2)).toNat) ≠ 0 then (σ 102 ((xadd (xmul 2 a1) a2)).toNat) else (-1))))))
set_option maxHeartbeats 200000 in
theorem s210 {X : Nat × (Nat → Int)} {d : Nat} {a1 : Int} {a2 : Int} {σ : xM} : Ev X d 210 0 [some (vr 100), some (vi a1), some (vi a2)] [] SH σ = some (some (vi (f210 σ a1 a2)), SH, σ) := by
  refine Eq.trans (b210_0) ?_
  refine x_if (fun c1 => ?_) (fun c1 => ?_)
  · refine Eq.trans (b210_32) ?_
    refine Eq.trans (b210_46) ?_
    simp only [f210, if_pos c1]
  · refine Eq.trans (b210_4) ?_
    refine x_if (fun c2 => ?_) (fun c2 => ?_)
    · refine Eq.trans (b210_32) ?_
      refine Eq.trans (b210_46) ?_
      simp only [f210, if_neg c1, if_pos c2]
    · refine Eq.trans (b210_10) ?_
      refine x_if (fun c3 => ?_) (fun c3 => ?_)
      · refine Eq.trans (b210_32) ?_
        refine Eq.trans (b210_46) ?_
        simp only [f210, if_neg c1, if_neg c2, if_pos c3]
      · refine Eq.trans (b210_14) ?_
        refine x_if (fun c4 => ?_) (fun c4 => ?_)
        · refine Eq.trans (b210_32) ?_
          refine Eq.trans (b210_46) ?_
          simp only [f210, if_neg c1, if_neg c2, if_neg c3, if_pos c4]
        · refine Eq.trans (b210_19 (by first | omega | (simp (disch := omega) only [xadd_eq, xsub_eq, xmul_eq] <;> omega) | (have := p136 (by assumption); omega) | (have := p137 (by assumption); omega) | (have := p187 (by assumption); omega) | (have := p136 (by assumption); simp (disch := omega) only [xadd_eq, xsub_eq] <;> omega) | (have := p137 (by assumption); simp (disch := omega) only [xadd_eq, xsub_eq] <;> omega) | (have := p187 (by assumption); simp (disch := omega) only [xadd_eq, xsub_eq] <;> omega) | (simp (disch := omega) only [xadd_eq, xsub_eq] at *; omega) | (simp [g92, xwr] <;> omega) | exact z20 | exact z63 | exact z94 | exact z111 | exact z115 | exact z123 | exact z127 | exact z131 | exact z132 | exact z133 | exact z136 | exact z137 | exact z138 | exact z150 | exact z152 | exact z155 | exact z161 | exact z162 | exact z164 | exact z169 | exact z171 | exact z185 | exact z187 | exact z200 | exact z201 | exact z202 | exact z205)) ?_
          refine x_if (fun c5 => ?_) (fun c5 => ?_)
          · refine Eq.trans (b210_36 (by first | omega | (simp (disch := omega) only [xadd_eq, xsub_eq, xmul_eq] <;> omega) | (have := p136 (by assumption); omega) | (have := p137 (by assumption); omega) | (have := p187 (by assumption); omega) | (have := p136 (by assumption); simp (disch := omega) only [xadd_eq, xsub_eq] <;> omega) | (have := p137 (by assumption); simp (disch := omega) only [xadd_eq, xsub_eq] <;> omega) | (have := p187 (by assumption); simp (disch := omega) only [xadd_eq, xsub_eq] <;> omega) | (simp (disch := omega) only [xadd_eq, xsub_eq] at *; omega) | (simp [g92, xwr] <;> omega) | exact z20 | exact z63 | exact z94 | exact z111 | exact z115 | exact z123 | exact z127 | exact z131 | exact z132 | exact z133 | exact z136 | exact z137 | exact z138 | exact z150 | exact z152 | exact z155 | exact z161 | exact z162 | exact z164 | exact z169 | exact z171 | exact z185 | exact z187 | exact z200 | exact z201 | exact z202 | exact z205)) ?_
            refine Eq.trans (b210_46) ?_
            simp only [f210, if_neg c1, if_neg c2, if_neg c3, if_neg c4, if_pos c5]
          · refine Eq.trans (b210_32) ?_
            refine Eq.trans (b210_46) ?_
            simp only [f210, if_neg c1, if_neg c2, if_neg c3, if_neg c4, if_neg c5]

/-- StickSumsModel isOperator (I)Z -/
def f213 (σ : xM) (a0 : Int) : Int := (if a0 = 43 then 1 else (if a0 = 45 then 1 else (if a0 = 42 then 1 else (if a0 ≠ 47 then 0 else 1))))
set_option maxHeartbeats 200000 in
theorem s213 {X : Nat × (Nat → Int)} {d : Nat} {a0 : Int} {σ : xM} : Ev X d 213 0 [some (vi a0)] [] SH σ = some (some (vi (f213 σ a0)), SH, σ) := by
  refine Eq.trans (b213_0) ?_
  refine x_if (fun c1 => ?_) (fun c1 => ?_)
  · refine Eq.trans (b213_24) ?_
    refine Eq.trans (b213_29 (by first | omega | (simp (disch := omega) only [xadd_eq, xsub_eq, xmul_eq] <;> omega) | (have := p136 (by assumption); omega) | (have := p137 (by assumption); omega) | (have := p187 (by assumption); omega) | (have := p136 (by assumption); simp (disch := omega) only [xadd_eq, xsub_eq] <;> omega) | (have := p137 (by assumption); simp (disch := omega) only [xadd_eq, xsub_eq] <;> omega) | (have := p187 (by assumption); simp (disch := omega) only [xadd_eq, xsub_eq] <;> omega) | (simp (disch := omega) only [xadd_eq, xsub_eq] at *; omega) | (simp [g92, xwr] <;> omega) | exact z20 | exact z63 | exact z94 | exact z111 | exact z115 | exact z123 | exact z127 | exact z131 | exact z132 | exact z133 | exact z136 | exact z137 | exact z138 | exact z150 | exact z152 | exact z155 | exact z161 | exact z162 | exact z164 | exact z169 | exact z171 | exact z185 | exact z187 | exact z200 | exact z201 | exact z202 | exact z205)) ?_
    simp only [f213, if_pos c1]
  · refine Eq.trans (b213_6) ?_
    refine x_if (fun c2 => ?_) (fun c2 => ?_)
    · refine Eq.trans (b213_24) ?_
      refine Eq.trans (b213_29 (by first | omega | (simp (disch := omega) only [xadd_eq, xsub_eq, xmul_eq] <;> omega) | (have := p136 (by assumption); omega) | (have := p137 (by assumption); omega) | (have := p187 (by assumption); omega) | (have := p136 (by assumption); simp (disch := omega) only [xadd_eq, xsub_eq] <;> omega) | (have := p137 (by assumption); simp (disch := omega) only [xadd_eq, xsub_eq] <;> omega) | (have := p187 (by assumption); simp (disch := omega) only [xadd_eq, xsub_eq] <;> omega) | (simp (disch := omega) only [xadd_eq, xsub_eq] at *; omega) | (simp [g92, xwr] <;> omega) | exact z20 | exact z63 | exact z94 | exact z111 | exact z115 | exact z123 | exact z127 | exact z131 | exact z132 | exact z133 | exact z136 | exact z137 | exact z138 | exact z150 | exact z152 | exact z155 | exact z161 | exact z162 | exact z164 | exact z169 | exact z171 | exact z185 | exact z187 | exact z200 | exact z201 | exact z202 | exact z205)) ?_
      simp only [f213, if_neg c1, if_pos c2]
    · refine Eq.trans (b213_12) ?_
      refine x_if (fun c3 => ?_) (fun c3 => ?_)
      · refine Eq.trans (b213_24) ?_
        refine Eq.trans (b213_29 (by first | omega | (simp (disch := omega) only [xadd_eq, xsub_eq, xmul_eq] <;> omega) | (have := p136 (by assumption); omega) | (have := p137 (by assumption); omega) | (have := p187 (by assumption); omega) | (have := p136 (by assumption); simp (disch := omega) only [xadd_eq, xsub_eq] <;> omega) | (have := p137 (by assumption); simp (disch := omega) only [xadd_eq, xsub_eq] <;> omega) | (have := p187 (by assumption); simp (disch := omega) only [xadd_eq, xsub_eq] <;> omega) | (simp (disch := omega) only [xadd_eq, xsub_eq] at *; omega) | (simp [g92, xwr] <;> omega) | exact z20 | exact z63 | exact z94 | exact z111 | exact z115 | exact z123 | exact z127 | exact z131 | exact z132 | exact z133 | exact z136 | exact z137 | exact z138 | exact z150 | exact z152 | exact z155 | exact z161 | exact z162 | exact z164 | exact z169 | exact z171 | exact z185 | exact z187 | exact z200 | exact z201 | exact z202 | exact z205)) ?_
        simp only [f213, if_neg c1, if_neg c2, if_pos c3]
      · refine Eq.trans (b213_18) ?_
        refine x_if (fun c4 => ?_) (fun c4 => ?_)
        · refine Eq.trans (b213_28) ?_
          refine Eq.trans (b213_29 (by first | omega | (simp (disch := omega) only [xadd_eq, xsub_eq, xmul_eq] <;> omega) | (have := p136 (by assumption); omega) | (have := p137 (by assumption); omega) | (have := p187 (by assumption); omega) | (have := p136 (by assumption); simp (disch := omega) only [xadd_eq, xsub_eq] <;> omega) | (have := p137 (by assumption); simp (disch := omega) only [xadd_eq, xsub_eq] <;> omega) | (have := p187 (by assumption); simp (disch := omega) only [xadd_eq, xsub_eq] <;> omega) | (simp (disch := omega) only [xadd_eq, xsub_eq] at *; omega) | (simp [g92, xwr] <;> omega) | exact z20 | exact z63 | exact z94 | exact z111 | exact z115 | exact z123 | exact z127 | exact z131 | exact z132 | exact z133 | exact z136 | exact z137 | exact z138 | exact z150 | exact z152 | exact z155 | exact z161 | exact z162 | exact z164 | exact z169 | exact z171 | exact z185 | exact z187 | exact z200 | exact z201 | exact z202 | exact z205)) ?_
          simp only [f213, if_neg c1, if_neg c2, if_neg c3, if_pos c4]
        · refine Eq.trans (b213_24) ?_
          refine Eq.trans (b213_29 (by first | omega | (simp (disch := omega) only [xadd_eq, xsub_eq, xmul_eq] <;> omega) | (have := p136 (by assumption); omega) | (have := p137 (by assumption); omega) | (have := p187 (by assumption); omega) | (have := p136 (by assumption); simp (disch := omega) only [xadd_eq, xsub_eq] <;> omega) | (have := p137 (by assumption); simp (disch := omega) only [xadd_eq, xsub_eq] <;> omega) | (have := p187 (by assumption); simp (disch := omega) only [xadd_eq, xsub_eq] <;> omega) | (simp (disch := omega) only [xadd_eq, xsub_eq] at *; omega) | (simp [g92, xwr] <;> omega) | exact z20 | exact z63 | exact z94 | exact z111 | exact z115 | exact z123 | exact z127 | exact z131 | exact z132 | exact z133 | exact z136 | exact z137 | exact z138 | exact z150 | exact z152 | exact z155 | exact z161 | exact z162 | exact z164 | exact z169 | exact z171 | exact z185 | exact z187 | exact z200 | exact z201 | exact z202 | exact z205)) ?_
          simp only [f213, if_neg c1, if_neg c2, if_neg c3, if_neg c4]
theorem z213 {σ : xM} {a0 : Int} : f213 σ a0 = 0 ∨ f213 σ a0 = 1 := by
  unfold f213
  (repeat' split) <;> first | exact Or.inl rfl | exact Or.inr rfl | exact z20 | exact z63 | exact z94 | exact z111 | exact z115 | exact z123 | exact z127 | exact z131 | exact z132 | exact z133 | exact z136 | exact z137 | exact z138 | exact z150 | exact z152 | exact z155 | exact z161 | exact z162 | exact z164 | exact z169 | exact z171 | exact z185 | exact z187 | exact z200 | exact z201 | exact z202 | exact z205

/-- StickSumsModel spoil (II)V: the cells behind it -/
def g214 (σ : xM) (a1 : Int) (a2 : Int) : xM := (if (σ 100 2) ≤ 0 then (xwr (xwr σ 100 2 a1) 100 3 a2) else σ)
set_option maxHeartbeats 200000 in
theorem s214 {X : Nat × (Nat → Int)} {d : Nat} {a1 : Int} {a2 : Int} {σ : xM} : Ev X d 214 0 [some (vr 100), some (vi a1), some (vi a2)] [] SH σ = some (none, SH, (g214 σ a1 a2)) := by
  refine Eq.trans (b214_0) ?_
  refine x_if (fun c1 => ?_) (fun c1 => ?_)
  · refine Eq.trans (b214_8) ?_
    simp only [g214, if_pos c1]
  · refine Eq.trans (b214_7) ?_
    simp only [g214, if_neg c1]

/-- StickSumsModel signByte (I)I -/
def f216 (σ : xM) (a0 : Int) : Int := (if a0 ≠ 0 then (if a0 ≠ 1 then (if a0 ≠ 2 then (if a0 ≠ 3 then 47 else 42) else 61) else 45) else 43)
set_option maxHeartbeats 200000 in
theorem s216 {X : Nat × (Nat → Int)} {d : Nat} {a0 : Int} {σ : xM} : Ev X d 216 0 [some (vi a0)] [] SH σ = some (some (vi (f216 σ a0)), SH, σ) := by
  refine Eq.trans (b216_0) ?_
  refine x_if (fun c1 => ?_) (fun c1 => ?_)
  · refine Eq.trans (b216_9) ?_
    refine x_if (fun c2 => ?_) (fun c2 => ?_)
    · refine Eq.trans (b216_19) ?_
      refine x_if (fun c3 => ?_) (fun c3 => ?_)
      · refine Eq.trans (b216_29) ?_
        refine x_if (fun c4 => ?_) (fun c4 => ?_)
        · refine Eq.trans (b216_39) ?_
          refine Eq.trans (b216_41) ?_
          simp only [f216, if_pos c1, if_pos c2, if_pos c3, if_pos c4]
        · refine Eq.trans (b216_34) ?_
          refine Eq.trans (b216_41) ?_
          simp only [f216, if_pos c1, if_pos c2, if_pos c3, if_neg c4]
      · refine Eq.trans (b216_24) ?_
        refine Eq.trans (b216_41) ?_
        simp only [f216, if_pos c1, if_pos c2, if_neg c3]
    · refine Eq.trans (b216_14) ?_
      refine Eq.trans (b216_41) ?_
      simp only [f216, if_pos c1, if_neg c2]
  · refine Eq.trans (b216_4) ?_
    refine Eq.trans (b216_41) ?_
    simp only [f216, if_neg c1]

/-- StickSumsModel signWay (I)I -/
def f217 (σ : xM) (a0 : Int) : Int := (if a0 ≠ 0 then (if a0 ≠ 1 then (if a0 ≠ 2 then (if a0 ≠ 3 then 16 else 24) else 5) else 1) else 3)
set_option maxHeartbeats 200000 in
theorem s217 {X : Nat × (Nat → Int)} {d : Nat} {a0 : Int} {σ : xM} : Ev X d 217 0 [some (vi a0)] [] SH σ = some (some (vi (f217 σ a0)), SH, σ) := by
  refine Eq.trans (b217_0) ?_
  refine x_if (fun c1 => ?_) (fun c1 => ?_)
  · refine Eq.trans (b217_8) ?_
    refine x_if (fun c2 => ?_) (fun c2 => ?_)
    · refine Eq.trans (b217_17) ?_
      refine x_if (fun c3 => ?_) (fun c3 => ?_)
      · refine Eq.trans (b217_26) ?_
        refine x_if (fun c4 => ?_) (fun c4 => ?_)
        · refine Eq.trans (b217_36) ?_
          refine Eq.trans (b217_38) ?_
          simp only [f217, if_pos c1, if_pos c2, if_pos c3, if_pos c4]
        · refine Eq.trans (b217_31) ?_
          refine Eq.trans (b217_38) ?_
          simp only [f217, if_pos c1, if_pos c2, if_pos c3, if_neg c4]
      · refine Eq.trans (b217_22) ?_
        refine Eq.trans (b217_38) ?_
        simp only [f217, if_pos c1, if_pos c2, if_neg c3]
    · refine Eq.trans (b217_13) ?_
      refine Eq.trans (b217_38) ?_
      simp only [f217, if_pos c1, if_neg c2]
  · refine Eq.trans (b217_4) ?_
    refine Eq.trans (b217_38) ?_
    simp only [f217, if_neg c1]

/-- StickSumsModel isCell (I)Z -/
def f220 (σ : xM) (a1 : Int) : Int := (if a1 < 0 then 0 else (if (σ 100 16) ≤ a1 then 0 else 1))
set_option maxHeartbeats 200000 in
theorem s220 {X : Nat × (Nat → Int)} {d : Nat} {a1 : Int} {σ : xM} : Ev X d 220 0 [some (vr 100), some (vi a1)] [] SH σ = some (some (vi (f220 σ a1)), SH, σ) := by
  refine Eq.trans (b220_0) ?_
  refine x_if (fun c1 => ?_) (fun c1 => ?_)
  · refine Eq.trans (b220_16) ?_
    refine Eq.trans (b220_17 (by first | omega | (simp (disch := omega) only [xadd_eq, xsub_eq, xmul_eq] <;> omega) | (have := p136 (by assumption); omega) | (have := p137 (by assumption); omega) | (have := p187 (by assumption); omega) | (have := p136 (by assumption); simp (disch := omega) only [xadd_eq, xsub_eq] <;> omega) | (have := p137 (by assumption); simp (disch := omega) only [xadd_eq, xsub_eq] <;> omega) | (have := p187 (by assumption); simp (disch := omega) only [xadd_eq, xsub_eq] <;> omega) | (simp (disch := omega) only [xadd_eq, xsub_eq] at *; omega) | (simp [g92, xwr] <;> omega) | exact z20 | exact z63 | exact z94 | exact z111 | exact z115 | exact z123 | exact z127 | exact z131 | exact z132 | exact z133 | exact z136 | exact z137 | exact z138 | exact z150 | exact z152 | exact z155 | exact z161 | exact z162 | exact z164 | exact z169 | exact z171 | exact z185 | exact z187 | exact z200 | exact z201 | exact z202 | exact z205 | exact z213)) ?_
    simp only [f220, if_pos c1]
  · refine Eq.trans (b220_4) ?_
    refine x_if (fun c2 => ?_) (fun c2 => ?_)
    · refine Eq.trans (b220_16) ?_
      refine Eq.trans (b220_17 (by first | omega | (simp (disch := omega) only [xadd_eq, xsub_eq, xmul_eq] <;> omega) | (have := p136 (by assumption); omega) | (have := p137 (by assumption); omega) | (have := p187 (by assumption); omega) | (have := p136 (by assumption); simp (disch := omega) only [xadd_eq, xsub_eq] <;> omega) | (have := p137 (by assumption); simp (disch := omega) only [xadd_eq, xsub_eq] <;> omega) | (have := p187 (by assumption); simp (disch := omega) only [xadd_eq, xsub_eq] <;> omega) | (simp (disch := omega) only [xadd_eq, xsub_eq] at *; omega) | (simp [g92, xwr] <;> omega) | exact z20 | exact z63 | exact z94 | exact z111 | exact z115 | exact z123 | exact z127 | exact z131 | exact z132 | exact z133 | exact z136 | exact z137 | exact z138 | exact z150 | exact z152 | exact z155 | exact z161 | exact z162 | exact z164 | exact z169 | exact z171 | exact z185 | exact z187 | exact z200 | exact z201 | exact z202 | exact z205 | exact z213)) ?_
      simp only [f220, if_neg c1, if_pos c2]
    · refine Eq.trans (b220_12) ?_
      refine Eq.trans (b220_17 (by first | omega | (simp (disch := omega) only [xadd_eq, xsub_eq, xmul_eq] <;> omega) | (have := p136 (by assumption); omega) | (have := p137 (by assumption); omega) | (have := p187 (by assumption); omega) | (have := p136 (by assumption); simp (disch := omega) only [xadd_eq, xsub_eq] <;> omega) | (have := p137 (by assumption); simp (disch := omega) only [xadd_eq, xsub_eq] <;> omega) | (have := p187 (by assumption); simp (disch := omega) only [xadd_eq, xsub_eq] <;> omega) | (simp (disch := omega) only [xadd_eq, xsub_eq] at *; omega) | (simp [g92, xwr] <;> omega) | exact z20 | exact z63 | exact z94 | exact z111 | exact z115 | exact z123 | exact z127 | exact z131 | exact z132 | exact z133 | exact z136 | exact z137 | exact z138 | exact z150 | exact z152 | exact z155 | exact z161 | exact z162 | exact z164 | exact z169 | exact z171 | exact z185 | exact z187 | exact z200 | exact z201 | exact z202 | exact z205 | exact z213)) ?_
      simp only [f220, if_neg c1, if_neg c2]
theorem z220 {σ : xM} {a1 : Int} : f220 σ a1 = 0 ∨ f220 σ a1 = 1 := by
  unfold f220
  (repeat' split) <;> first | exact Or.inl rfl | exact Or.inr rfl | exact z20 | exact z63 | exact z94 | exact z111 | exact z115 | exact z123 | exact z127 | exact z131 | exact z132 | exact z133 | exact z136 | exact z137 | exact z138 | exact z150 | exact z152 | exact z155 | exact z161 | exact z162 | exact z164 | exact z169 | exact z171 | exact z185 | exact z187 | exact z200 | exact z201 | exact z202 | exact z205 | exact z213
theorem p220 {σ : xM} {a1 : Int} (h : ¬ f220 σ a1 = 0) : 0 ≤ a1 ∧ a1 < σ 100 16 := by
  unfold f220 at h
  (repeat' split at h) <;> first | omega | exact absurd rfl h

/-- StickSumsModel isTrueSum ()Z -/
def f226 (σ : xM)  : Int := (if (σ 115 0) = 0 then 0 else (if (σ 115 1) = 0 then 0 else (if (σ 114 0) ≠ (σ 114 1) then 0 else 1)))
set_option maxHeartbeats 200000 in
theorem s226 {X : Nat × (Nat → Int)} {d : Nat}  {σ : xM} : Ev X d 226 0 [some (vr 100)] [] SH σ = some (some (vi (f226 σ )), SH, σ) := by
  refine Eq.trans (b226_0) ?_
  refine x_if (fun c1 => ?_) (fun c1 => ?_)
  · refine Eq.trans (b226_37) ?_
    refine Eq.trans (b226_38 (by first | omega | (simp (disch := omega) only [xadd_eq, xsub_eq, xmul_eq] <;> omega) | (have := p136 (by assumption); omega) | (have := p137 (by assumption); omega) | (have := p187 (by assumption); omega) | (have := p220 (by assumption); omega) | (have := p136 (by assumption); simp (disch := omega) only [xadd_eq, xsub_eq] <;> omega) | (have := p137 (by assumption); simp (disch := omega) only [xadd_eq, xsub_eq] <;> omega) | (have := p187 (by assumption); simp (disch := omega) only [xadd_eq, xsub_eq] <;> omega) | (have := p220 (by assumption); simp (disch := omega) only [xadd_eq, xsub_eq] <;> omega) | (simp (disch := omega) only [xadd_eq, xsub_eq] at *; omega) | (simp [g92, xwr] <;> omega) | exact z20 | exact z63 | exact z94 | exact z111 | exact z115 | exact z123 | exact z127 | exact z131 | exact z132 | exact z133 | exact z136 | exact z137 | exact z138 | exact z150 | exact z152 | exact z155 | exact z161 | exact z162 | exact z164 | exact z169 | exact z171 | exact z185 | exact z187 | exact z200 | exact z201 | exact z202 | exact z205 | exact z213 | exact z220)) ?_
    simp only [f226, if_pos c1]
  · refine Eq.trans (b226_9) ?_
    refine x_if (fun c2 => ?_) (fun c2 => ?_)
    · refine Eq.trans (b226_37) ?_
      refine Eq.trans (b226_38 (by first | omega | (simp (disch := omega) only [xadd_eq, xsub_eq, xmul_eq] <;> omega) | (have := p136 (by assumption); omega) | (have := p137 (by assumption); omega) | (have := p187 (by assumption); omega) | (have := p220 (by assumption); omega) | (have := p136 (by assumption); simp (disch := omega) only [xadd_eq, xsub_eq] <;> omega) | (have := p137 (by assumption); simp (disch := omega) only [xadd_eq, xsub_eq] <;> omega) | (have := p187 (by assumption); simp (disch := omega) only [xadd_eq, xsub_eq] <;> omega) | (have := p220 (by assumption); simp (disch := omega) only [xadd_eq, xsub_eq] <;> omega) | (simp (disch := omega) only [xadd_eq, xsub_eq] at *; omega) | (simp [g92, xwr] <;> omega) | exact z20 | exact z63 | exact z94 | exact z111 | exact z115 | exact z123 | exact z127 | exact z131 | exact z132 | exact z133 | exact z136 | exact z137 | exact z138 | exact z150 | exact z152 | exact z155 | exact z161 | exact z162 | exact z164 | exact z169 | exact z171 | exact z185 | exact z187 | exact z200 | exact z201 | exact z202 | exact z205 | exact z213 | exact z220)) ?_
      simp only [f226, if_neg c1, if_pos c2]
    · refine Eq.trans (b226_18) ?_
      refine x_if (fun c3 => ?_) (fun c3 => ?_)
      · refine Eq.trans (b226_37) ?_
        refine Eq.trans (b226_38 (by first | omega | (simp (disch := omega) only [xadd_eq, xsub_eq, xmul_eq] <;> omega) | (have := p136 (by assumption); omega) | (have := p137 (by assumption); omega) | (have := p187 (by assumption); omega) | (have := p220 (by assumption); omega) | (have := p136 (by assumption); simp (disch := omega) only [xadd_eq, xsub_eq] <;> omega) | (have := p137 (by assumption); simp (disch := omega) only [xadd_eq, xsub_eq] <;> omega) | (have := p187 (by assumption); simp (disch := omega) only [xadd_eq, xsub_eq] <;> omega) | (have := p220 (by assumption); simp (disch := omega) only [xadd_eq, xsub_eq] <;> omega) | (simp (disch := omega) only [xadd_eq, xsub_eq] at *; omega) | (simp [g92, xwr] <;> omega) | exact z20 | exact z63 | exact z94 | exact z111 | exact z115 | exact z123 | exact z127 | exact z131 | exact z132 | exact z133 | exact z136 | exact z137 | exact z138 | exact z150 | exact z152 | exact z155 | exact z161 | exact z162 | exact z164 | exact z169 | exact z171 | exact z185 | exact z187 | exact z200 | exact z201 | exact z202 | exact z205 | exact z213 | exact z220)) ?_
        simp only [f226, if_neg c1, if_neg c2, if_pos c3]
      · refine Eq.trans (b226_33) ?_
        refine Eq.trans (b226_38 (by first | omega | (simp (disch := omega) only [xadd_eq, xsub_eq, xmul_eq] <;> omega) | (have := p136 (by assumption); omega) | (have := p137 (by assumption); omega) | (have := p187 (by assumption); omega) | (have := p220 (by assumption); omega) | (have := p136 (by assumption); simp (disch := omega) only [xadd_eq, xsub_eq] <;> omega) | (have := p137 (by assumption); simp (disch := omega) only [xadd_eq, xsub_eq] <;> omega) | (have := p187 (by assumption); simp (disch := omega) only [xadd_eq, xsub_eq] <;> omega) | (have := p220 (by assumption); simp (disch := omega) only [xadd_eq, xsub_eq] <;> omega) | (simp (disch := omega) only [xadd_eq, xsub_eq] at *; omega) | (simp [g92, xwr] <;> omega) | exact z20 | exact z63 | exact z94 | exact z111 | exact z115 | exact z123 | exact z127 | exact z131 | exact z132 | exact z133 | exact z136 | exact z137 | exact z138 | exact z150 | exact z152 | exact z155 | exact z161 | exact z162 | exact z164 | exact z169 | exact z171 | exact z185 | exact z187 | exact z200 | exact z201 | exact z202 | exact z205 | exact z213 | exact z220)) ?_
        simp only [f226, if_neg c1, if_neg c2, if_neg c3]
theorem z226 {σ : xM} : f226 σ  = 0 ∨ f226 σ  = 1 := by
  unfold f226
  (repeat' split) <;> first | exact Or.inl rfl | exact Or.inr rfl | exact z20 | exact z63 | exact z94 | exact z111 | exact z115 | exact z123 | exact z127 | exact z131 | exact z132 | exact z133 | exact z136 | exact z137 | exact z138 | exact z150 | exact z152 | exact z155 | exact z161 | exact z162 | exact z164 | exact z169 | exact z171 | exact z185 | exact z187 | exact z200 | exact z201 | exact z202 | exact z205 | exact z213 | exact z220

/-- StickSumsModel top ()I -/
def f232 (σ : xM)  : Int := (if (σ 100 38) ≠ 0 then (σ 120 ((xsub (σ 100 38) 1)).toNat) else 30)
set_option maxHeartbeats 200000 in
theorem s232 {X : Nat × (Nat → Int)} {d : Nat}  {σ : xM} (h0 : 0 ≤ σ 100 38) (h1 : σ 100 38 ≤ 210) : Ev X d 232 0 [some (vr 100)] [] SH σ = some (some (vi (f232 σ )), SH, σ) := by
  refine Eq.trans (b232_0) ?_
  refine x_if (fun c1 => ?_) (fun c1 => ?_)
  · refine Eq.trans (b232_12 (by first | omega | (simp (disch := omega) only [xadd_eq, xsub_eq, xmul_eq] <;> omega) | (have := p136 (by assumption); omega) | (have := p137 (by assumption); omega) | (have := p187 (by assumption); omega) | (have := p220 (by assumption); omega) | (have := p136 (by assumption); simp (disch := omega) only [xadd_eq, xsub_eq] <;> omega) | (have := p137 (by assumption); simp (disch := omega) only [xadd_eq, xsub_eq] <;> omega) | (have := p187 (by assumption); simp (disch := omega) only [xadd_eq, xsub_eq] <;> omega) | (have := p220 (by assumption); simp (disch := omega) only [xadd_eq, xsub_eq] <;> omega) | (simp (disch := omega) only [xadd_eq, xsub_eq] at *; omega) | (simp [g92, xwr] <;> omega) | exact z20 | exact z63 | exact z94 | exact z111 | exact z115 | exact z123 | exact z127 | exact z131 | exact z132 | exact z133 | exact z136 | exact z137 | exact z138 | exact z150 | exact z152 | exact z155 | exact z161 | exact z162 | exact z164 | exact z169 | exact z171 | exact z185 | exact z187 | exact z200 | exact z201 | exact z202 | exact z205 | exact z213 | exact z220 | exact z226)) ?_
    refine Eq.trans (b232_23) ?_
    simp only [f232, if_pos c1]
  · refine Eq.trans (b232_7) ?_
    refine Eq.trans (b232_23) ?_
    simp only [f232, if_neg c1]

/-- StickSumsModel note (II)V: the cells behind it -/
def g234 (σ : xM) (a1 : Int) (a2 : Int) : xM := (xwr (xwr (xwr σ 116 ((σ 100 34)).toNat a1) 117 ((σ 100 34)).toNat a2) 100 34 (xadd (σ 100 34) 1))
set_option maxHeartbeats 200000 in
theorem s234 {X : Nat × (Nat → Int)} {d : Nat} {a1 : Int} {a2 : Int} {σ : xM} (h0 : 0 ≤ σ 100 34) (h1 : σ 100 34 < 200) : Ev X d 234 0 [some (vr 100), some (vi a1), some (vi a2)] [] SH σ = some (none, SH, (g234 σ a1 a2)) := by
  refine Eq.trans (b234_0 (by first | omega | (simp (disch := omega) only [xadd_eq, xsub_eq, xmul_eq] <;> omega) | (have := p136 (by assumption); omega) | (have := p137 (by assumption); omega) | (have := p187 (by assumption); omega) | (have := p220 (by assumption); omega) | (have := p136 (by assumption); simp (disch := omega) only [xadd_eq, xsub_eq] <;> omega) | (have := p137 (by assumption); simp (disch := omega) only [xadd_eq, xsub_eq] <;> omega) | (have := p187 (by assumption); simp (disch := omega) only [xadd_eq, xsub_eq] <;> omega) | (have := p220 (by assumption); simp (disch := omega) only [xadd_eq, xsub_eq] <;> omega) | (simp (disch := omega) only [xadd_eq, xsub_eq] at *; omega) | (simp [g92, xwr] <;> omega) | exact z20 | exact z63 | exact z94 | exact z111 | exact z115 | exact z123 | exact z127 | exact z131 | exact z132 | exact z133 | exact z136 | exact z137 | exact z138 | exact z150 | exact z152 | exact z155 | exact z161 | exact z162 | exact z164 | exact z169 | exact z171 | exact z185 | exact z187 | exact z200 | exact z201 | exact z202 | exact z205 | exact z213 | exact z220 | exact z226)) ?_
  rfl

/-- StickSumsModel rank (I)I -/
def f235 (σ : xM) (a0 : Int) : Int := (if a0 ≠ 27 then (if a0 = 24 then 23 else (if a0 ≠ 25 then a0 else 23)) else 26)
set_option maxHeartbeats 200000 in
theorem s235 {X : Nat × (Nat → Int)} {d : Nat} {a0 : Int} {σ : xM} : Ev X d 235 0 [some (vi a0)] [] SH σ = some (some (vi (f235 σ a0)), SH, σ) := by
  refine Eq.trans (b235_0) ?_
  refine x_if (fun c1 => ?_) (fun c1 => ?_)
  · refine Eq.trans (b235_11) ?_
    refine x_if (fun c2 => ?_) (fun c2 => ?_)
    · refine Eq.trans (b235_23) ?_
      refine Eq.trans (b235_29) ?_
      simp only [f235, if_pos c1, if_pos c2]
    · refine Eq.trans (b235_17) ?_
      refine x_if (fun c3 => ?_) (fun c3 => ?_)
      · refine Eq.trans (b235_28) ?_
        refine Eq.trans (b235_29) ?_
        simp only [f235, if_pos c1, if_neg c2, if_pos c3]
      · refine Eq.trans (b235_23) ?_
        refine Eq.trans (b235_29) ?_
        simp only [f235, if_pos c1, if_neg c2, if_neg c3]
  · refine Eq.trans (b235_6) ?_
    refine Eq.trans (b235_29) ?_
    simp only [f235, if_neg c1]

/-- StickSumsModel known ()I -/
def f238 (σ : xM)  : Int := (if (f205 σ 1818584692) = 0 then (if (f205 σ 491394656372) = 0 then (if (f205 σ 126943821523827) = 0 then (if (f205 σ 28826340697466227) = 0 then (-1) else 4) else 3) else 2) else 1)
set_option maxHeartbeats 200000 in
theorem s238 {X : Nat × (Nat → Int)} {d : Nat}  {σ : xM} : Ev X (d + 1) 238 0 [some (vr 100)] [] SH σ = some (some (vi (f238 σ )), SH, σ) := by
  refine Eq.trans (b238_0) ?_
  refine x_bind (s205) ?_
  refine Eq.trans (b238_7) ?_
  refine x_if (fun c1 => ?_) (fun c1 => ?_)
  · refine Eq.trans (b238_14) ?_
    refine x_bind (s205) ?_
    refine Eq.trans (b238_21) ?_
    refine x_if (fun c2 => ?_) (fun c2 => ?_)
    · refine Eq.trans (b238_28) ?_
      refine x_bind (s205) ?_
      refine Eq.trans (b238_35) ?_
      refine x_if (fun c3 => ?_) (fun c3 => ?_)
      · refine Eq.trans (b238_42) ?_
        refine x_bind (s205) ?_
        refine Eq.trans (b238_49) ?_
        refine x_if (fun c4 => ?_) (fun c4 => ?_)
        · refine Eq.trans (b238_56) ?_
          refine Eq.trans (b238_57) ?_
          simp only [f238, if_pos c1, if_pos c2, if_pos c3, if_pos c4]
        · refine Eq.trans (b238_52) ?_
          refine Eq.trans (b238_57) ?_
          simp only [f238, if_pos c1, if_pos c2, if_pos c3, if_neg c4]
      · refine Eq.trans (b238_38) ?_
        refine Eq.trans (b238_57) ?_
        simp only [f238, if_pos c1, if_pos c2, if_neg c3]
    · refine Eq.trans (b238_24) ?_
      refine Eq.trans (b238_57) ?_
      simp only [f238, if_pos c1, if_neg c2]
  · refine Eq.trans (b238_10) ?_
    refine Eq.trans (b238_57) ?_
    simp only [f238, if_neg c1]

/-- StickSumsModel isFew (I)Z -/
def f240 (σ : xM) (a0 : Int) : Int := (if a0 < 0 then 0 else (if 3 < a0 then 0 else 1))
set_option maxHeartbeats 200000 in
theorem s240 {X : Nat × (Nat → Int)} {d : Nat} {a0 : Int} {σ : xM} : Ev X d 240 0 [some (vi a0)] [] SH σ = some (some (vi (f240 σ a0)), SH, σ) := by
  refine Eq.trans (b240_0) ?_
  refine x_if (fun c1 => ?_) (fun c1 => ?_)
  · refine Eq.trans (b240_13) ?_
    refine Eq.trans (b240_14 (by first | omega | (simp (disch := omega) only [xadd_eq, xsub_eq, xmul_eq] <;> omega) | (have := p136 (by assumption); omega) | (have := p137 (by assumption); omega) | (have := p187 (by assumption); omega) | (have := p220 (by assumption); omega) | (have := p136 (by assumption); simp (disch := omega) only [xadd_eq, xsub_eq] <;> omega) | (have := p137 (by assumption); simp (disch := omega) only [xadd_eq, xsub_eq] <;> omega) | (have := p187 (by assumption); simp (disch := omega) only [xadd_eq, xsub_eq] <;> omega) | (have := p220 (by assumption); simp (disch := omega) only [xadd_eq, xsub_eq] <;> omega) | (simp (disch := omega) only [xadd_eq, xsub_eq] at *; omega) | (simp [g92, xwr] <;> omega) | exact z20 | exact z63 | exact z94 | exact z111 | exact z115 | exact z123 | exact z127 | exact z131 | exact z132 | exact z133 | exact z136 | exact z137 | exact z138 | exact z150 | exact z152 | exact z155 | exact z161 | exact z162 | exact z164 | exact z169 | exact z171 | exact z185 | exact z187 | exact z200 | exact z201 | exact z202 | exact z205 | exact z213 | exact z220 | exact z226)) ?_
    simp only [f240, if_pos c1]
  · refine Eq.trans (b240_4) ?_
    refine x_if (fun c2 => ?_) (fun c2 => ?_)
    · refine Eq.trans (b240_13) ?_
      refine Eq.trans (b240_14 (by first | omega | (simp (disch := omega) only [xadd_eq, xsub_eq, xmul_eq] <;> omega) | (have := p136 (by assumption); omega) | (have := p137 (by assumption); omega) | (have := p187 (by assumption); omega) | (have := p220 (by assumption); omega) | (have := p136 (by assumption); simp (disch := omega) only [xadd_eq, xsub_eq] <;> omega) | (have := p137 (by assumption); simp (disch := omega) only [xadd_eq, xsub_eq] <;> omega) | (have := p187 (by assumption); simp (disch := omega) only [xadd_eq, xsub_eq] <;> omega) | (have := p220 (by assumption); simp (disch := omega) only [xadd_eq, xsub_eq] <;> omega) | (simp (disch := omega) only [xadd_eq, xsub_eq] at *; omega) | (simp [g92, xwr] <;> omega) | exact z20 | exact z63 | exact z94 | exact z111 | exact z115 | exact z123 | exact z127 | exact z131 | exact z132 | exact z133 | exact z136 | exact z137 | exact z138 | exact z150 | exact z152 | exact z155 | exact z161 | exact z162 | exact z164 | exact z169 | exact z171 | exact z185 | exact z187 | exact z200 | exact z201 | exact z202 | exact z205 | exact z213 | exact z220 | exact z226)) ?_
      simp only [f240, if_neg c1, if_pos c2]
    · refine Eq.trans (b240_9) ?_
      refine Eq.trans (b240_14 (by first | omega | (simp (disch := omega) only [xadd_eq, xsub_eq, xmul_eq] <;> omega) | (have := p136 (by assumption); omega) | (have := p137 (by assumption); omega) | (have := p187 (by assumption); omega) | (have := p220 (by assumption); omega) | (have := p136 (by assumption); simp (disch := omega) only [xadd_eq, xsub_eq] <;> omega) | (have := p137 (by assumption); simp (disch := omega) only [xadd_eq, xsub_eq] <;> omega) | (have := p187 (by assumption); simp (disch := omega) only [xadd_eq, xsub_eq] <;> omega) | (have := p220 (by assumption); simp (disch := omega) only [xadd_eq, xsub_eq] <;> omega) | (simp (disch := omega) only [xadd_eq, xsub_eq] at *; omega) | (simp [g92, xwr] <;> omega) | exact z20 | exact z63 | exact z94 | exact z111 | exact z115 | exact z123 | exact z127 | exact z131 | exact z132 | exact z133 | exact z136 | exact z137 | exact z138 | exact z150 | exact z152 | exact z155 | exact z161 | exact z162 | exact z164 | exact z169 | exact z171 | exact z185 | exact z187 | exact z200 | exact z201 | exact z202 | exact z205 | exact z213 | exact z220 | exact z226)) ?_
      simp only [f240, if_neg c1, if_neg c2]
theorem z240 {σ : xM} {a0 : Int} : f240 σ a0 = 0 ∨ f240 σ a0 = 1 := by
  unfold f240
  (repeat' split) <;> first | exact Or.inl rfl | exact Or.inr rfl | exact z20 | exact z63 | exact z94 | exact z111 | exact z115 | exact z123 | exact z127 | exact z131 | exact z132 | exact z133 | exact z136 | exact z137 | exact z138 | exact z150 | exact z152 | exact z155 | exact z161 | exact z162 | exact z164 | exact z169 | exact z171 | exact z185 | exact z187 | exact z200 | exact z201 | exact z202 | exact z205 | exact z213 | exact z220 | exact z226

/-- StickSumsModel begin (II)V: the cells behind it -/
def g245 (σ : xM) (a1 : Int) (a2 : Int) : xM := (if (σ 100 16) ≤ 0 then (xwr (xwr (xwr (xwr (xwr (xwr σ 100 47 (-1)) 124 0 (-1)) 127 0 0) 128 0 0) 100 48 a1) 100 49 a2) else (xwr (xwr (xwr (xwr (xwr (xwr σ 100 47 0) 124 0 (-1)) 127 0 0) 128 0 0) 100 48 a1) 100 49 a2))
set_option maxHeartbeats 200000 in
theorem s245 {X : Nat × (Nat → Int)} {d : Nat} {a1 : Int} {a2 : Int} {σ : xM} : Ev X d 245 0 [some (vr 100), some (vi a1), some (vi a2)] [] SH σ = some (none, SH, (g245 σ a1 a2)) := by
  refine Eq.trans (b245_0) ?_
  refine x_if (fun c1 => ?_) (fun c1 => ?_)
  · refine Eq.trans (b245_12) ?_
    refine Eq.trans (b245_13) ?_
    simp only [g245, if_pos c1]
  · refine Eq.trans (b245_8) ?_
    refine Eq.trans (b245_13) ?_
    simp only [g245, if_neg c1]

/-- StickSumsModel isCount (I)Z -/
def f257 (σ : xM) (a0 : Int) : Int := (if a0 < 0 then 0 else (if 77 < a0 then 0 else 1))
set_option maxHeartbeats 200000 in
theorem s257 {X : Nat × (Nat → Int)} {d : Nat} {a0 : Int} {σ : xM} : Ev X d 257 0 [some (vi a0)] [] SH σ = some (some (vi (f257 σ a0)), SH, σ) := by
  refine Eq.trans (b257_0) ?_
  refine x_if (fun c1 => ?_) (fun c1 => ?_)
  · refine Eq.trans (b257_14) ?_
    refine Eq.trans (b257_15 (by first | omega | (simp (disch := omega) only [xadd_eq, xsub_eq, xmul_eq] <;> omega) | (have := p136 (by assumption); omega) | (have := p137 (by assumption); omega) | (have := p187 (by assumption); omega) | (have := p220 (by assumption); omega) | (have := p136 (by assumption); simp (disch := omega) only [xadd_eq, xsub_eq] <;> omega) | (have := p137 (by assumption); simp (disch := omega) only [xadd_eq, xsub_eq] <;> omega) | (have := p187 (by assumption); simp (disch := omega) only [xadd_eq, xsub_eq] <;> omega) | (have := p220 (by assumption); simp (disch := omega) only [xadd_eq, xsub_eq] <;> omega) | (simp (disch := omega) only [xadd_eq, xsub_eq] at *; omega) | (simp [g92, xwr] <;> omega) | exact z20 | exact z63 | exact z94 | exact z111 | exact z115 | exact z123 | exact z127 | exact z131 | exact z132 | exact z133 | exact z136 | exact z137 | exact z138 | exact z150 | exact z152 | exact z155 | exact z161 | exact z162 | exact z164 | exact z169 | exact z171 | exact z185 | exact z187 | exact z200 | exact z201 | exact z202 | exact z205 | exact z213 | exact z220 | exact z226 | exact z240)) ?_
    simp only [f257, if_pos c1]
  · refine Eq.trans (b257_4) ?_
    refine x_if (fun c2 => ?_) (fun c2 => ?_)
    · refine Eq.trans (b257_14) ?_
      refine Eq.trans (b257_15 (by first | omega | (simp (disch := omega) only [xadd_eq, xsub_eq, xmul_eq] <;> omega) | (have := p136 (by assumption); omega) | (have := p137 (by assumption); omega) | (have := p187 (by assumption); omega) | (have := p220 (by assumption); omega) | (have := p136 (by assumption); simp (disch := omega) only [xadd_eq, xsub_eq] <;> omega) | (have := p137 (by assumption); simp (disch := omega) only [xadd_eq, xsub_eq] <;> omega) | (have := p187 (by assumption); simp (disch := omega) only [xadd_eq, xsub_eq] <;> omega) | (have := p220 (by assumption); simp (disch := omega) only [xadd_eq, xsub_eq] <;> omega) | (simp (disch := omega) only [xadd_eq, xsub_eq] at *; omega) | (simp [g92, xwr] <;> omega) | exact z20 | exact z63 | exact z94 | exact z111 | exact z115 | exact z123 | exact z127 | exact z131 | exact z132 | exact z133 | exact z136 | exact z137 | exact z138 | exact z150 | exact z152 | exact z155 | exact z161 | exact z162 | exact z164 | exact z169 | exact z171 | exact z185 | exact z187 | exact z200 | exact z201 | exact z202 | exact z205 | exact z213 | exact z220 | exact z226 | exact z240)) ?_
      simp only [f257, if_neg c1, if_pos c2]
    · refine Eq.trans (b257_10) ?_
      refine Eq.trans (b257_15 (by first | omega | (simp (disch := omega) only [xadd_eq, xsub_eq, xmul_eq] <;> omega) | (have := p136 (by assumption); omega) | (have := p137 (by assumption); omega) | (have := p187 (by assumption); omega) | (have := p220 (by assumption); omega) | (have := p136 (by assumption); simp (disch := omega) only [xadd_eq, xsub_eq] <;> omega) | (have := p137 (by assumption); simp (disch := omega) only [xadd_eq, xsub_eq] <;> omega) | (have := p187 (by assumption); simp (disch := omega) only [xadd_eq, xsub_eq] <;> omega) | (have := p220 (by assumption); simp (disch := omega) only [xadd_eq, xsub_eq] <;> omega) | (simp (disch := omega) only [xadd_eq, xsub_eq] at *; omega) | (simp [g92, xwr] <;> omega) | exact z20 | exact z63 | exact z94 | exact z111 | exact z115 | exact z123 | exact z127 | exact z131 | exact z132 | exact z133 | exact z136 | exact z137 | exact z138 | exact z150 | exact z152 | exact z155 | exact z161 | exact z162 | exact z164 | exact z169 | exact z171 | exact z185 | exact z187 | exact z200 | exact z201 | exact z202 | exact z205 | exact z213 | exact z220 | exact z226 | exact z240)) ?_
      simp only [f257, if_neg c1, if_neg c2]
theorem z257 {σ : xM} {a0 : Int} : f257 σ a0 = 0 ∨ f257 σ a0 = 1 := by
  unfold f257
  (repeat' split) <;> first | exact Or.inl rfl | exact Or.inr rfl | exact z20 | exact z63 | exact z94 | exact z111 | exact z115 | exact z123 | exact z127 | exact z131 | exact z132 | exact z133 | exact z136 | exact z137 | exact z138 | exact z150 | exact z152 | exact z155 | exact z161 | exact z162 | exact z164 | exact z169 | exact z171 | exact z185 | exact z187 | exact z200 | exact z201 | exact z202 | exact z205 | exact z213 | exact z220 | exact z226 | exact z240

/-- StickSumsModel isTurn (I)Z -/
def f272 (σ : xM) (a0 : Int) : Int := (if a0 < 0 then 0 else (if 2 < a0 then 0 else 1))
set_option maxHeartbeats 200000 in
theorem s272 {X : Nat × (Nat → Int)} {d : Nat} {a0 : Int} {σ : xM} : Ev X d 272 0 [some (vi a0)] [] SH σ = some (some (vi (f272 σ a0)), SH, σ) := by
  refine Eq.trans (b272_0) ?_
  refine x_if (fun c1 => ?_) (fun c1 => ?_)
  · refine Eq.trans (b272_13) ?_
    refine Eq.trans (b272_14 (by first | omega | (simp (disch := omega) only [xadd_eq, xsub_eq, xmul_eq] <;> omega) | (have := p136 (by assumption); omega) | (have := p137 (by assumption); omega) | (have := p187 (by assumption); omega) | (have := p220 (by assumption); omega) | (have := p136 (by assumption); simp (disch := omega) only [xadd_eq, xsub_eq] <;> omega) | (have := p137 (by assumption); simp (disch := omega) only [xadd_eq, xsub_eq] <;> omega) | (have := p187 (by assumption); simp (disch := omega) only [xadd_eq, xsub_eq] <;> omega) | (have := p220 (by assumption); simp (disch := omega) only [xadd_eq, xsub_eq] <;> omega) | (simp (disch := omega) only [xadd_eq, xsub_eq] at *; omega) | (simp [g92, xwr] <;> omega) | exact z20 | exact z63 | exact z94 | exact z111 | exact z115 | exact z123 | exact z127 | exact z131 | exact z132 | exact z133 | exact z136 | exact z137 | exact z138 | exact z150 | exact z152 | exact z155 | exact z161 | exact z162 | exact z164 | exact z169 | exact z171 | exact z185 | exact z187 | exact z200 | exact z201 | exact z202 | exact z205 | exact z213 | exact z220 | exact z226 | exact z240 | exact z257)) ?_
    simp only [f272, if_pos c1]
  · refine Eq.trans (b272_4) ?_
    refine x_if (fun c2 => ?_) (fun c2 => ?_)
    · refine Eq.trans (b272_13) ?_
      refine Eq.trans (b272_14 (by first | omega | (simp (disch := omega) only [xadd_eq, xsub_eq, xmul_eq] <;> omega) | (have := p136 (by assumption); omega) | (have := p137 (by assumption); omega) | (have := p187 (by assumption); omega) | (have := p220 (by assumption); omega) | (have := p136 (by assumption); simp (disch := omega) only [xadd_eq, xsub_eq] <;> omega) | (have := p137 (by assumption); simp (disch := omega) only [xadd_eq, xsub_eq] <;> omega) | (have := p187 (by assumption); simp (disch := omega) only [xadd_eq, xsub_eq] <;> omega) | (have := p220 (by assumption); simp (disch := omega) only [xadd_eq, xsub_eq] <;> omega) | (simp (disch := omega) only [xadd_eq, xsub_eq] at *; omega) | (simp [g92, xwr] <;> omega) | exact z20 | exact z63 | exact z94 | exact z111 | exact z115 | exact z123 | exact z127 | exact z131 | exact z132 | exact z133 | exact z136 | exact z137 | exact z138 | exact z150 | exact z152 | exact z155 | exact z161 | exact z162 | exact z164 | exact z169 | exact z171 | exact z185 | exact z187 | exact z200 | exact z201 | exact z202 | exact z205 | exact z213 | exact z220 | exact z226 | exact z240 | exact z257)) ?_
      simp only [f272, if_neg c1, if_pos c2]
    · refine Eq.trans (b272_9) ?_
      refine Eq.trans (b272_14 (by first | omega | (simp (disch := omega) only [xadd_eq, xsub_eq, xmul_eq] <;> omega) | (have := p136 (by assumption); omega) | (have := p137 (by assumption); omega) | (have := p187 (by assumption); omega) | (have := p220 (by assumption); omega) | (have := p136 (by assumption); simp (disch := omega) only [xadd_eq, xsub_eq] <;> omega) | (have := p137 (by assumption); simp (disch := omega) only [xadd_eq, xsub_eq] <;> omega) | (have := p187 (by assumption); simp (disch := omega) only [xadd_eq, xsub_eq] <;> omega) | (have := p220 (by assumption); simp (disch := omega) only [xadd_eq, xsub_eq] <;> omega) | (simp (disch := omega) only [xadd_eq, xsub_eq] at *; omega) | (simp [g92, xwr] <;> omega) | exact z20 | exact z63 | exact z94 | exact z111 | exact z115 | exact z123 | exact z127 | exact z131 | exact z132 | exact z133 | exact z136 | exact z137 | exact z138 | exact z150 | exact z152 | exact z155 | exact z161 | exact z162 | exact z164 | exact z169 | exact z171 | exact z185 | exact z187 | exact z200 | exact z201 | exact z202 | exact z205 | exact z213 | exact z220 | exact z226 | exact z240 | exact z257)) ?_
      simp only [f272, if_neg c1, if_neg c2]
theorem z272 {σ : xM} {a0 : Int} : f272 σ a0 = 0 ∨ f272 σ a0 = 1 := by
  unfold f272
  (repeat' split) <;> first | exact Or.inl rfl | exact Or.inr rfl | exact z20 | exact z63 | exact z94 | exact z111 | exact z115 | exact z123 | exact z127 | exact z131 | exact z132 | exact z133 | exact z136 | exact z137 | exact z138 | exact z150 | exact z152 | exact z155 | exact z161 | exact z162 | exact z164 | exact z169 | exact z171 | exact z185 | exact z187 | exact z200 | exact z201 | exact z202 | exact z205 | exact z213 | exact z220 | exact z226 | exact z240 | exact z257

/-- StickSumsModel turnCell (II)I -/
def f274 (σ : xM) (a1 : Int) (a2 : Int) : Int := (if a1 ≠ 2 then (xsub (xsub (σ 100 16) 1) a2) else a2)
set_option maxHeartbeats 200000 in
theorem s274 {X : Nat × (Nat → Int)} {d : Nat} {a1 : Int} {a2 : Int} {σ : xM} : Ev X d 274 0 [some (vr 100), some (vi a1), some (vi a2)] [] SH σ = some (some (vi (f274 σ a1 a2)), SH, σ) := by
  refine Eq.trans (b274_0) ?_
  refine x_if (fun c1 => ?_) (fun c1 => ?_)
  · refine Eq.trans (b274_9) ?_
    refine Eq.trans (b274_17) ?_
    simp only [f274, if_pos c1]
  · refine Eq.trans (b274_5) ?_
    refine Eq.trans (b274_17) ?_
    simp only [f274, if_neg c1]

/-- StickSumsModel placesOf (I)I -/
def f280 (σ : xM) (a1 : Int) : Int := (if (σ 107 (a1).toNat) = 0 then 5 else 7)
set_option maxHeartbeats 200000 in
theorem s280 {X : Nat × (Nat → Int)} {d : Nat} {a1 : Int} {σ : xM} (h0 : 0 ≤ a1) (h1 : a1 < 11) : Ev X d 280 0 [some (vr 100), some (vi a1)] [] SH σ = some (some (vi (f280 σ a1)), SH, σ) := by
  refine Eq.trans (b280_0 (by first | omega | (simp (disch := omega) only [xadd_eq, xsub_eq, xmul_eq] <;> omega) | (have := p136 (by assumption); omega) | (have := p137 (by assumption); omega) | (have := p187 (by assumption); omega) | (have := p220 (by assumption); omega) | (have := p136 (by assumption); simp (disch := omega) only [xadd_eq, xsub_eq] <;> omega) | (have := p137 (by assumption); simp (disch := omega) only [xadd_eq, xsub_eq] <;> omega) | (have := p187 (by assumption); simp (disch := omega) only [xadd_eq, xsub_eq] <;> omega) | (have := p220 (by assumption); simp (disch := omega) only [xadd_eq, xsub_eq] <;> omega) | (simp (disch := omega) only [xadd_eq, xsub_eq] at *; omega) | (simp [g92, xwr] <;> omega) | exact z20 | exact z63 | exact z94 | exact z111 | exact z115 | exact z123 | exact z127 | exact z131 | exact z132 | exact z133 | exact z136 | exact z137 | exact z138 | exact z150 | exact z152 | exact z155 | exact z161 | exact z162 | exact z164 | exact z169 | exact z171 | exact z185 | exact z187 | exact z200 | exact z201 | exact z202 | exact z205 | exact z213 | exact z220 | exact z226 | exact z240 | exact z257 | exact z272)) ?_
  refine x_if (fun c1 => ?_) (fun c1 => ?_)
  · refine Eq.trans (b280_14) ?_
    refine Eq.trans (b280_15) ?_
    simp only [f280, if_pos c1]
  · refine Eq.trans (b280_9) ?_
    refine Eq.trans (b280_15) ?_
    simp only [f280, if_neg c1]

/-- StickSumsModel untell (I)Z -/
def f281 (σ : xM) (a1 : Int) : Int := (if a1 < 0 then 0 else (if (σ 100 59) ≤ a1 then 0 else (if (σ 135 (a1).toNat) < 0 then 1 else 0)))
/-- StickSumsModel untell (I)Z: the cells behind it -/
def g281 (σ : xM) (a1 : Int) : xM := (if a1 < 0 then σ else (if (σ 100 59) ≤ a1 then σ else (if (σ 135 (a1).toNat) < 0 then (xwr σ 135 (a1).toNat (σ 100 60)) else σ)))
set_option maxHeartbeats 200000 in
theorem s281 {X : Nat × (Nat → Int)} {d : Nat} {a1 : Int} {σ : xM} (h0 : σ 100 59 ≤ 60) : Ev X d 281 0 [some (vr 100), some (vi a1)] [] SH σ = some (some (vi (f281 σ a1)), SH, (g281 σ a1)) := by
  refine Eq.trans (b281_0) ?_
  refine x_if (fun c1 => ?_) (fun c1 => ?_)
  · refine Eq.trans (b281_21) ?_
    simp only [f281, g281, if_pos c1]
  · refine Eq.trans (b281_4) ?_
    refine x_if (fun c2 => ?_) (fun c2 => ?_)
    · refine Eq.trans (b281_21) ?_
      simp only [f281, g281, if_neg c1, if_pos c2]
    · refine Eq.trans (b281_12 (by first | omega | (simp (disch := omega) only [xadd_eq, xsub_eq, xmul_eq] <;> omega) | (have := p136 (by assumption); omega) | (have := p137 (by assumption); omega) | (have := p187 (by assumption); omega) | (have := p220 (by assumption); omega) | (have := p136 (by assumption); simp (disch := omega) only [xadd_eq, xsub_eq] <;> omega) | (have := p137 (by assumption); simp (disch := omega) only [xadd_eq, xsub_eq] <;> omega) | (have := p187 (by assumption); simp (disch := omega) only [xadd_eq, xsub_eq] <;> omega) | (have := p220 (by assumption); simp (disch := omega) only [xadd_eq, xsub_eq] <;> omega) | (simp (disch := omega) only [xadd_eq, xsub_eq] at *; omega) | (simp [g92, xwr] <;> omega) | exact z20 | exact z63 | exact z94 | exact z111 | exact z115 | exact z123 | exact z127 | exact z131 | exact z132 | exact z133 | exact z136 | exact z137 | exact z138 | exact z150 | exact z152 | exact z155 | exact z161 | exact z162 | exact z164 | exact z169 | exact z171 | exact z185 | exact z187 | exact z200 | exact z201 | exact z202 | exact z205 | exact z213 | exact z220 | exact z226 | exact z240 | exact z257 | exact z272)) ?_
      refine x_if (fun c3 => ?_) (fun c3 => ?_)
      · refine Eq.trans (b281_23 (by first | omega | (simp (disch := omega) only [xadd_eq, xsub_eq, xmul_eq] <;> omega) | (have := p136 (by assumption); omega) | (have := p137 (by assumption); omega) | (have := p187 (by assumption); omega) | (have := p220 (by assumption); omega) | (have := p136 (by assumption); simp (disch := omega) only [xadd_eq, xsub_eq] <;> omega) | (have := p137 (by assumption); simp (disch := omega) only [xadd_eq, xsub_eq] <;> omega) | (have := p187 (by assumption); simp (disch := omega) only [xadd_eq, xsub_eq] <;> omega) | (have := p220 (by assumption); simp (disch := omega) only [xadd_eq, xsub_eq] <;> omega) | (simp (disch := omega) only [xadd_eq, xsub_eq] at *; omega) | (simp [g92, xwr] <;> omega) | exact z20 | exact z63 | exact z94 | exact z111 | exact z115 | exact z123 | exact z127 | exact z131 | exact z132 | exact z133 | exact z136 | exact z137 | exact z138 | exact z150 | exact z152 | exact z155 | exact z161 | exact z162 | exact z164 | exact z169 | exact z171 | exact z185 | exact z187 | exact z200 | exact z201 | exact z202 | exact z205 | exact z213 | exact z220 | exact z226 | exact z240 | exact z257 | exact z272)) ?_
        simp only [f281, g281, if_neg c1, if_neg c2, if_pos c3]
      · refine Eq.trans (b281_21) ?_
        simp only [f281, g281, if_neg c1, if_neg c2, if_neg c3]
theorem z281 {σ : xM} {a1 : Int} : f281 σ a1 = 0 ∨ f281 σ a1 = 1 := by
  unfold f281
  (repeat' split) <;> first | exact Or.inl rfl | exact Or.inr rfl | exact z20 | exact z63 | exact z94 | exact z111 | exact z115 | exact z123 | exact z127 | exact z131 | exact z132 | exact z133 | exact z136 | exact z137 | exact z138 | exact z150 | exact z152 | exact z155 | exact z161 | exact z162 | exact z164 | exact z169 | exact z171 | exact z185 | exact z187 | exact z200 | exact z201 | exact z202 | exact z205 | exact z213 | exact z220 | exact z226 | exact z240 | exact z257 | exact z272

/-- StickSumsModel later (I)I -/
def f282 (σ : xM) (a1 : Int) : Int := (if a1 < 0 then (-1) else (if 1000 < a1 then (-1) else (if (xadd (σ 100 60) a1) ≤ 100000 then (xadd (σ 100 60) a1) else (-1))))
/-- StickSumsModel later (I)I: the cells behind it -/
def g282 (σ : xM) (a1 : Int) : xM := (if a1 < 0 then σ else (if 1000 < a1 then σ else (if (xadd (σ 100 60) a1) ≤ 100000 then (xwr σ 100 60 (xadd (σ 100 60) a1)) else σ)))
set_option maxHeartbeats 200000 in
theorem s282 {X : Nat × (Nat → Int)} {d : Nat} {a1 : Int} {σ : xM} : Ev X d 282 0 [some (vr 100), some (vi a1)] [] SH σ = some (some (vi (f282 σ a1)), SH, (g282 σ a1)) := by
  refine Eq.trans (b282_0) ?_
  refine x_if (fun c1 => ?_) (fun c1 => ?_)
  · refine Eq.trans (b282_23) ?_
    simp only [f282, g282, if_pos c1]
  · refine Eq.trans (b282_4) ?_
    refine x_if (fun c2 => ?_) (fun c2 => ?_)
    · refine Eq.trans (b282_23) ?_
      simp only [f282, g282, if_neg c1, if_pos c2]
    · refine Eq.trans (b282_11) ?_
      refine x_if (fun c3 => ?_) (fun c3 => ?_)
      · refine Eq.trans (b282_25) ?_
        simp only [f282, g282, if_neg c1, if_neg c2, if_pos c3]
      · refine Eq.trans (b282_23) ?_
        simp only [f282, g282, if_neg c1, if_neg c2, if_neg c3]

/-- StickSumsModel canLay (II)Z -/
def f288 (σ : xM) (a0 : Int) (a1 : Int) : Int := (if a0 < 1 then 0 else (if 35 < a0 then 0 else (if a1 < 1 then 0 else (if 5 < a1 then 0 else 1))))
set_option maxHeartbeats 200000 in
theorem s288 {X : Nat × (Nat → Int)} {d : Nat} {a0 : Int} {a1 : Int} {σ : xM} : Ev X d 288 0 [some (vi a0), some (vi a1)] [] SH σ = some (some (vi (f288 σ a0 a1)), SH, σ) := by
  refine Eq.trans (b288_0) ?_
  refine x_if (fun c1 => ?_) (fun c1 => ?_)
  · refine Eq.trans (b288_25) ?_
    refine Eq.trans (b288_26 (by first | omega | (simp (disch := omega) only [xadd_eq, xsub_eq, xmul_eq] <;> omega) | (have := p136 (by assumption); omega) | (have := p137 (by assumption); omega) | (have := p187 (by assumption); omega) | (have := p220 (by assumption); omega) | (have := p136 (by assumption); simp (disch := omega) only [xadd_eq, xsub_eq] <;> omega) | (have := p137 (by assumption); simp (disch := omega) only [xadd_eq, xsub_eq] <;> omega) | (have := p187 (by assumption); simp (disch := omega) only [xadd_eq, xsub_eq] <;> omega) | (have := p220 (by assumption); simp (disch := omega) only [xadd_eq, xsub_eq] <;> omega) | (simp (disch := omega) only [xadd_eq, xsub_eq] at *; omega) | (simp [g92, xwr] <;> omega) | exact z20 | exact z63 | exact z94 | exact z111 | exact z115 | exact z123 | exact z127 | exact z131 | exact z132 | exact z133 | exact z136 | exact z137 | exact z138 | exact z150 | exact z152 | exact z155 | exact z161 | exact z162 | exact z164 | exact z169 | exact z171 | exact z185 | exact z187 | exact z200 | exact z201 | exact z202 | exact z205 | exact z213 | exact z220 | exact z226 | exact z240 | exact z257 | exact z272 | exact z281)) ?_
    simp only [f288, if_pos c1]
  · refine Eq.trans (b288_5) ?_
    refine x_if (fun c2 => ?_) (fun c2 => ?_)
    · refine Eq.trans (b288_25) ?_
      refine Eq.trans (b288_26 (by first | omega | (simp (disch := omega) only [xadd_eq, xsub_eq, xmul_eq] <;> omega) | (have := p136 (by assumption); omega) | (have := p137 (by assumption); omega) | (have := p187 (by assumption); omega) | (have := p220 (by assumption); omega) | (have := p136 (by assumption); simp (disch := omega) only [xadd_eq, xsub_eq] <;> omega) | (have := p137 (by assumption); simp (disch := omega) only [xadd_eq, xsub_eq] <;> omega) | (have := p187 (by assumption); simp (disch := omega) only [xadd_eq, xsub_eq] <;> omega) | (have := p220 (by assumption); simp (disch := omega) only [xadd_eq, xsub_eq] <;> omega) | (simp (disch := omega) only [xadd_eq, xsub_eq] at *; omega) | (simp [g92, xwr] <;> omega) | exact z20 | exact z63 | exact z94 | exact z111 | exact z115 | exact z123 | exact z127 | exact z131 | exact z132 | exact z133 | exact z136 | exact z137 | exact z138 | exact z150 | exact z152 | exact z155 | exact z161 | exact z162 | exact z164 | exact z169 | exact z171 | exact z185 | exact z187 | exact z200 | exact z201 | exact z202 | exact z205 | exact z213 | exact z220 | exact z226 | exact z240 | exact z257 | exact z272 | exact z281)) ?_
      simp only [f288, if_neg c1, if_pos c2]
    · refine Eq.trans (b288_11) ?_
      refine x_if (fun c3 => ?_) (fun c3 => ?_)
      · refine Eq.trans (b288_25) ?_
        refine Eq.trans (b288_26 (by first | omega | (simp (disch := omega) only [xadd_eq, xsub_eq, xmul_eq] <;> omega) | (have := p136 (by assumption); omega) | (have := p137 (by assumption); omega) | (have := p187 (by assumption); omega) | (have := p220 (by assumption); omega) | (have := p136 (by assumption); simp (disch := omega) only [xadd_eq, xsub_eq] <;> omega) | (have := p137 (by assumption); simp (disch := omega) only [xadd_eq, xsub_eq] <;> omega) | (have := p187 (by assumption); simp (disch := omega) only [xadd_eq, xsub_eq] <;> omega) | (have := p220 (by assumption); simp (disch := omega) only [xadd_eq, xsub_eq] <;> omega) | (simp (disch := omega) only [xadd_eq, xsub_eq] at *; omega) | (simp [g92, xwr] <;> omega) | exact z20 | exact z63 | exact z94 | exact z111 | exact z115 | exact z123 | exact z127 | exact z131 | exact z132 | exact z133 | exact z136 | exact z137 | exact z138 | exact z150 | exact z152 | exact z155 | exact z161 | exact z162 | exact z164 | exact z169 | exact z171 | exact z185 | exact z187 | exact z200 | exact z201 | exact z202 | exact z205 | exact z213 | exact z220 | exact z226 | exact z240 | exact z257 | exact z272 | exact z281)) ?_
        simp only [f288, if_neg c1, if_neg c2, if_pos c3]
      · refine Eq.trans (b288_16) ?_
        refine x_if (fun c4 => ?_) (fun c4 => ?_)
        · refine Eq.trans (b288_25) ?_
          refine Eq.trans (b288_26 (by first | omega | (simp (disch := omega) only [xadd_eq, xsub_eq, xmul_eq] <;> omega) | (have := p136 (by assumption); omega) | (have := p137 (by assumption); omega) | (have := p187 (by assumption); omega) | (have := p220 (by assumption); omega) | (have := p136 (by assumption); simp (disch := omega) only [xadd_eq, xsub_eq] <;> omega) | (have := p137 (by assumption); simp (disch := omega) only [xadd_eq, xsub_eq] <;> omega) | (have := p187 (by assumption); simp (disch := omega) only [xadd_eq, xsub_eq] <;> omega) | (have := p220 (by assumption); simp (disch := omega) only [xadd_eq, xsub_eq] <;> omega) | (simp (disch := omega) only [xadd_eq, xsub_eq] at *; omega) | (simp [g92, xwr] <;> omega) | exact z20 | exact z63 | exact z94 | exact z111 | exact z115 | exact z123 | exact z127 | exact z131 | exact z132 | exact z133 | exact z136 | exact z137 | exact z138 | exact z150 | exact z152 | exact z155 | exact z161 | exact z162 | exact z164 | exact z169 | exact z171 | exact z185 | exact z187 | exact z200 | exact z201 | exact z202 | exact z205 | exact z213 | exact z220 | exact z226 | exact z240 | exact z257 | exact z272 | exact z281)) ?_
          simp only [f288, if_neg c1, if_neg c2, if_neg c3, if_pos c4]
        · refine Eq.trans (b288_21) ?_
          refine Eq.trans (b288_26 (by first | omega | (simp (disch := omega) only [xadd_eq, xsub_eq, xmul_eq] <;> omega) | (have := p136 (by assumption); omega) | (have := p137 (by assumption); omega) | (have := p187 (by assumption); omega) | (have := p220 (by assumption); omega) | (have := p136 (by assumption); simp (disch := omega) only [xadd_eq, xsub_eq] <;> omega) | (have := p137 (by assumption); simp (disch := omega) only [xadd_eq, xsub_eq] <;> omega) | (have := p187 (by assumption); simp (disch := omega) only [xadd_eq, xsub_eq] <;> omega) | (have := p220 (by assumption); simp (disch := omega) only [xadd_eq, xsub_eq] <;> omega) | (simp (disch := omega) only [xadd_eq, xsub_eq] at *; omega) | (simp [g92, xwr] <;> omega) | exact z20 | exact z63 | exact z94 | exact z111 | exact z115 | exact z123 | exact z127 | exact z131 | exact z132 | exact z133 | exact z136 | exact z137 | exact z138 | exact z150 | exact z152 | exact z155 | exact z161 | exact z162 | exact z164 | exact z169 | exact z171 | exact z185 | exact z187 | exact z200 | exact z201 | exact z202 | exact z205 | exact z213 | exact z220 | exact z226 | exact z240 | exact z257 | exact z272 | exact z281)) ?_
          simp only [f288, if_neg c1, if_neg c2, if_neg c3, if_neg c4]
theorem z288 {σ : xM} {a0 : Int} {a1 : Int} : f288 σ a0 a1 = 0 ∨ f288 σ a0 a1 = 1 := by
  unfold f288
  (repeat' split) <;> first | exact Or.inl rfl | exact Or.inr rfl | exact z20 | exact z63 | exact z94 | exact z111 | exact z115 | exact z123 | exact z127 | exact z131 | exact z132 | exact z133 | exact z136 | exact z137 | exact z138 | exact z150 | exact z152 | exact z155 | exact z161 | exact z162 | exact z164 | exact z169 | exact z171 | exact z185 | exact z187 | exact z200 | exact z201 | exact z202 | exact z205 | exact z213 | exact z220 | exact z226 | exact z240 | exact z257 | exact z272 | exact z281

/-- StickSumsModel isBox (I)Z -/
def f302 (σ : xM) (a0 : Int) : Int := (if a0 < 0 then 0 else (if 3 ≤ a0 then 0 else 1))
set_option maxHeartbeats 200000 in
theorem s302 {X : Nat × (Nat → Int)} {d : Nat} {a0 : Int} {σ : xM} : Ev X d 302 0 [some (vi a0)] [] SH σ = some (some (vi (f302 σ a0)), SH, σ) := by
  refine Eq.trans (b302_0) ?_
  refine x_if (fun c1 => ?_) (fun c1 => ?_)
  · refine Eq.trans (b302_13) ?_
    refine Eq.trans (b302_14 (by first | omega | (simp (disch := omega) only [xadd_eq, xsub_eq, xmul_eq] <;> omega) | (have := p136 (by assumption); omega) | (have := p137 (by assumption); omega) | (have := p187 (by assumption); omega) | (have := p220 (by assumption); omega) | (have := p136 (by assumption); simp (disch := omega) only [xadd_eq, xsub_eq] <;> omega) | (have := p137 (by assumption); simp (disch := omega) only [xadd_eq, xsub_eq] <;> omega) | (have := p187 (by assumption); simp (disch := omega) only [xadd_eq, xsub_eq] <;> omega) | (have := p220 (by assumption); simp (disch := omega) only [xadd_eq, xsub_eq] <;> omega) | (simp (disch := omega) only [xadd_eq, xsub_eq] at *; omega) | (simp [g92, xwr] <;> omega) | exact z20 | exact z63 | exact z94 | exact z111 | exact z115 | exact z123 | exact z127 | exact z131 | exact z132 | exact z133 | exact z136 | exact z137 | exact z138 | exact z150 | exact z152 | exact z155 | exact z161 | exact z162 | exact z164 | exact z169 | exact z171 | exact z185 | exact z187 | exact z200 | exact z201 | exact z202 | exact z205 | exact z213 | exact z220 | exact z226 | exact z240 | exact z257 | exact z272 | exact z281 | exact z288)) ?_
    simp only [f302, if_pos c1]
  · refine Eq.trans (b302_4) ?_
    refine x_if (fun c2 => ?_) (fun c2 => ?_)
    · refine Eq.trans (b302_13) ?_
      refine Eq.trans (b302_14 (by first | omega | (simp (disch := omega) only [xadd_eq, xsub_eq, xmul_eq] <;> omega) | (have := p136 (by assumption); omega) | (have := p137 (by assumption); omega) | (have := p187 (by assumption); omega) | (have := p220 (by assumption); omega) | (have := p136 (by assumption); simp (disch := omega) only [xadd_eq, xsub_eq] <;> omega) | (have := p137 (by assumption); simp (disch := omega) only [xadd_eq, xsub_eq] <;> omega) | (have := p187 (by assumption); simp (disch := omega) only [xadd_eq, xsub_eq] <;> omega) | (have := p220 (by assumption); simp (disch := omega) only [xadd_eq, xsub_eq] <;> omega) | (simp (disch := omega) only [xadd_eq, xsub_eq] at *; omega) | (simp [g92, xwr] <;> omega) | exact z20 | exact z63 | exact z94 | exact z111 | exact z115 | exact z123 | exact z127 | exact z131 | exact z132 | exact z133 | exact z136 | exact z137 | exact z138 | exact z150 | exact z152 | exact z155 | exact z161 | exact z162 | exact z164 | exact z169 | exact z171 | exact z185 | exact z187 | exact z200 | exact z201 | exact z202 | exact z205 | exact z213 | exact z220 | exact z226 | exact z240 | exact z257 | exact z272 | exact z281 | exact z288)) ?_
      simp only [f302, if_neg c1, if_pos c2]
    · refine Eq.trans (b302_9) ?_
      refine Eq.trans (b302_14 (by first | omega | (simp (disch := omega) only [xadd_eq, xsub_eq, xmul_eq] <;> omega) | (have := p136 (by assumption); omega) | (have := p137 (by assumption); omega) | (have := p187 (by assumption); omega) | (have := p220 (by assumption); omega) | (have := p136 (by assumption); simp (disch := omega) only [xadd_eq, xsub_eq] <;> omega) | (have := p137 (by assumption); simp (disch := omega) only [xadd_eq, xsub_eq] <;> omega) | (have := p187 (by assumption); simp (disch := omega) only [xadd_eq, xsub_eq] <;> omega) | (have := p220 (by assumption); simp (disch := omega) only [xadd_eq, xsub_eq] <;> omega) | (simp (disch := omega) only [xadd_eq, xsub_eq] at *; omega) | (simp [g92, xwr] <;> omega) | exact z20 | exact z63 | exact z94 | exact z111 | exact z115 | exact z123 | exact z127 | exact z131 | exact z132 | exact z133 | exact z136 | exact z137 | exact z138 | exact z150 | exact z152 | exact z155 | exact z161 | exact z162 | exact z164 | exact z169 | exact z171 | exact z185 | exact z187 | exact z200 | exact z201 | exact z202 | exact z205 | exact z213 | exact z220 | exact z226 | exact z240 | exact z257 | exact z272 | exact z281 | exact z288)) ?_
      simp only [f302, if_neg c1, if_neg c2]
theorem z302 {σ : xM} {a0 : Int} : f302 σ a0 = 0 ∨ f302 σ a0 = 1 := by
  unfold f302
  (repeat' split) <;> first | exact Or.inl rfl | exact Or.inr rfl | exact z20 | exact z63 | exact z94 | exact z111 | exact z115 | exact z123 | exact z127 | exact z131 | exact z132 | exact z133 | exact z136 | exact z137 | exact z138 | exact z150 | exact z152 | exact z155 | exact z161 | exact z162 | exact z164 | exact z169 | exact z171 | exact z185 | exact z187 | exact z200 | exact z201 | exact z202 | exact z205 | exact z213 | exact z220 | exact z226 | exact z240 | exact z257 | exact z272 | exact z281 | exact z288

/-- java/lang/StringLatin1 canEncode (I)Z -/
def f311 (σ : xM) (a0 : Int) : Int := (if a0 < 0 then 0 else (if 255 < a0 then 0 else 1))
set_option maxHeartbeats 200000 in
theorem s311 {X : Nat × (Nat → Int)} {d : Nat} {a0 : Int} {σ : xM} : Ev X d 311 0 [some (vi a0)] [] SH σ = some (some (vi (f311 σ a0)), SH, σ) := by
  refine Eq.trans (b311_0) ?_
  refine x_if (fun c1 => ?_) (fun c1 => ?_)
  · refine Eq.trans (b311_15) ?_
    refine Eq.trans (b311_16 (by first | omega | (simp (disch := omega) only [xadd_eq, xsub_eq, xmul_eq] <;> omega) | (have := p136 (by assumption); omega) | (have := p137 (by assumption); omega) | (have := p187 (by assumption); omega) | (have := p220 (by assumption); omega) | (have := p136 (by assumption); simp (disch := omega) only [xadd_eq, xsub_eq] <;> omega) | (have := p137 (by assumption); simp (disch := omega) only [xadd_eq, xsub_eq] <;> omega) | (have := p187 (by assumption); simp (disch := omega) only [xadd_eq, xsub_eq] <;> omega) | (have := p220 (by assumption); simp (disch := omega) only [xadd_eq, xsub_eq] <;> omega) | (simp (disch := omega) only [xadd_eq, xsub_eq] at *; omega) | (simp [g92, xwr] <;> omega) | exact z20 | exact z63 | exact z94 | exact z111 | exact z115 | exact z123 | exact z127 | exact z131 | exact z132 | exact z133 | exact z136 | exact z137 | exact z138 | exact z150 | exact z152 | exact z155 | exact z161 | exact z162 | exact z164 | exact z169 | exact z171 | exact z185 | exact z187 | exact z200 | exact z201 | exact z202 | exact z205 | exact z213 | exact z220 | exact z226 | exact z240 | exact z257 | exact z272 | exact z281 | exact z288 | exact z302)) ?_
    simp only [f311, if_pos c1]
  · refine Eq.trans (b311_4) ?_
    refine x_if (fun c2 => ?_) (fun c2 => ?_)
    · refine Eq.trans (b311_15) ?_
      refine Eq.trans (b311_16 (by first | omega | (simp (disch := omega) only [xadd_eq, xsub_eq, xmul_eq] <;> omega) | (have := p136 (by assumption); omega) | (have := p137 (by assumption); omega) | (have := p187 (by assumption); omega) | (have := p220 (by assumption); omega) | (have := p136 (by assumption); simp (disch := omega) only [xadd_eq, xsub_eq] <;> omega) | (have := p137 (by assumption); simp (disch := omega) only [xadd_eq, xsub_eq] <;> omega) | (have := p187 (by assumption); simp (disch := omega) only [xadd_eq, xsub_eq] <;> omega) | (have := p220 (by assumption); simp (disch := omega) only [xadd_eq, xsub_eq] <;> omega) | (simp (disch := omega) only [xadd_eq, xsub_eq] at *; omega) | (simp [g92, xwr] <;> omega) | exact z20 | exact z63 | exact z94 | exact z111 | exact z115 | exact z123 | exact z127 | exact z131 | exact z132 | exact z133 | exact z136 | exact z137 | exact z138 | exact z150 | exact z152 | exact z155 | exact z161 | exact z162 | exact z164 | exact z169 | exact z171 | exact z185 | exact z187 | exact z200 | exact z201 | exact z202 | exact z205 | exact z213 | exact z220 | exact z226 | exact z240 | exact z257 | exact z272 | exact z281 | exact z288 | exact z302)) ?_
      simp only [f311, if_neg c1, if_pos c2]
    · refine Eq.trans (b311_11) ?_
      refine Eq.trans (b311_16 (by first | omega | (simp (disch := omega) only [xadd_eq, xsub_eq, xmul_eq] <;> omega) | (have := p136 (by assumption); omega) | (have := p137 (by assumption); omega) | (have := p187 (by assumption); omega) | (have := p220 (by assumption); omega) | (have := p136 (by assumption); simp (disch := omega) only [xadd_eq, xsub_eq] <;> omega) | (have := p137 (by assumption); simp (disch := omega) only [xadd_eq, xsub_eq] <;> omega) | (have := p187 (by assumption); simp (disch := omega) only [xadd_eq, xsub_eq] <;> omega) | (have := p220 (by assumption); simp (disch := omega) only [xadd_eq, xsub_eq] <;> omega) | (simp (disch := omega) only [xadd_eq, xsub_eq] at *; omega) | (simp [g92, xwr] <;> omega) | exact z20 | exact z63 | exact z94 | exact z111 | exact z115 | exact z123 | exact z127 | exact z131 | exact z132 | exact z133 | exact z136 | exact z137 | exact z138 | exact z150 | exact z152 | exact z155 | exact z161 | exact z162 | exact z164 | exact z169 | exact z171 | exact z185 | exact z187 | exact z200 | exact z201 | exact z202 | exact z205 | exact z213 | exact z220 | exact z226 | exact z240 | exact z257 | exact z272 | exact z281 | exact z288 | exact z302)) ?_
      simp only [f311, if_neg c1, if_neg c2]
theorem z311 {σ : xM} {a0 : Int} : f311 σ a0 = 0 ∨ f311 σ a0 = 1 := by
  unfold f311
  (repeat' split) <;> first | exact Or.inl rfl | exact Or.inr rfl | exact z20 | exact z63 | exact z94 | exact z111 | exact z115 | exact z123 | exact z127 | exact z131 | exact z132 | exact z133 | exact z136 | exact z137 | exact z138 | exact z150 | exact z152 | exact z155 | exact z161 | exact z162 | exact z164 | exact z169 | exact z171 | exact z185 | exact z187 | exact z200 | exact z201 | exact z202 | exact z205 | exact z213 | exact z220 | exact z226 | exact z240 | exact z257 | exact z272 | exact z281 | exact z288 | exact z302

/-- java/lang/Math max (II)I -/
def f312 (σ : xM) (a0 : Int) (a1 : Int) : Int := (if a0 < a1 then a1 else a0)
set_option maxHeartbeats 200000 in
theorem s312 {X : Nat × (Nat → Int)} {d : Nat} {a0 : Int} {a1 : Int} {σ : xM} : Ev X d 312 0 [some (vi a0), some (vi a1)] [] SH σ = some (some (vi (f312 σ a0 a1)), SH, σ) := by
  refine Eq.trans (b312_0) ?_
  refine x_if (fun c1 => ?_) (fun c1 => ?_)
  · refine Eq.trans (b312_9) ?_
    refine Eq.trans (b312_10) ?_
    simp only [f312, if_pos c1]
  · refine Eq.trans (b312_5) ?_
    refine Eq.trans (b312_10) ?_
    simp only [f312, if_neg c1]

/-- java/lang/Math min (II)I -/
def f313 (σ : xM) (a0 : Int) (a1 : Int) : Int := (if a1 < a0 then a1 else a0)
set_option maxHeartbeats 200000 in
theorem s313 {X : Nat × (Nat → Int)} {d : Nat} {a0 : Int} {a1 : Int} {σ : xM} : Ev X d 313 0 [some (vi a0), some (vi a1)] [] SH σ = some (some (vi (f313 σ a0 a1)), SH, σ) := by
  refine Eq.trans (b313_0) ?_
  refine x_if (fun c1 => ?_) (fun c1 => ?_)
  · refine Eq.trans (b313_9) ?_
    refine Eq.trans (b313_10) ?_
    simp only [f313, if_pos c1]
  · refine Eq.trans (b313_5) ?_
    refine Eq.trans (b313_10) ?_
    simp only [f313, if_neg c1]

/-- java/lang/Integer bitCount (I)I -/
def f319 (σ : xM) (a0 : Int) : Int := (xand (xadd (xadd (xand (xadd (xadd (xand (xsub a0 (xand (xushr a0 1) 1431655765)) 858993459) (xand (xushr (xsub a0 (xand (xushr a0 1) 1431655765)) 2) 858993459)) (xushr (xadd (xand (xsub a0 (xand (xushr a0 1) 1431655765)) 858993459) (xand (xushr (xsub a0 (xand (xushr a0 1) 1431655765)) 2) 858993459)) 4)) 252645135) (xushr (xand (xadd (xadd (xand (xsub a0 (xand (xushr a0 1) 1431655765)) 858993459) (xand (xushr (xsub a0 (xand (xushr a0 1) 1431655765)) 2) 858993459)) (xushr (xadd (xand (xsub a0 (xand (xushr a0 1) 1431655765)) 858993459) (xand (xushr (xsub a0 (xand (xushr a0 1) 1431655765)) 2) 858993459)) 4)) 252645135) 8)) (xushr (xadd (xand (xadd (xadd (xand (xsub a0 (xand (xushr a0 1) 1431655765)) 858993459) (xand (xushr (xsub a0 (xand (xushr a0 1) 1431655765)) 2) 858993459)) (xushr (xadd (xand (xsub a0 (xand (xushr a0 1) 1431655765)) 858993459) (xand (xushr (xsub a0 (xand (xushr a0 1) 1431655765)) 2) 858993459)) 4)) 252645135) (xushr (xand (xadd (xadd (xand (xsub a0 (xand (xushr a0 1) 1431655765)) 858993459) (xand (xushr (xsub a0 (xand (xushr a0 1) 1431655765)) 2) 858993459)) (xushr (xadd (xand (xsub a0 (xand (xushr a0 1) 1431655765)) 858993459) (xand (xushr (xsub a0 (xand (xushr a0 1) 1431655765)) 2) 858993459)) 4)) 252645135) 8)) 16)) 63)
set_option maxHeartbeats 200000 in
theorem s319 {X : Nat × (Nat → Int)} {d : Nat} {a0 : Int} {σ : xM} : Ev X d 319 0 [some (vi a0)] [] SH σ = some (some (vi (f319 σ a0)), SH, σ) := by
  refine Eq.trans (b319_0) ?_
  rfl

/-- StickSums forgetFound ()V: the cells behind it -/
def g6 (σ : xM)  : xM := (g102 (g92 σ))
set_option maxHeartbeats 200000 in
theorem s6 {X : Nat × (Nat → Int)} {d : Nat}  {σ : xM} : Ev X (d + 1) 6 0 [some (vr 0)] [] SH σ = some (none, SH, (g6 σ )) := by
  refine Eq.trans (b6_0) ?_
  refine x_bind (s92) ?_
  refine Eq.trans (b6_7) ?_
  refine x_bind (s102) ?_
  refine Eq.trans (b6_14) ?_
  rfl

/-- StickSums way (II)I -/
def f12 (σ : xM) (a1 : Int) (a2 : Int) : Int := (f70 σ a1 a2)
set_option maxHeartbeats 200000 in
theorem s12 {X : Nat × (Nat → Int)} {d : Nat} {a1 : Int} {a2 : Int} {σ : xM} : Ev X (d + 1) 12 0 [some (vr 0), some (vi a1), some (vi a2)] [] SH σ = some (some (vi (f12 σ a1 a2)), SH, σ) := by
  refine Eq.trans (b12_0) ?_
  refine x_bind (s70) ?_
  refine Eq.trans (b12_9) ?_
  rfl

/-- StickSums cell (I)I -/
def f13 (σ : xM) (a1 : Int) : Int := (if (f136 σ 23 a1) = 0 then (-1) else (σ 25 (a1).toNat))
set_option maxHeartbeats 200000 in
theorem s13 {X : Nat × (Nat → Int)} {d : Nat} {a1 : Int} {σ : xM} : Ev X (d + 1) 13 0 [some (vr 0), some (vi a1)] [] SH σ = some (some (vi (f13 σ a1)), SH, σ) := by
  refine Eq.trans (b13_0) ?_
  refine x_bind (s136 (by first | assumption | exact isWlk.rdg (by assumption) | (unfold isRow; decide) | (unfold isRdg; decide) | (unfold isWlk; decide) | rfl)) ?_
  refine Eq.trans (b13_8) ?_
  refine x_if (fun c1 => ?_) (fun c1 => ?_)
  · refine Eq.trans (b13_23) ?_
    refine Eq.trans (b13_24) ?_
    simp only [f13, if_pos c1]
  · refine Eq.trans (b13_11 (by first | omega | (simp (disch := omega) only [xadd_eq, xsub_eq, xmul_eq] <;> omega) | (have := p136 (by assumption); omega) | (have := p137 (by assumption); omega) | (have := p187 (by assumption); omega) | (have := p220 (by assumption); omega) | (have := p136 (by assumption); simp (disch := omega) only [xadd_eq, xsub_eq] <;> omega) | (have := p137 (by assumption); simp (disch := omega) only [xadd_eq, xsub_eq] <;> omega) | (have := p187 (by assumption); simp (disch := omega) only [xadd_eq, xsub_eq] <;> omega) | (have := p220 (by assumption); simp (disch := omega) only [xadd_eq, xsub_eq] <;> omega) | (simp (disch := omega) only [xadd_eq, xsub_eq] at *; omega) | (simp [g92, xwr] <;> omega) | exact z20 | exact z63 | exact z94 | exact z111 | exact z115 | exact z123 | exact z127 | exact z131 | exact z132 | exact z133 | exact z136 | exact z137 | exact z138 | exact z150 | exact z152 | exact z155 | exact z161 | exact z162 | exact z164 | exact z169 | exact z171 | exact z185 | exact z187 | exact z200 | exact z201 | exact z202 | exact z205 | exact z213 | exact z220 | exact z226 | exact z240 | exact z257 | exact z272 | exact z281 | exact z288 | exact z302 | exact z311)) ?_
    refine Eq.trans (b13_24) ?_
    simp only [f13, if_neg c1]

/-- StickSums seen (IIZ)I -/
def f34 (σ : xM) (a1 : Int) (a2 : Int) (a3 : Int) : Int := (if (f137 σ 23 a1 a2) ≠ 0 then (f151 (g92 σ) a1 a2 a3) else (-1))
/-- StickSums seen (IIZ)I: the cells behind it -/
def g34 (σ : xM) (a1 : Int) (a2 : Int) (a3 : Int) : xM := (if (f137 σ 23 a1 a2) ≠ 0 then (g151 (g92 σ) a1 a2 a3) else σ)
set_option maxHeartbeats 200000 in
theorem s34 {X : Nat × (Nat → Int)} {d : Nat} {a1 : Int} {a2 : Int} {a3 : Int} {σ : xM} (h0 : 0 ≤ σ 41 1) (h1 : a3 = 0 ∨ a3 = 1) : Ev X (d + 2) 34 0 [some (vr 0), some (vi a1), some (vi a2), some (vi a3)] [] SH σ = some (some (vi (f34 σ a1 a2 a3)), SH, (g34 σ a1 a2 a3)) := by
  refine Eq.trans (b34_0) ?_
  refine x_bind (s137 (by first | assumption | exact isWlk.rdg (by assumption) | (unfold isRow; decide) | (unfold isRdg; decide) | (unfold isWlk; decide) | rfl)) ?_
  refine Eq.trans (b34_9) ?_
  refine x_if (fun c1 => ?_) (fun c1 => ?_)
  · refine Eq.trans (b34_14) ?_
    refine x_bind (s92) ?_
    refine Eq.trans (b34_21) ?_
    refine x_bind (s151 (by first | omega | (simp (disch := omega) only [xadd_eq, xsub_eq, xmul_eq] <;> omega) | (have := p136 (by assumption); omega) | (have := p137 (by assumption); omega) | (have := p187 (by assumption); omega) | (have := p220 (by assumption); omega) | (have := p136 (by assumption); simp (disch := omega) only [xadd_eq, xsub_eq] <;> omega) | (have := p137 (by assumption); simp (disch := omega) only [xadd_eq, xsub_eq] <;> omega) | (have := p187 (by assumption); simp (disch := omega) only [xadd_eq, xsub_eq] <;> omega) | (have := p220 (by assumption); simp (disch := omega) only [xadd_eq, xsub_eq] <;> omega) | (simp (disch := omega) only [xadd_eq, xsub_eq] at *; omega) | (simp [g92, xwr] <;> omega) | exact z20 | exact z63 | exact z94 | exact z111 | exact z115 | exact z123 | exact z127 | exact z131 | exact z132 | exact z133 | exact z136 | exact z137 | exact z138 | exact z150 | exact z152 | exact z155 | exact z161 | exact z162 | exact z164 | exact z169 | exact z171 | exact z185 | exact z187 | exact z200 | exact z201 | exact z202 | exact z205 | exact z213 | exact z220 | exact z226 | exact z240 | exact z257 | exact z272 | exact z281 | exact z288 | exact z302 | exact z311) (by first | omega | (simp (disch := omega) only [xadd_eq, xsub_eq, xmul_eq] <;> omega) | (have := p136 (by assumption); omega) | (have := p137 (by assumption); omega) | (have := p187 (by assumption); omega) | (have := p220 (by assumption); omega) | (have := p136 (by assumption); simp (disch := omega) only [xadd_eq, xsub_eq] <;> omega) | (have := p137 (by assumption); simp (disch := omega) only [xadd_eq, xsub_eq] <;> omega) | (have := p187 (by assumption); simp (disch := omega) only [xadd_eq, xsub_eq] <;> omega) | (have := p220 (by assumption); simp (disch := omega) only [xadd_eq, xsub_eq] <;> omega) | (simp (disch := omega) only [xadd_eq, xsub_eq] at *; omega) | (simp [g92, xwr] <;> omega) | exact z20 | exact z63 | exact z94 | exact z111 | exact z115 | exact z123 | exact z127 | exact z131 | exact z132 | exact z133 | exact z136 | exact z137 | exact z138 | exact z150 | exact z152 | exact z155 | exact z161 | exact z162 | exact z164 | exact z169 | exact z171 | exact z185 | exact z187 | exact z200 | exact z201 | exact z202 | exact z205 | exact z213 | exact z220 | exact z226 | exact z240 | exact z257 | exact z272 | exact z281 | exact z288 | exact z302 | exact z311)) ?_
    refine Eq.trans (b34_31) ?_
    simp only [f34, g34, if_pos c1]
  · refine Eq.trans (b34_12) ?_
    simp only [f34, g34, if_neg c1]

/-- StickSums untell (I)Z -/
def f35 (σ : xM) (a1 : Int) : Int := (f152 (g92 σ) a1)
/-- StickSums untell (I)Z: the cells behind it -/
def g35 (σ : xM) (a1 : Int) : xM := (g152 (g92 σ) a1)
set_option maxHeartbeats 200000 in
theorem s35 {X : Nat × (Nat → Int)} {d : Nat} {a1 : Int} {σ : xM} : Ev X (d + 1) 35 0 [some (vr 0), some (vi a1)] [] SH σ = some (some (vi (f35 σ a1)), SH, (g35 σ a1)) := by
  refine Eq.trans (b35_0) ?_
  refine x_bind (s92) ?_
  refine Eq.trans (b35_7) ?_
  refine x_bind (s152) ?_
  refine Eq.trans (b35_15 (by first | omega | (simp (disch := omega) only [xadd_eq, xsub_eq, xmul_eq] <;> omega) | (have := p136 (by assumption); omega) | (have := p137 (by assumption); omega) | (have := p187 (by assumption); omega) | (have := p220 (by assumption); omega) | (have := p136 (by assumption); simp (disch := omega) only [xadd_eq, xsub_eq] <;> omega) | (have := p137 (by assumption); simp (disch := omega) only [xadd_eq, xsub_eq] <;> omega) | (have := p187 (by assumption); simp (disch := omega) only [xadd_eq, xsub_eq] <;> omega) | (have := p220 (by assumption); simp (disch := omega) only [xadd_eq, xsub_eq] <;> omega) | (simp (disch := omega) only [xadd_eq, xsub_eq] at *; omega) | (simp [g92, xwr] <;> omega) | exact z20 | exact z63 | exact z94 | exact z111 | exact z115 | exact z123 | exact z127 | exact z131 | exact z132 | exact z133 | exact z136 | exact z137 | exact z138 | exact z150 | exact z152 | exact z155 | exact z161 | exact z162 | exact z164 | exact z169 | exact z171 | exact z185 | exact z187 | exact z200 | exact z201 | exact z202 | exact z205 | exact z213 | exact z220 | exact z226 | exact z240 | exact z257 | exact z272 | exact z281 | exact z288 | exact z302 | exact z311)) ?_
  rfl
theorem z35 {σ : xM} {a1 : Int} : f35 σ a1 = 0 ∨ f35 σ a1 = 1 := by
  unfold f35
  (repeat' split) <;> first | exact Or.inl rfl | exact Or.inr rfl | exact z20 | exact z63 | exact z94 | exact z111 | exact z115 | exact z123 | exact z127 | exact z131 | exact z132 | exact z133 | exact z136 | exact z137 | exact z138 | exact z150 | exact z152 | exact z155 | exact z161 | exact z162 | exact z164 | exact z169 | exact z171 | exact z185 | exact z187 | exact z200 | exact z201 | exact z202 | exact z205 | exact z213 | exact z220 | exact z226 | exact z240 | exact z257 | exact z272 | exact z281 | exact z288 | exact z302 | exact z311

/-- StickSums later (I)I -/
def f36 (σ : xM) (a1 : Int) : Int := (f153 σ a1)
/-- StickSums later (I)I: the cells behind it -/
def g36 (σ : xM) (a1 : Int) : xM := (g153 σ a1)
set_option maxHeartbeats 200000 in
theorem s36 {X : Nat × (Nat → Int)} {d : Nat} {a1 : Int} {σ : xM} : Ev X (d + 1) 36 0 [some (vr 0), some (vi a1)] [] SH σ = some (some (vi (f36 σ a1)), SH, (g36 σ a1)) := by
  refine Eq.trans (b36_0) ?_
  refine x_bind (s153) ?_
  refine Eq.trans (b36_8) ?_
  rfl

/-- StickSums grundyAt (I)I -/
def f43 (σ : xM) (a1 : Int) : Int := (if (f136 σ 23 a1) = 0 then 0 else (if (σ 24 (a1).toNat) = 0 then 0 else (f64 σ (σ 25 (a1).toNat))))
set_option maxHeartbeats 200000 in
theorem s43 {X : Nat × (Nat → Int)} {d : Nat} {a1 : Int} {σ : xM} : Ev X (d + 1) 43 0 [some (vr 0), some (vi a1)] [] SH σ = some (some (vi (f43 σ a1)), SH, σ) := by
  refine Eq.trans (b43_0) ?_
  refine x_bind (s136 (by first | assumption | exact isWlk.rdg (by assumption) | (unfold isRow; decide) | (unfold isRdg; decide) | (unfold isWlk; decide) | rfl)) ?_
  refine Eq.trans (b43_8) ?_
  refine x_if (fun c1 => ?_) (fun c1 => ?_)
  · refine Eq.trans (b43_42) ?_
    refine Eq.trans (b43_43) ?_
    simp only [f43, if_pos c1]
  · refine Eq.trans (b43_11 (by first | omega | (simp (disch := omega) only [xadd_eq, xsub_eq, xmul_eq] <;> omega) | (have := p136 (by assumption); omega) | (have := p137 (by assumption); omega) | (have := p187 (by assumption); omega) | (have := p220 (by assumption); omega) | (have := p136 (by assumption); simp (disch := omega) only [xadd_eq, xsub_eq] <;> omega) | (have := p137 (by assumption); simp (disch := omega) only [xadd_eq, xsub_eq] <;> omega) | (have := p187 (by assumption); simp (disch := omega) only [xadd_eq, xsub_eq] <;> omega) | (have := p220 (by assumption); simp (disch := omega) only [xadd_eq, xsub_eq] <;> omega) | (simp (disch := omega) only [xadd_eq, xsub_eq] at *; omega) | (simp [g92, xwr] <;> omega) | exact z20 | exact z63 | exact z94 | exact z111 | exact z115 | exact z123 | exact z127 | exact z131 | exact z132 | exact z133 | exact z136 | exact z137 | exact z138 | exact z150 | exact z152 | exact z155 | exact z161 | exact z162 | exact z164 | exact z169 | exact z171 | exact z185 | exact z187 | exact z200 | exact z201 | exact z202 | exact z205 | exact z213 | exact z220 | exact z226 | exact z240 | exact z257 | exact z272 | exact z281 | exact z288 | exact z302 | exact z311 | exact z35)) ?_
    refine x_if (fun c2 => ?_) (fun c2 => ?_)
    · refine Eq.trans (b43_42) ?_
      refine Eq.trans (b43_43) ?_
      simp only [f43, if_neg c1, if_pos c2]
    · refine Eq.trans (b43_23 (by first | omega | (simp (disch := omega) only [xadd_eq, xsub_eq, xmul_eq] <;> omega) | (have := p136 (by assumption); omega) | (have := p137 (by assumption); omega) | (have := p187 (by assumption); omega) | (have := p220 (by assumption); omega) | (have := p136 (by assumption); simp (disch := omega) only [xadd_eq, xsub_eq] <;> omega) | (have := p137 (by assumption); simp (disch := omega) only [xadd_eq, xsub_eq] <;> omega) | (have := p187 (by assumption); simp (disch := omega) only [xadd_eq, xsub_eq] <;> omega) | (have := p220 (by assumption); simp (disch := omega) only [xadd_eq, xsub_eq] <;> omega) | (simp (disch := omega) only [xadd_eq, xsub_eq] at *; omega) | (simp [g92, xwr] <;> omega) | exact z20 | exact z63 | exact z94 | exact z111 | exact z115 | exact z123 | exact z127 | exact z131 | exact z132 | exact z133 | exact z136 | exact z137 | exact z138 | exact z150 | exact z152 | exact z155 | exact z161 | exact z162 | exact z164 | exact z169 | exact z171 | exact z185 | exact z187 | exact z200 | exact z201 | exact z202 | exact z205 | exact z213 | exact z220 | exact z226 | exact z240 | exact z257 | exact z272 | exact z281 | exact z288 | exact z302 | exact z311 | exact z35)) ?_
      refine x_bind (s64) ?_
      refine Eq.trans (b43_39) ?_
      refine Eq.trans (b43_43) ?_
      simp only [f43, if_neg c1, if_neg c2]

/-- StickSums flipAct (I)V: the cells behind it -/
def g46 (σ : xM) (a1 : Int) : xM := (if a1 = (-1) then σ else (g6 (g139 σ 23 (f56 σ a1) (f57 σ a1))))
set_option maxHeartbeats 200000 in
theorem s46 {X : Nat × (Nat → Int)} {d : Nat} {a1 : Int} {σ : xM} : Ev X (d + 3) 46 0 [some (vr 0), some (vi a1)] [] SH σ = some (none, SH, (g46 σ a1)) := by
  refine Eq.trans (b46_0) ?_
  refine x_if (fun c1 => ?_) (fun c1 => ?_)
  · refine Eq.trans (b46_24) ?_
    simp only [g46, if_pos c1]
  · refine Eq.trans (b46_5) ?_
    refine x_bind (s56) ?_
    refine Eq.trans (b46_13) ?_
    refine x_bind (s57) ?_
    refine Eq.trans (b46_17) ?_
    refine x_bind (s139 (by first | assumption | exact isWlk.rdg (by assumption) | (unfold isRow; decide) | (unfold isRdg; decide) | (unfold isWlk; decide) | rfl)) ?_
    refine Eq.trans (b46_20) ?_
    refine x_bind (s6) ?_
    refine Eq.trans (b46_24) ?_
    simp only [g46, if_neg c1]

/-- StickSums redo ()Z -/
def f47 (σ : xM)  : Int := (if (f58 σ) = (-1) then 0 else 1)
/-- StickSums redo ()Z: the cells behind it -/
def g47 (σ : xM)  : xM := (if (f58 σ) = (-1) then (g46 (g58 σ) (f58 σ)) else (g46 (g58 σ) (f58 σ)))
set_option maxHeartbeats 200000 in
theorem s47 {X : Nat × (Nat → Int)} {d : Nat}  {σ : xM} (h0 : 0 ≤ σ 47 1) : Ev X (d + 4) 47 0 [some (vr 0), none] [] SH σ = some (some (vi (f47 σ )), SH, (g47 σ )) := by
  refine Eq.trans (b47_0) ?_
  refine x_bind (s58 (by first | omega | (simp (disch := omega) only [xadd_eq, xsub_eq, xmul_eq] <;> omega) | (have := p136 (by assumption); omega) | (have := p137 (by assumption); omega) | (have := p187 (by assumption); omega) | (have := p220 (by assumption); omega) | (have := p136 (by assumption); simp (disch := omega) only [xadd_eq, xsub_eq] <;> omega) | (have := p137 (by assumption); simp (disch := omega) only [xadd_eq, xsub_eq] <;> omega) | (have := p187 (by assumption); simp (disch := omega) only [xadd_eq, xsub_eq] <;> omega) | (have := p220 (by assumption); simp (disch := omega) only [xadd_eq, xsub_eq] <;> omega) | (simp (disch := omega) only [xadd_eq, xsub_eq] at *; omega) | (simp [g92, xwr] <;> omega) | exact z20 | exact z63 | exact z94 | exact z111 | exact z115 | exact z123 | exact z127 | exact z131 | exact z132 | exact z133 | exact z136 | exact z137 | exact z138 | exact z150 | exact z152 | exact z155 | exact z161 | exact z162 | exact z164 | exact z169 | exact z171 | exact z185 | exact z187 | exact z200 | exact z201 | exact z202 | exact z205 | exact z213 | exact z220 | exact z226 | exact z240 | exact z257 | exact z272 | exact z281 | exact z288 | exact z302 | exact z311 | exact z35)) ?_
  refine Eq.trans (b47_7) ?_
  refine x_bind (s46) ?_
  refine Eq.trans (b47_13) ?_
  refine x_if (fun c1 => ?_) (fun c1 => ?_)
  · refine Eq.trans (b47_22) ?_
    refine Eq.trans (b47_23 (by first | omega | (simp (disch := omega) only [xadd_eq, xsub_eq, xmul_eq] <;> omega) | (have := p136 (by assumption); omega) | (have := p137 (by assumption); omega) | (have := p187 (by assumption); omega) | (have := p220 (by assumption); omega) | (have := p136 (by assumption); simp (disch := omega) only [xadd_eq, xsub_eq] <;> omega) | (have := p137 (by assumption); simp (disch := omega) only [xadd_eq, xsub_eq] <;> omega) | (have := p187 (by assumption); simp (disch := omega) only [xadd_eq, xsub_eq] <;> omega) | (have := p220 (by assumption); simp (disch := omega) only [xadd_eq, xsub_eq] <;> omega) | (simp (disch := omega) only [xadd_eq, xsub_eq] at *; omega) | (simp [g92, xwr] <;> omega) | exact z20 | exact z63 | exact z94 | exact z111 | exact z115 | exact z123 | exact z127 | exact z131 | exact z132 | exact z133 | exact z136 | exact z137 | exact z138 | exact z150 | exact z152 | exact z155 | exact z161 | exact z162 | exact z164 | exact z169 | exact z171 | exact z185 | exact z187 | exact z200 | exact z201 | exact z202 | exact z205 | exact z213 | exact z220 | exact z226 | exact z240 | exact z257 | exact z272 | exact z281 | exact z288 | exact z302 | exact z311 | exact z35)) ?_
    simp only [f47, g47, if_pos c1]
  · refine Eq.trans (b47_18) ?_
    refine Eq.trans (b47_23 (by first | omega | (simp (disch := omega) only [xadd_eq, xsub_eq, xmul_eq] <;> omega) | (have := p136 (by assumption); omega) | (have := p137 (by assumption); omega) | (have := p187 (by assumption); omega) | (have := p220 (by assumption); omega) | (have := p136 (by assumption); simp (disch := omega) only [xadd_eq, xsub_eq] <;> omega) | (have := p137 (by assumption); simp (disch := omega) only [xadd_eq, xsub_eq] <;> omega) | (have := p187 (by assumption); simp (disch := omega) only [xadd_eq, xsub_eq] <;> omega) | (have := p220 (by assumption); simp (disch := omega) only [xadd_eq, xsub_eq] <;> omega) | (simp (disch := omega) only [xadd_eq, xsub_eq] at *; omega) | (simp [g92, xwr] <;> omega) | exact z20 | exact z63 | exact z94 | exact z111 | exact z115 | exact z123 | exact z127 | exact z131 | exact z132 | exact z133 | exact z136 | exact z137 | exact z138 | exact z150 | exact z152 | exact z155 | exact z161 | exact z162 | exact z164 | exact z169 | exact z171 | exact z185 | exact z187 | exact z200 | exact z201 | exact z202 | exact z205 | exact z213 | exact z220 | exact z226 | exact z240 | exact z257 | exact z272 | exact z281 | exact z288 | exact z302 | exact z311 | exact z35)) ?_
    simp only [f47, g47, if_neg c1]
theorem z47 {σ : xM} : f47 σ  = 0 ∨ f47 σ  = 1 := by
  unfold f47
  (repeat' split) <;> first | exact Or.inl rfl | exact Or.inr rfl | exact z20 | exact z63 | exact z94 | exact z111 | exact z115 | exact z123 | exact z127 | exact z131 | exact z132 | exact z133 | exact z136 | exact z137 | exact z138 | exact z150 | exact z152 | exact z155 | exact z161 | exact z162 | exact z164 | exact z169 | exact z171 | exact z185 | exact z187 | exact z200 | exact z201 | exact z202 | exact z205 | exact z213 | exact z220 | exact z226 | exact z240 | exact z257 | exact z272 | exact z281 | exact z288 | exact z302 | exact z311 | exact z35

/-- StickSums$Numerals restBehind (JI)J -/
def f114 (σ : xM) (a1 : Int) (a3 : Int) : Int := (if (f70 σ a3 1) ≠ (-1) then (lor' (lushr' a1 (f319 σ (f70 σ a3 0))) (lushr' a1 (f319 σ (f70 σ a3 1)))) else (lushr' a1 (f319 σ (f70 σ a3 0))))
set_option maxHeartbeats 200000 in
theorem s114 {X : Nat × (Nat → Int)} {d : Nat} {a1 : Int} {a3 : Int} {σ : xM} : Ev X (d + 1) 114 0 [some (vr 96), some (vl a1), none, some (vi a3), none, none, none] [] SH σ = some (some (vl (f114 σ a1 a3)), SH, σ) := by
  refine Eq.trans (b114_0) ?_
  refine x_bind (s70) ?_
  refine Eq.trans (b114_9) ?_
  refine x_bind (s70) ?_
  refine Eq.trans (b114_21) ?_
  refine x_bind (s319) ?_
  refine Eq.trans (b114_24) ?_
  refine x_if (fun c1 => ?_) (fun c1 => ?_)
  · refine Eq.trans (b114_38) ?_
    refine x_bind (s319) ?_
    refine Eq.trans (b114_46) ?_
    refine Eq.trans (b114_48) ?_
    simp only [f114, if_pos c1]
  · refine Eq.trans (b114_33) ?_
    refine Eq.trans (b114_48) ?_
    simp only [f114, if_neg c1]

/-- StickSums$Numerals countsOf (I)I -/
def f118 (σ : xM) (a1 : Int) : Int := (if (f70 σ a1 1) ≠ (-1) then (xor' (xshl 1 (f319 σ (f70 σ a1 0))) (xshl 1 (f319 σ (f70 σ a1 1)))) else (xshl 1 (f319 σ (f70 σ a1 0))))
set_option maxHeartbeats 200000 in
theorem s118 {X : Nat × (Nat → Int)} {d : Nat} {a1 : Int} {σ : xM} : Ev X (d + 1) 118 0 [some (vr 96), some (vi a1), none, none] [] SH σ = some (some (vi (f118 σ a1)), SH, σ) := by
  refine Eq.trans (b118_0) ?_
  refine x_bind (s70) ?_
  refine Eq.trans (b118_10) ?_
  refine x_bind (s319) ?_
  refine Eq.trans (b118_13) ?_
  refine x_bind (s70) ?_
  refine Eq.trans (b118_24) ?_
  refine x_if (fun c1 => ?_) (fun c1 => ?_)
  · refine Eq.trans (b118_34) ?_
    refine x_bind (s319) ?_
    refine Eq.trans (b118_40) ?_
    refine Eq.trans (b118_42) ?_
    simp only [f118, if_pos c1]
  · refine Eq.trans (b118_30) ?_
    refine Eq.trans (b118_42) ?_
    simp only [f118, if_neg c1]

/-- StickSums$Tape refuseToken ()Z -/
def f168 (σ : xM)  : Int := (if (σ 1 5) ≠ 4 then (f169 σ 2 (σ 1 6)) else (f169 σ 1 (σ 1 6)))
/-- StickSums$Tape refuseToken ()Z: the cells behind it -/
def g168 (σ : xM)  : xM := (if (σ 1 5) ≠ 4 then (g169 σ 2 (σ 1 6)) else (g169 σ 1 (σ 1 6)))
set_option maxHeartbeats 200000 in
theorem s168 {X : Nat × (Nat → Int)} {d : Nat}  {σ : xM} : Ev X (d + 1) 168 0 [some (vr 1)] [] SH σ = some (some (vi (f168 σ )), SH, (g168 σ )) := by
  refine Eq.trans (b168_0) ?_
  refine x_if (fun c1 => ?_) (fun c1 => ?_)
  · refine Eq.trans (b168_13) ?_
    refine Eq.trans (b168_14) ?_
    refine x_bind (s169) ?_
    refine Eq.trans (b168_21 (by first | omega | (simp (disch := omega) only [xadd_eq, xsub_eq, xmul_eq] <;> omega) | (have := p136 (by assumption); omega) | (have := p137 (by assumption); omega) | (have := p187 (by assumption); omega) | (have := p220 (by assumption); omega) | (have := p136 (by assumption); simp (disch := omega) only [xadd_eq, xsub_eq] <;> omega) | (have := p137 (by assumption); simp (disch := omega) only [xadd_eq, xsub_eq] <;> omega) | (have := p187 (by assumption); simp (disch := omega) only [xadd_eq, xsub_eq] <;> omega) | (have := p220 (by assumption); simp (disch := omega) only [xadd_eq, xsub_eq] <;> omega) | (simp (disch := omega) only [xadd_eq, xsub_eq] at *; omega) | (simp [g92, xwr] <;> omega) | exact z20 | exact z63 | exact z94 | exact z111 | exact z115 | exact z123 | exact z127 | exact z131 | exact z132 | exact z133 | exact z136 | exact z137 | exact z138 | exact z150 | exact z152 | exact z155 | exact z161 | exact z162 | exact z164 | exact z169 | exact z171 | exact z185 | exact z187 | exact z200 | exact z201 | exact z202 | exact z205 | exact z213 | exact z220 | exact z226 | exact z240 | exact z257 | exact z272 | exact z281 | exact z288 | exact z302 | exact z311 | exact z35 | exact z47)) ?_
    simp only [f168, g168, if_pos c1]
  · refine Eq.trans (b168_9) ?_
    refine Eq.trans (b168_14) ?_
    refine x_bind (s169) ?_
    refine Eq.trans (b168_21 (by first | omega | (simp (disch := omega) only [xadd_eq, xsub_eq, xmul_eq] <;> omega) | (have := p136 (by assumption); omega) | (have := p137 (by assumption); omega) | (have := p187 (by assumption); omega) | (have := p220 (by assumption); omega) | (have := p136 (by assumption); simp (disch := omega) only [xadd_eq, xsub_eq] <;> omega) | (have := p137 (by assumption); simp (disch := omega) only [xadd_eq, xsub_eq] <;> omega) | (have := p187 (by assumption); simp (disch := omega) only [xadd_eq, xsub_eq] <;> omega) | (have := p220 (by assumption); simp (disch := omega) only [xadd_eq, xsub_eq] <;> omega) | (simp (disch := omega) only [xadd_eq, xsub_eq] at *; omega) | (simp [g92, xwr] <;> omega) | exact z20 | exact z63 | exact z94 | exact z111 | exact z115 | exact z123 | exact z127 | exact z131 | exact z132 | exact z133 | exact z136 | exact z137 | exact z138 | exact z150 | exact z152 | exact z155 | exact z161 | exact z162 | exact z164 | exact z169 | exact z171 | exact z185 | exact z187 | exact z200 | exact z201 | exact z202 | exact z205 | exact z213 | exact z220 | exact z226 | exact z240 | exact z257 | exact z272 | exact z281 | exact z288 | exact z302 | exact z311 | exact z35 | exact z47)) ?_
    simp only [f168, g168, if_neg c1]
theorem z168 {σ : xM} : f168 σ  = 0 ∨ f168 σ  = 1 := by
  unfold f168
  (repeat' split) <;> first | exact Or.inl rfl | exact Or.inr rfl | exact z20 | exact z63 | exact z94 | exact z111 | exact z115 | exact z123 | exact z127 | exact z131 | exact z132 | exact z133 | exact z136 | exact z137 | exact z138 | exact z150 | exact z152 | exact z155 | exact z161 | exact z162 | exact z164 | exact z169 | exact z171 | exact z185 | exact z187 | exact z200 | exact z201 | exact z202 | exact z205 | exact z213 | exact z220 | exact z226 | exact z240 | exact z257 | exact z272 | exact z281 | exact z288 | exact z302 | exact z311 | exact z35 | exact z47

/-- StickSumsModel cell (I)I -/
def f219 (σ : xM) (a1 : Int) : Int := (if (f220 σ a1) = 0 then (-1) else (σ 110 (a1).toNat))
set_option maxHeartbeats 200000 in
theorem s219 {X : Nat × (Nat → Int)} {d : Nat} {a1 : Int} {σ : xM} (h0 : σ 100 16 ≤ 11) : Ev X (d + 1) 219 0 [some (vr 100), some (vi a1)] [] SH σ = some (some (vi (f219 σ a1)), SH, σ) := by
  refine Eq.trans (b219_0) ?_
  refine x_bind (s220) ?_
  refine Eq.trans (b219_5) ?_
  refine x_if (fun c1 => ?_) (fun c1 => ?_)
  · refine Eq.trans (b219_17) ?_
    refine Eq.trans (b219_18) ?_
    simp only [f219, if_pos c1]
  · refine Eq.trans (b219_8 (by first | omega | (simp (disch := omega) only [xadd_eq, xsub_eq, xmul_eq] <;> omega) | (have := p136 (by assumption); omega) | (have := p137 (by assumption); omega) | (have := p187 (by assumption); omega) | (have := p220 (by assumption); omega) | (have := p136 (by assumption); simp (disch := omega) only [xadd_eq, xsub_eq] <;> omega) | (have := p137 (by assumption); simp (disch := omega) only [xadd_eq, xsub_eq] <;> omega) | (have := p187 (by assumption); simp (disch := omega) only [xadd_eq, xsub_eq] <;> omega) | (have := p220 (by assumption); simp (disch := omega) only [xadd_eq, xsub_eq] <;> omega) | (simp (disch := omega) only [xadd_eq, xsub_eq] at *; omega) | (simp [g92, xwr] <;> omega) | exact z20 | exact z63 | exact z94 | exact z111 | exact z115 | exact z123 | exact z127 | exact z131 | exact z132 | exact z133 | exact z136 | exact z137 | exact z138 | exact z150 | exact z152 | exact z155 | exact z161 | exact z162 | exact z164 | exact z169 | exact z171 | exact z185 | exact z187 | exact z200 | exact z201 | exact z202 | exact z205 | exact z213 | exact z220 | exact z226 | exact z240 | exact z257 | exact z272 | exact z281 | exact z288 | exact z302 | exact z311 | exact z35 | exact z47 | exact z168)) ?_
    refine Eq.trans (b219_18) ?_
    simp only [f219, if_neg c1]

/-- StickSumsModel isPlace (II)Z -/
def f279 (σ : xM) (a1 : Int) (a2 : Int) : Int := (if (f220 σ a1) = 0 then 0 else (if a2 < 0 then 0 else (if (f280 σ a1) ≤ a2 then 0 else 1)))
set_option maxHeartbeats 200000 in
theorem s279 {X : Nat × (Nat → Int)} {d : Nat} {a1 : Int} {a2 : Int} {σ : xM} (h0 : σ 100 16 ≤ 11) : Ev X (d + 1) 279 0 [some (vr 100), some (vi a1), some (vi a2)] [] SH σ = some (some (vi (f279 σ a1 a2)), SH, σ) := by
  refine Eq.trans (b279_0) ?_
  refine x_bind (s220) ?_
  refine Eq.trans (b279_5) ?_
  refine x_if (fun c1 => ?_) (fun c1 => ?_)
  · refine Eq.trans (b279_25) ?_
    refine Eq.trans (b279_26 (by first | omega | (simp (disch := omega) only [xadd_eq, xsub_eq, xmul_eq] <;> omega) | (have := p136 (by assumption); omega) | (have := p137 (by assumption); omega) | (have := p187 (by assumption); omega) | (have := p220 (by assumption); omega) | (have := p136 (by assumption); simp (disch := omega) only [xadd_eq, xsub_eq] <;> omega) | (have := p137 (by assumption); simp (disch := omega) only [xadd_eq, xsub_eq] <;> omega) | (have := p187 (by assumption); simp (disch := omega) only [xadd_eq, xsub_eq] <;> omega) | (have := p220 (by assumption); simp (disch := omega) only [xadd_eq, xsub_eq] <;> omega) | (simp (disch := omega) only [xadd_eq, xsub_eq] at *; omega) | (simp [g92, xwr] <;> omega) | exact z20 | exact z63 | exact z94 | exact z111 | exact z115 | exact z123 | exact z127 | exact z131 | exact z132 | exact z133 | exact z136 | exact z137 | exact z138 | exact z150 | exact z152 | exact z155 | exact z161 | exact z162 | exact z164 | exact z169 | exact z171 | exact z185 | exact z187 | exact z200 | exact z201 | exact z202 | exact z205 | exact z213 | exact z220 | exact z226 | exact z240 | exact z257 | exact z272 | exact z281 | exact z288 | exact z302 | exact z311 | exact z35 | exact z47 | exact z168)) ?_
    simp only [f279, if_pos c1]
  · refine Eq.trans (b279_8) ?_
    refine x_if (fun c2 => ?_) (fun c2 => ?_)
    · refine Eq.trans (b279_25) ?_
      refine Eq.trans (b279_26 (by first | omega | (simp (disch := omega) only [xadd_eq, xsub_eq, xmul_eq] <;> omega) | (have := p136 (by assumption); omega) | (have := p137 (by assumption); omega) | (have := p187 (by assumption); omega) | (have := p220 (by assumption); omega) | (have := p136 (by assumption); simp (disch := omega) only [xadd_eq, xsub_eq] <;> omega) | (have := p137 (by assumption); simp (disch := omega) only [xadd_eq, xsub_eq] <;> omega) | (have := p187 (by assumption); simp (disch := omega) only [xadd_eq, xsub_eq] <;> omega) | (have := p220 (by assumption); simp (disch := omega) only [xadd_eq, xsub_eq] <;> omega) | (simp (disch := omega) only [xadd_eq, xsub_eq] at *; omega) | (simp [g92, xwr] <;> omega) | exact z20 | exact z63 | exact z94 | exact z111 | exact z115 | exact z123 | exact z127 | exact z131 | exact z132 | exact z133 | exact z136 | exact z137 | exact z138 | exact z150 | exact z152 | exact z155 | exact z161 | exact z162 | exact z164 | exact z169 | exact z171 | exact z185 | exact z187 | exact z200 | exact z201 | exact z202 | exact z205 | exact z213 | exact z220 | exact z226 | exact z240 | exact z257 | exact z272 | exact z281 | exact z288 | exact z302 | exact z311 | exact z35 | exact z47 | exact z168)) ?_
      simp only [f279, if_neg c1, if_pos c2]
    · refine Eq.trans (b279_12) ?_
      refine x_bind (s280 (by first | omega | (simp (disch := omega) only [xadd_eq, xsub_eq, xmul_eq] <;> omega) | (have := p136 (by assumption); omega) | (have := p137 (by assumption); omega) | (have := p187 (by assumption); omega) | (have := p220 (by assumption); omega) | (have := p136 (by assumption); simp (disch := omega) only [xadd_eq, xsub_eq] <;> omega) | (have := p137 (by assumption); simp (disch := omega) only [xadd_eq, xsub_eq] <;> omega) | (have := p187 (by assumption); simp (disch := omega) only [xadd_eq, xsub_eq] <;> omega) | (have := p220 (by assumption); simp (disch := omega) only [xadd_eq, xsub_eq] <;> omega) | (simp (disch := omega) only [xadd_eq, xsub_eq] at *; omega) | (simp [g92, xwr] <;> omega) | exact z20 | exact z63 | exact z94 | exact z111 | exact z115 | exact z123 | exact z127 | exact z131 | exact z132 | exact z133 | exact z136 | exact z137 | exact z138 | exact z150 | exact z152 | exact z155 | exact z161 | exact z162 | exact z164 | exact z169 | exact z171 | exact z185 | exact z187 | exact z200 | exact z201 | exact z202 | exact z205 | exact z213 | exact z220 | exact z226 | exact z240 | exact z257 | exact z272 | exact z281 | exact z288 | exact z302 | exact z311 | exact z35 | exact z47 | exact z168) (by first | omega | (simp (disch := omega) only [xadd_eq, xsub_eq, xmul_eq] <;> omega) | (have := p136 (by assumption); omega) | (have := p137 (by assumption); omega) | (have := p187 (by assumption); omega) | (have := p220 (by assumption); omega) | (have := p136 (by assumption); simp (disch := omega) only [xadd_eq, xsub_eq] <;> omega) | (have := p137 (by assumption); simp (disch := omega) only [xadd_eq, xsub_eq] <;> omega) | (have := p187 (by assumption); simp (disch := omega) only [xadd_eq, xsub_eq] <;> omega) | (have := p220 (by assumption); simp (disch := omega) only [xadd_eq, xsub_eq] <;> omega) | (simp (disch := omega) only [xadd_eq, xsub_eq] at *; omega) | (simp [g92, xwr] <;> omega) | exact z20 | exact z63 | exact z94 | exact z111 | exact z115 | exact z123 | exact z127 | exact z131 | exact z132 | exact z133 | exact z136 | exact z137 | exact z138 | exact z150 | exact z152 | exact z155 | exact z161 | exact z162 | exact z164 | exact z169 | exact z171 | exact z185 | exact z187 | exact z200 | exact z201 | exact z202 | exact z205 | exact z213 | exact z220 | exact z226 | exact z240 | exact z257 | exact z272 | exact z281 | exact z288 | exact z302 | exact z311 | exact z35 | exact z47 | exact z168)) ?_
      refine Eq.trans (b279_18) ?_
      refine x_if (fun c3 => ?_) (fun c3 => ?_)
      · refine Eq.trans (b279_25) ?_
        refine Eq.trans (b279_26 (by first | omega | (simp (disch := omega) only [xadd_eq, xsub_eq, xmul_eq] <;> omega) | (have := p136 (by assumption); omega) | (have := p137 (by assumption); omega) | (have := p187 (by assumption); omega) | (have := p220 (by assumption); omega) | (have := p136 (by assumption); simp (disch := omega) only [xadd_eq, xsub_eq] <;> omega) | (have := p137 (by assumption); simp (disch := omega) only [xadd_eq, xsub_eq] <;> omega) | (have := p187 (by assumption); simp (disch := omega) only [xadd_eq, xsub_eq] <;> omega) | (have := p220 (by assumption); simp (disch := omega) only [xadd_eq, xsub_eq] <;> omega) | (simp (disch := omega) only [xadd_eq, xsub_eq] at *; omega) | (simp [g92, xwr] <;> omega) | exact z20 | exact z63 | exact z94 | exact z111 | exact z115 | exact z123 | exact z127 | exact z131 | exact z132 | exact z133 | exact z136 | exact z137 | exact z138 | exact z150 | exact z152 | exact z155 | exact z161 | exact z162 | exact z164 | exact z169 | exact z171 | exact z185 | exact z187 | exact z200 | exact z201 | exact z202 | exact z205 | exact z213 | exact z220 | exact z226 | exact z240 | exact z257 | exact z272 | exact z281 | exact z288 | exact z302 | exact z311 | exact z35 | exact z47 | exact z168)) ?_
        simp only [f279, if_neg c1, if_neg c2, if_pos c3]
      · refine Eq.trans (b279_21) ?_
        refine Eq.trans (b279_26 (by first | omega | (simp (disch := omega) only [xadd_eq, xsub_eq, xmul_eq] <;> omega) | (have := p136 (by assumption); omega) | (have := p137 (by assumption); omega) | (have := p187 (by assumption); omega) | (have := p220 (by assumption); omega) | (have := p136 (by assumption); simp (disch := omega) only [xadd_eq, xsub_eq] <;> omega) | (have := p137 (by assumption); simp (disch := omega) only [xadd_eq, xsub_eq] <;> omega) | (have := p187 (by assumption); simp (disch := omega) only [xadd_eq, xsub_eq] <;> omega) | (have := p220 (by assumption); simp (disch := omega) only [xadd_eq, xsub_eq] <;> omega) | (simp (disch := omega) only [xadd_eq, xsub_eq] at *; omega) | (simp [g92, xwr] <;> omega) | exact z20 | exact z63 | exact z94 | exact z111 | exact z115 | exact z123 | exact z127 | exact z131 | exact z132 | exact z133 | exact z136 | exact z137 | exact z138 | exact z150 | exact z152 | exact z155 | exact z161 | exact z162 | exact z164 | exact z169 | exact z171 | exact z185 | exact z187 | exact z200 | exact z201 | exact z202 | exact z205 | exact z213 | exact z220 | exact z226 | exact z240 | exact z257 | exact z272 | exact z281 | exact z288 | exact z302 | exact z311 | exact z35 | exact z47 | exact z168)) ?_
        simp only [f279, if_neg c1, if_neg c2, if_neg c3]
theorem z279 {σ : xM} {a1 : Int} {a2 : Int} : f279 σ a1 a2 = 0 ∨ f279 σ a1 a2 = 1 := by
  unfold f279
  (repeat' split) <;> first | exact Or.inl rfl | exact Or.inr rfl | exact z20 | exact z63 | exact z94 | exact z111 | exact z115 | exact z123 | exact z127 | exact z131 | exact z132 | exact z133 | exact z136 | exact z137 | exact z138 | exact z150 | exact z152 | exact z155 | exact z161 | exact z162 | exact z164 | exact z169 | exact z171 | exact z185 | exact z187 | exact z200 | exact z201 | exact z202 | exact z205 | exact z213 | exact z220 | exact z226 | exact z240 | exact z257 | exact z272 | exact z281 | exact z288 | exact z302 | exact z311 | exact z35 | exact z47 | exact z168
theorem p279 {σ : xM} {a1 a2 : Int} (h : ¬ f279 σ a1 a2 = 0) : 0 ≤ a1 ∧ a1 < σ 100 16 ∧ 0 ≤ a2 ∧ a2 < 7 := by
  unfold f279 at h
  split at h
  · exact absurd rfl h
  · have := p220 (by assumption)
    unfold f280 at h
    (repeat' split at h) <;> first | omega | exact absurd rfl h

/-- StickSums changeRow ()V: the cells behind it -/
def g5 (σ : xM)  : xM := (g6 (xwr (g53 σ) 41 1 0))
set_option maxHeartbeats 200000 in
theorem s5 {X : Nat × (Nat → Int)} {d : Nat}  {σ : xM} : Ev X (d + 2) 5 0 [some (vr 0)] [] SH σ = some (none, SH, (g5 σ )) := by
  refine Eq.trans (b5_0) ?_
  refine x_bind (s53) ?_
  refine Eq.trans (b5_7) ?_
  refine x_bind (s6) ?_
  refine Eq.trans (b5_19) ?_
  rfl

/-- StickSums grundy (I)I -/
def f42 (σ : xM) (a1 : Int) : Int := (if (f136 σ 23 a1) = 0 then (-1) else (f43 σ a1))
set_option maxHeartbeats 200000 in
theorem s42 {X : Nat × (Nat → Int)} {d : Nat} {a1 : Int} {σ : xM} : Ev X (d + 2) 42 0 [some (vr 0), some (vi a1)] [] SH σ = some (some (vi (f42 σ a1)), SH, σ) := by
  refine Eq.trans (b42_0) ?_
  refine x_bind (s136 (by first | assumption | exact isWlk.rdg (by assumption) | (unfold isRow; decide) | (unfold isRdg; decide) | (unfold isWlk; decide) | rfl)) ?_
  refine Eq.trans (b42_8) ?_
  refine x_if (fun c1 => ?_) (fun c1 => ?_)
  · refine Eq.trans (b42_19) ?_
    refine Eq.trans (b42_20) ?_
    simp only [f42, if_pos c1]
  · refine Eq.trans (b42_11) ?_
    refine x_bind (s43) ?_
    refine Eq.trans (b42_16) ?_
    refine Eq.trans (b42_20) ?_
    simp only [f42, if_neg c1]

/-- StickSums undo ()Z -/
def f45 (σ : xM)  : Int := (if (f55 σ) = (-1) then 0 else 1)
/-- StickSums undo ()Z: the cells behind it -/
def g45 (σ : xM)  : xM := (if (f55 σ) = (-1) then (g46 (g55 σ) (f55 σ)) else (g46 (g55 σ) (f55 σ)))
set_option maxHeartbeats 200000 in
theorem s45 {X : Nat × (Nat → Int)} {d : Nat}  {σ : xM} : Ev X (d + 4) 45 0 [some (vr 0), none] [] SH σ = some (some (vi (f45 σ )), SH, (g45 σ )) := by
  refine Eq.trans (b45_0) ?_
  refine x_bind (s55) ?_
  refine Eq.trans (b45_7) ?_
  refine x_bind (s46) ?_
  refine Eq.trans (b45_13) ?_
  refine x_if (fun c1 => ?_) (fun c1 => ?_)
  · refine Eq.trans (b45_22) ?_
    refine Eq.trans (b45_23 (by first | omega | (simp (disch := omega) only [xadd_eq, xsub_eq, xmul_eq] <;> omega) | (have := p136 (by assumption); omega) | (have := p137 (by assumption); omega) | (have := p187 (by assumption); omega) | (have := p220 (by assumption); omega) | (have := p279 (by assumption); omega) | (have := p136 (by assumption); simp (disch := omega) only [xadd_eq, xsub_eq] <;> omega) | (have := p137 (by assumption); simp (disch := omega) only [xadd_eq, xsub_eq] <;> omega) | (have := p187 (by assumption); simp (disch := omega) only [xadd_eq, xsub_eq] <;> omega) | (have := p220 (by assumption); simp (disch := omega) only [xadd_eq, xsub_eq] <;> omega) | (have := p279 (by assumption); simp (disch := omega) only [xadd_eq, xsub_eq] <;> omega) | (simp (disch := omega) only [xadd_eq, xsub_eq] at *; omega) | (simp [g92, xwr] <;> omega) | exact z20 | exact z63 | exact z94 | exact z111 | exact z115 | exact z123 | exact z127 | exact z131 | exact z132 | exact z133 | exact z136 | exact z137 | exact z138 | exact z150 | exact z152 | exact z155 | exact z161 | exact z162 | exact z164 | exact z169 | exact z171 | exact z185 | exact z187 | exact z200 | exact z201 | exact z202 | exact z205 | exact z213 | exact z220 | exact z226 | exact z240 | exact z257 | exact z272 | exact z281 | exact z288 | exact z302 | exact z311 | exact z35 | exact z47 | exact z168 | exact z279)) ?_
    simp only [f45, g45, if_pos c1]
  · refine Eq.trans (b45_18) ?_
    refine Eq.trans (b45_23 (by first | omega | (simp (disch := omega) only [xadd_eq, xsub_eq, xmul_eq] <;> omega) | (have := p136 (by assumption); omega) | (have := p137 (by assumption); omega) | (have := p187 (by assumption); omega) | (have := p220 (by assumption); omega) | (have := p279 (by assumption); omega) | (have := p136 (by assumption); simp (disch := omega) only [xadd_eq, xsub_eq] <;> omega) | (have := p137 (by assumption); simp (disch := omega) only [xadd_eq, xsub_eq] <;> omega) | (have := p187 (by assumption); simp (disch := omega) only [xadd_eq, xsub_eq] <;> omega) | (have := p220 (by assumption); simp (disch := omega) only [xadd_eq, xsub_eq] <;> omega) | (have := p279 (by assumption); simp (disch := omega) only [xadd_eq, xsub_eq] <;> omega) | (simp (disch := omega) only [xadd_eq, xsub_eq] at *; omega) | (simp [g92, xwr] <;> omega) | exact z20 | exact z63 | exact z94 | exact z111 | exact z115 | exact z123 | exact z127 | exact z131 | exact z132 | exact z133 | exact z136 | exact z137 | exact z138 | exact z150 | exact z152 | exact z155 | exact z161 | exact z162 | exact z164 | exact z169 | exact z171 | exact z185 | exact z187 | exact z200 | exact z201 | exact z202 | exact z205 | exact z213 | exact z220 | exact z226 | exact z240 | exact z257 | exact z272 | exact z281 | exact z288 | exact z302 | exact z311 | exact z35 | exact z47 | exact z168 | exact z279)) ?_
    simp only [f45, g45, if_neg c1]
theorem z45 {σ : xM} : f45 σ  = 0 ∨ f45 σ  = 1 := by
  unfold f45
  (repeat' split) <;> first | exact Or.inl rfl | exact Or.inr rfl | exact z20 | exact z63 | exact z94 | exact z111 | exact z115 | exact z123 | exact z127 | exact z131 | exact z132 | exact z133 | exact z136 | exact z137 | exact z138 | exact z150 | exact z152 | exact z155 | exact z161 | exact z162 | exact z164 | exact z169 | exact z171 | exact z185 | exact z187 | exact z200 | exact z201 | exact z202 | exact z205 | exact z213 | exact z220 | exact z226 | exact z240 | exact z257 | exact z272 | exact z281 | exact z288 | exact z302 | exact z311 | exact z35 | exact z47 | exact z168 | exact z279

/-- StickSums$Forms isNumberWithin (II)Z -/
def f67 (σ : xM) (a1 : Int) (a2 : Int) : Int := (if (σ 1 5) = 2 then (if (σ 1 8) < a1 then (f169 σ 4 (σ 1 6)) else (if (σ 1 8) ≤ a2 then 1 else (f169 σ 4 (σ 1 6)))) else (f168 σ))
/-- StickSums$Forms isNumberWithin (II)Z: the cells behind it -/
def g67 (σ : xM) (a1 : Int) (a2 : Int) : xM := (if (σ 1 5) = 2 then (if (σ 1 8) < a1 then (g169 σ 4 (σ 1 6)) else (if (σ 1 8) ≤ a2 then σ else (g169 σ 4 (σ 1 6)))) else (g168 σ))
set_option maxHeartbeats 200000 in
theorem s67 {X : Nat × (Nat → Int)} {d : Nat} {a1 : Int} {a2 : Int} {σ : xM} : Ev X (d + 2) 67 0 [some (vr 3), some (vi a1), some (vi a2)] [] SH σ = some (some (vi (f67 σ a1 a2)), SH, (g67 σ a1 a2)) := by
  refine Eq.trans (b67_0) ?_
  refine x_if (fun c1 => ?_) (fun c1 => ?_)
  · refine Eq.trans (b67_19) ?_
    refine x_if (fun c2 => ?_) (fun c2 => ?_)
    · refine Eq.trans (b67_41) ?_
      refine x_bind (s169) ?_
      refine Eq.trans (b67_56 (by first | omega | (simp (disch := omega) only [xadd_eq, xsub_eq, xmul_eq] <;> omega) | (have := p136 (by assumption); omega) | (have := p137 (by assumption); omega) | (have := p187 (by assumption); omega) | (have := p220 (by assumption); omega) | (have := p279 (by assumption); omega) | (have := p136 (by assumption); simp (disch := omega) only [xadd_eq, xsub_eq] <;> omega) | (have := p137 (by assumption); simp (disch := omega) only [xadd_eq, xsub_eq] <;> omega) | (have := p187 (by assumption); simp (disch := omega) only [xadd_eq, xsub_eq] <;> omega) | (have := p220 (by assumption); simp (disch := omega) only [xadd_eq, xsub_eq] <;> omega) | (have := p279 (by assumption); simp (disch := omega) only [xadd_eq, xsub_eq] <;> omega) | (simp (disch := omega) only [xadd_eq, xsub_eq] at *; omega) | (simp [g92, xwr] <;> omega) | exact z20 | exact z63 | exact z94 | exact z111 | exact z115 | exact z123 | exact z127 | exact z131 | exact z132 | exact z133 | exact z136 | exact z137 | exact z138 | exact z150 | exact z152 | exact z155 | exact z161 | exact z162 | exact z164 | exact z169 | exact z171 | exact z185 | exact z187 | exact z200 | exact z201 | exact z202 | exact z205 | exact z213 | exact z220 | exact z226 | exact z240 | exact z257 | exact z272 | exact z281 | exact z288 | exact z302 | exact z311 | exact z35 | exact z47 | exact z168 | exact z279 | exact z45)) ?_
      simp only [f67, g67, if_pos c1, if_pos c2]
    · refine Eq.trans (b67_30) ?_
      refine x_if (fun c3 => ?_) (fun c3 => ?_)
      · refine Eq.trans (b67_57) ?_
        simp only [f67, g67, if_pos c1, if_neg c2, if_pos c3]
      · refine Eq.trans (b67_41) ?_
        refine x_bind (s169) ?_
        refine Eq.trans (b67_56 (by first | omega | (simp (disch := omega) only [xadd_eq, xsub_eq, xmul_eq] <;> omega) | (have := p136 (by assumption); omega) | (have := p137 (by assumption); omega) | (have := p187 (by assumption); omega) | (have := p220 (by assumption); omega) | (have := p279 (by assumption); omega) | (have := p136 (by assumption); simp (disch := omega) only [xadd_eq, xsub_eq] <;> omega) | (have := p137 (by assumption); simp (disch := omega) only [xadd_eq, xsub_eq] <;> omega) | (have := p187 (by assumption); simp (disch := omega) only [xadd_eq, xsub_eq] <;> omega) | (have := p220 (by assumption); simp (disch := omega) only [xadd_eq, xsub_eq] <;> omega) | (have := p279 (by assumption); simp (disch := omega) only [xadd_eq, xsub_eq] <;> omega) | (simp (disch := omega) only [xadd_eq, xsub_eq] at *; omega) | (simp [g92, xwr] <;> omega) | exact z20 | exact z63 | exact z94 | exact z111 | exact z115 | exact z123 | exact z127 | exact z131 | exact z132 | exact z133 | exact z136 | exact z137 | exact z138 | exact z150 | exact z152 | exact z155 | exact z161 | exact z162 | exact z164 | exact z169 | exact z171 | exact z185 | exact z187 | exact z200 | exact z201 | exact z202 | exact z205 | exact z213 | exact z220 | exact z226 | exact z240 | exact z257 | exact z272 | exact z281 | exact z288 | exact z302 | exact z311 | exact z35 | exact z47 | exact z168 | exact z279 | exact z45)) ?_
        simp only [f67, g67, if_pos c1, if_neg c2, if_neg c3]
  · refine Eq.trans (b67_11) ?_
    refine x_bind (s168) ?_
    refine Eq.trans (b67_18 (by first | omega | (simp (disch := omega) only [xadd_eq, xsub_eq, xmul_eq] <;> omega) | (have := p136 (by assumption); omega) | (have := p137 (by assumption); omega) | (have := p187 (by assumption); omega) | (have := p220 (by assumption); omega) | (have := p279 (by assumption); omega) | (have := p136 (by assumption); simp (disch := omega) only [xadd_eq, xsub_eq] <;> omega) | (have := p137 (by assumption); simp (disch := omega) only [xadd_eq, xsub_eq] <;> omega) | (have := p187 (by assumption); simp (disch := omega) only [xadd_eq, xsub_eq] <;> omega) | (have := p220 (by assumption); simp (disch := omega) only [xadd_eq, xsub_eq] <;> omega) | (have := p279 (by assumption); simp (disch := omega) only [xadd_eq, xsub_eq] <;> omega) | (simp (disch := omega) only [xadd_eq, xsub_eq] at *; omega) | (simp [g92, xwr] <;> omega) | exact z20 | exact z63 | exact z94 | exact z111 | exact z115 | exact z123 | exact z127 | exact z131 | exact z132 | exact z133 | exact z136 | exact z137 | exact z138 | exact z150 | exact z152 | exact z155 | exact z161 | exact z162 | exact z164 | exact z169 | exact z171 | exact z185 | exact z187 | exact z200 | exact z201 | exact z202 | exact z205 | exact z213 | exact z220 | exact z226 | exact z240 | exact z257 | exact z272 | exact z281 | exact z288 | exact z302 | exact z311 | exact z35 | exact z47 | exact z168 | exact z279 | exact z45)) ?_
    simp only [f67, g67, if_neg c1]
theorem z67 {σ : xM} {a1 : Int} {a2 : Int} : f67 σ a1 a2 = 0 ∨ f67 σ a1 a2 = 1 := by
  unfold f67
  (repeat' split) <;> first | exact Or.inl rfl | exact Or.inr rfl | exact z20 | exact z63 | exact z94 | exact z111 | exact z115 | exact z123 | exact z127 | exact z131 | exact z132 | exact z133 | exact z136 | exact z137 | exact z138 | exact z150 | exact z152 | exact z155 | exact z161 | exact z162 | exact z164 | exact z169 | exact z171 | exact z185 | exact z187 | exact z200 | exact z201 | exact z202 | exact z205 | exact z213 | exact z220 | exact z226 | exact z240 | exact z257 | exact z272 | exact z281 | exact z288 | exact z302 | exact z311 | exact z35 | exact z47 | exact z168 | exact z279 | exact z45

/-- StickSums$Law put (I)Z -/
def f82 (σ : xM) (a1 : Int) : Int := (if (σ 10 5) < 256 then 1 else (f168 σ))
/-- StickSums$Law put (I)Z: the cells behind it -/
def g82 (σ : xM) (a1 : Int) : xM := (if (σ 10 5) < 256 then (xwr (xwr σ 12 ((σ 10 5)).toNat a1) 10 5 (xadd (σ 10 5) 1)) else (g168 σ))
set_option maxHeartbeats 200000 in
theorem s82 {X : Nat × (Nat → Int)} {d : Nat} {a1 : Int} {σ : xM} (h0 : 0 ≤ σ 10 5) : Ev X (d + 2) 82 0 [some (vr 10), some (vi a1)] [] SH σ = some (some (vi (f82 σ a1)), SH, (g82 σ a1)) := by
  refine Eq.trans (b82_0) ?_
  refine x_if (fun c1 => ?_) (fun c1 => ?_)
  · refine Eq.trans (b82_18 (by first | omega | (simp (disch := omega) only [xadd_eq, xsub_eq, xmul_eq] <;> omega) | (have := p136 (by assumption); omega) | (have := p137 (by assumption); omega) | (have := p187 (by assumption); omega) | (have := p220 (by assumption); omega) | (have := p279 (by assumption); omega) | (have := p136 (by assumption); simp (disch := omega) only [xadd_eq, xsub_eq] <;> omega) | (have := p137 (by assumption); simp (disch := omega) only [xadd_eq, xsub_eq] <;> omega) | (have := p187 (by assumption); simp (disch := omega) only [xadd_eq, xsub_eq] <;> omega) | (have := p220 (by assumption); simp (disch := omega) only [xadd_eq, xsub_eq] <;> omega) | (have := p279 (by assumption); simp (disch := omega) only [xadd_eq, xsub_eq] <;> omega) | (simp (disch := omega) only [xadd_eq, xsub_eq] at *; omega) | (simp [g92, xwr] <;> omega) | exact z20 | exact z63 | exact z94 | exact z111 | exact z115 | exact z123 | exact z127 | exact z131 | exact z132 | exact z133 | exact z136 | exact z137 | exact z138 | exact z150 | exact z152 | exact z155 | exact z161 | exact z162 | exact z164 | exact z169 | exact z171 | exact z185 | exact z187 | exact z200 | exact z201 | exact z202 | exact z205 | exact z213 | exact z220 | exact z226 | exact z240 | exact z257 | exact z272 | exact z281 | exact z288 | exact z302 | exact z311 | exact z35 | exact z47 | exact z168 | exact z279 | exact z45 | exact z67)) ?_
    simp only [f82, g82, if_pos c1]
  · refine Eq.trans (b82_10) ?_
    refine x_bind (s168) ?_
    refine Eq.trans (b82_17 (by first | omega | (simp (disch := omega) only [xadd_eq, xsub_eq, xmul_eq] <;> omega) | (have := p136 (by assumption); omega) | (have := p137 (by assumption); omega) | (have := p187 (by assumption); omega) | (have := p220 (by assumption); omega) | (have := p279 (by assumption); omega) | (have := p136 (by assumption); simp (disch := omega) only [xadd_eq, xsub_eq] <;> omega) | (have := p137 (by assumption); simp (disch := omega) only [xadd_eq, xsub_eq] <;> omega) | (have := p187 (by assumption); simp (disch := omega) only [xadd_eq, xsub_eq] <;> omega) | (have := p220 (by assumption); simp (disch := omega) only [xadd_eq, xsub_eq] <;> omega) | (have := p279 (by assumption); simp (disch := omega) only [xadd_eq, xsub_eq] <;> omega) | (simp (disch := omega) only [xadd_eq, xsub_eq] at *; omega) | (simp [g92, xwr] <;> omega) | exact z20 | exact z63 | exact z94 | exact z111 | exact z115 | exact z123 | exact z127 | exact z131 | exact z132 | exact z133 | exact z136 | exact z137 | exact z138 | exact z150 | exact z152 | exact z155 | exact z161 | exact z162 | exact z164 | exact z169 | exact z171 | exact z185 | exact z187 | exact z200 | exact z201 | exact z202 | exact z205 | exact z213 | exact z220 | exact z226 | exact z240 | exact z257 | exact z272 | exact z281 | exact z288 | exact z302 | exact z311 | exact z35 | exact z47 | exact z168 | exact z279 | exact z45 | exact z67)) ?_
    simp only [f82, g82, if_neg c1]
theorem z82 {σ : xM} {a1 : Int} : f82 σ a1 = 0 ∨ f82 σ a1 = 1 := by
  unfold f82
  (repeat' split) <;> first | exact Or.inl rfl | exact Or.inr rfl | exact z20 | exact z63 | exact z94 | exact z111 | exact z115 | exact z123 | exact z127 | exact z131 | exact z132 | exact z133 | exact z136 | exact z137 | exact z138 | exact z150 | exact z152 | exact z155 | exact z161 | exact z162 | exact z164 | exact z169 | exact z171 | exact z185 | exact z187 | exact z200 | exact z201 | exact z202 | exact z205 | exact z213 | exact z220 | exact z226 | exact z240 | exact z257 | exact z272 | exact z281 | exact z288 | exact z302 | exact z311 | exact z35 | exact z47 | exact z168 | exact z279 | exact z45 | exact z67
