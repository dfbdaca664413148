/-! WHAT HOLDS BETWEEN CALLS: the class's cells (0 .. 99) and the model's (100 .. 142) tell the same -/
def FW : Nat → Int := fun g => ([63, 6, 91, 79, 102, 109, 125, 7, 127, 111] : List Int).getD g 0
/-- sticks of b that are all in a -/
def sbs (b a : Nat) : Bool := a &&& b == b
def isWy (w : Nat → Int) (b : Nat) : Prop := 0 < b ∧ ∃ i, i < 20 ∧ w i = (b : Int)
/-- GRUNDY of all sticks of a figure -/
def Gru (w g : Nat → Int) : Prop := ∀ b, b < 128 → 0 ≤ g b ∧ g b ≤ 20 ∧ (¬ isWy w b → g b = 0) ∧ (isWy w b → (∀ t : Nat, (t : Int) < g b → ∃ v, v < b ∧ isWy w v ∧ sbs v b = true ∧ g v = t) ∧ (∀ v, v < b → isWy w v → sbs v b = true → g v ≠ g b))
/-- a step of WANTED, in the class's code and in the model's -/
def enc (c s v : Int) : Prop := (0 ≤ c ∧ c ≤ 9999 ∧ s = 0 ∧ v = c) ∨ (c = -1 ∧ s = 1) ∨ (c = -2 ∧ s = 2) ∨ (c = -3 ∧ s = 3) ∨ (c = -4 ∧ s = 4) ∨ (c = -5 ∧ s = 22) ∨ (c = -6 ∧ s = 20) ∨ (c = -7 ∧ s = 21) ∨ (c = -1060 ∧ s = 24) ∨ (c = -1062 ∧ s = 25) ∨ (c = -1061 ∧ s = 23) ∨ (c = -1043 ∧ s = 26) ∨ (c = -1045 ∧ s = 27) ∨ (c = -1042 ∧ s = 28)
def dl (c : Int) : Int := if -4 ≤ c then 1 else if c = -5 then 0 else -1
def dp (f : Nat → Int) : Nat → Int
  | 0 => 0
  | n + 1 => dp f n + dl (f n)
/-- a code that can be worked off: operands are there, and one is left -/
def WFP (f : Nat → Int) (n : Nat) : Prop := (∀ i, i ≤ n → dp f i ≤ 40) ∧ (∀ i, i < n → 1 ≤ dp f (i + 1)) ∧ (n ≠ 0 → dp f n = 1)
def RW (cn : Int) (fg bt : Nat → Int) (cn' : Int) (fg' bt' : Nat → Int) : Prop := 0 ≤ cn ∧ cn ≤ 11 ∧ cn' = cn ∧ ∀ c : Nat, (c : Int) < cn → fg' c = fg c ∧ (fg c = 0 ∨ fg c = 1) ∧ bt' c = bt c ∧ 0 ≤ bt c ∧ bt c < 128 ∧ (fg c = 0 → bt c < 32)
def Ctape (σ : xM) : Prop := σ 2 = σ 101 ∧ (∀ i, 0 ≤ σ 2 i ∧ σ 2 i ≤ 255) ∧ 0 ≤ σ 1 1 ∧ σ 1 1 ≤ 300 ∧ σ 100 1 = σ 1 1 ∧ σ 100 2 = σ 1 2 ∧ σ 100 3 = σ 1 3
def Cform (σ : xM) : Prop := (∀ i, i < 20 → σ 4 i = σ 102 i) ∧ WF (σ 102) ∧ FC (σ 102) (σ 3 5) (σ 6) (σ 7) (σ 8) ∧ Gru (σ 102) (σ 9)
def Cwant (σ : xM) : Prop := 0 ≤ σ 10 2 ∧ σ 10 2 ≤ 200 ∧ σ 100 35 = σ 10 2 ∧ σ 100 37 = σ 10 3 ∧ (∀ i : Nat, (i : Int) < σ 10 2 → enc (σ 11 i) (σ 118 i) (σ 119 i)) ∧ WFP (σ 11) (σ 10 2).toNat
def Crow (σ : xM) : Prop := RW (σ 23 0) (σ 24) (σ 25) (σ 100 16) (σ 107) (σ 110)
def Cgoal (σ : xM) : Prop := RW (σ 26 0) (σ 27) (σ 28) (σ 100 17) (σ 108) (σ 111)
def Cbox (σ : xM) : Prop := RW (σ 32 0) (σ 33) (σ 34) (σ 140 0) (σ 142) (σ 141) ∧ RW (σ 35 0) (σ 36) (σ 37) (σ 140 1) (fun c => σ 142 (11 + c)) (fun c => σ 141 (11 + c)) ∧ RW (σ 38 0) (σ 39) (σ 40) (σ 140 2) (fun c => σ 142 (22 + c)) (fun c => σ 141 (22 + c))
def Csee (σ : xM) : Prop := 0 ≤ σ 41 0 ∧ σ 41 0 ≤ 100000 ∧ σ 100 60 = σ 41 0 ∧ 0 ≤ σ 41 1 ∧ σ 41 1 ≤ 60 ∧ σ 100 59 = σ 41 1 ∧ ∀ i : Nat, (i : Int) < σ 41 1 → σ 132 i = σ 42 i ∧ σ 133 i = σ 43 i ∧ σ 136 i = σ 44 i ∧ σ 134 i = σ 45 i ∧ σ 135 i = σ 46 i ∧ (σ 44 i = 0 ∨ σ 44 i = 1) ∧ 0 ≤ σ 42 i ∧ σ 42 i < σ 23 0 ∧ 0 ≤ σ 43 i ∧ σ 43 i < 7 ∧ -1 ≤ σ 46 i ∧ σ 46 i ≤ 100000 ∧ 0 ≤ σ 45 i ∧ σ 45 i ≤ 100000
def Cact (σ : xM) : Prop := 0 ≤ σ 47 1 ∧ σ 47 1 ≤ σ 47 2 ∧ σ 47 2 ≤ 100 ∧ σ 100 69 = σ 47 1 ∧ σ 100 70 = σ 47 2 - σ 47 1 ∧ ∀ i : Nat, (i : Int) < σ 47 2 → ∃ c p : Nat, σ 48 i = 8 * c + p ∧ σ 139 i = 10 * c + p ∧ (c : Int) < σ 23 0 ∧ p < 7 ∧ (σ 24 c = 0 → p < 5)
def Crd (σ : xM) : Prop := ∀ j, j < 8 → σ (15 + j) 0 = r0 j ∧ σ (52 + j) 0 = r0 j ∧ σ (73 + j) 0 = r0 j
def Cmis (σ : xM) : Prop := σ 100 51 = 1 ∧ ∀ g, g < 10 → σ 104 g = FW g
def Core (σ : xM) : Prop := Ctape σ ∧ Cform σ ∧ Cwant σ ∧ Crow σ ∧ Cgoal σ ∧ Cbox σ ∧ Csee σ ∧ Cact σ ∧ Crd σ ∧ Cmis σ
/-- the cells that this speaks of -/
def essA : List Nat := [2, 4, 6, 7, 8, 9, 11, 23, 24, 25, 26, 27, 28, 32, 33, 34, 35, 36, 37, 38, 39, 40, 42, 43, 44, 45, 46, 48, 101, 102, 104, 107, 108, 110, 111, 118, 119, 132, 133, 134, 135, 136, 139, 140, 141, 142]
def rdC (k : Nat) : Bool := (Nat.ble 15 k && Nat.ble k 22) || ((Nat.ble 52 k && Nat.ble k 59) || (Nat.ble 73 k && Nat.ble k 80))
def ess (k j : Nat) : Bool := essA.contains k || ((rdC k && Nat.beq j 0) || ((Nat.beq k 1 && [1, 2, 3].contains j) || ((Nat.beq k 3 && Nat.beq j 5) || ((Nat.beq k 10 && [2, 3].contains j) || ((Nat.beq k 41 && [0, 1].contains j) || ((Nat.beq k 47 && [1, 2].contains j) || (Nat.beq k 100 && [1, 2, 3, 16, 17, 35, 37, 51, 59, 60, 69, 70].contains j)))))))
def eqv (σ τ : xM) : Prop := ∀ k j, ess k j = true → τ k j = σ k j
section EQV
variable {σ τ ρ : xM}
theorem eqv_rf : eqv σ σ := fun _ _ _ => rfl
theorem eqv_tr (h : eqv σ τ) (g : eqv τ ρ) : eqv σ ρ := fun k j e => (g k j e).trans (h k j e)
theorem eqv_wr {k j : Nat} {x : Int} (h : ess k j = false) (e : eqv σ τ) : eqv σ (xwr τ k j x) := by
  intro a b hb
  rw [← e a b hb]
  refine if_neg (fun z => ?_)
  rw [z.1, z.2, h] at hb
  cases hb
theorem eqv_row (e : eqv σ τ) {k : Nat} (h : essA.contains k = true) : τ k = σ k := by
  funext j
  refine e k j ?_
  unfold ess
  rw [h]
  rfl
theorem Core_eqv (e : eqv σ τ) (h : Core σ) : Core τ := by
  have r2 := eqv_row e (k := 2) rfl
  have r4 := eqv_row e (k := 4) rfl
  have r6 := eqv_row e (k := 6) rfl
  have r7 := eqv_row e (k := 7) rfl
  have r8 := eqv_row e (k := 8) rfl
  have r9 := eqv_row e (k := 9) rfl
  have r11 := eqv_row e (k := 11) rfl
  have r23 := eqv_row e (k := 23) rfl
  have r24 := eqv_row e (k := 24) rfl
  have r25 := eqv_row e (k := 25) rfl
  have r26 := eqv_row e (k := 26) rfl
  have r27 := eqv_row e (k := 27) rfl
  have r28 := eqv_row e (k := 28) rfl
  have r32 := eqv_row e (k := 32) rfl
  have r33 := eqv_row e (k := 33) rfl
  have r34 := eqv_row e (k := 34) rfl
  have r35 := eqv_row e (k := 35) rfl
  have r36 := eqv_row e (k := 36) rfl
  have r37 := eqv_row e (k := 37) rfl
  have r38 := eqv_row e (k := 38) rfl
  have r39 := eqv_row e (k := 39) rfl
  have r40 := eqv_row e (k := 40) rfl
  have r42 := eqv_row e (k := 42) rfl
  have r43 := eqv_row e (k := 43) rfl
  have r44 := eqv_row e (k := 44) rfl
  have r45 := eqv_row e (k := 45) rfl
  have r46 := eqv_row e (k := 46) rfl
  have r48 := eqv_row e (k := 48) rfl
  have r101 := eqv_row e (k := 101) rfl
  have r102 := eqv_row e (k := 102) rfl
  have r104 := eqv_row e (k := 104) rfl
  have r107 := eqv_row e (k := 107) rfl
  have r108 := eqv_row e (k := 108) rfl
  have r110 := eqv_row e (k := 110) rfl
  have r111 := eqv_row e (k := 111) rfl
  have r118 := eqv_row e (k := 118) rfl
  have r119 := eqv_row e (k := 119) rfl
  have r132 := eqv_row e (k := 132) rfl
  have r133 := eqv_row e (k := 133) rfl
  have r134 := eqv_row e (k := 134) rfl
  have r135 := eqv_row e (k := 135) rfl
  have r136 := eqv_row e (k := 136) rfl
  have r139 := eqv_row e (k := 139) rfl
  have r140 := eqv_row e (k := 140) rfl
  have r141 := eqv_row e (k := 141) rfl
  have r142 := eqv_row e (k := 142) rfl
  have s11 := e 1 1 rfl
  have s12 := e 1 2 rfl
  have s13 := e 1 3 rfl
  have s35 := e 3 5 rfl
  have s102 := e 10 2 rfl
  have s103 := e 10 3 rfl
  have s410 := e 41 0 rfl
  have s411 := e 41 1 rfl
  have s471 := e 47 1 rfl
  have s472 := e 47 2 rfl
  have m1 := e 100 1 rfl
  have m2 := e 100 2 rfl
  have m3 := e 100 3 rfl
  have m16 := e 100 16 rfl
  have m17 := e 100 17 rfl
  have m35 := e 100 35 rfl
  have m37 := e 100 37 rfl
  have m51 := e 100 51 rfl
  have m59 := e 100 59 rfl
  have m60 := e 100 60 rfl
  have m69 := e 100 69 rfl
  have m70 := e 100 70 rfl
  obtain ⟨h1, h2, h3, h4, h5, h6, h7, h8, h9, h10⟩ := h
  refine ⟨?_, ?_, ?_, ?_, ?_, ?_, ?_, ?_, ?_, ?_⟩
  · unfold Ctape at h1 ⊢
    rw [r2, r101, s11, s12, s13, m1, m2, m3]
    exact h1
  · unfold Cform at h2 ⊢
    rw [r4, r102, s35, r6, r7, r8, r9]
    exact h2
  · unfold Cwant at h3 ⊢
    rw [s102, s103, m35, m37, r11, r118, r119]
    exact h3
  · unfold Crow at h4 ⊢
    rw [r23, r24, r25, m16, r107, r110]
    exact h4
  · unfold Cgoal at h5 ⊢
    rw [r26, r27, r28, m17, r108, r111]
    exact h5
  · unfold Cbox at h6 ⊢
    rw [r32, r33, r34, r35, r36, r37, r38, r39, r40, r140, r141, r142]
    exact h6
  · unfold Csee at h7 ⊢
    rw [s410, s411, m59, m60, r23, r42, r43, r44, r45, r46, r132, r133, r134, r135, r136]
    exact h7
  · unfold Cact at h8 ⊢
    rw [s471, s472, m69, m70, r48, r139, r23, r24]
    exact h8
  · intro j hj
    obtain ⟨a, b, c⟩ := h9 j hj
    have q : ∀ k, rdC k = true → ess k 0 = true := fun k hk => by
      unfold ess
      rw [hk]
      simp
    have t : ∀ j, j < 8 → rdC (15 + j) = true ∧ rdC (52 + j) = true ∧ rdC (73 + j) = true := by decide
    obtain ⟨t1, t2, t3⟩ := t j hj
    rw [e _ 0 (q _ t1), e _ 0 (q _ t2), e _ 0 (q _ t3)]
    exact ⟨a, b, c⟩
  · unfold Cmis at h10 ⊢
    rw [m51, r104]
    exact h10
end EQV
