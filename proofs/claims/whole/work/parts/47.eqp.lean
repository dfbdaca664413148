/-! each part of it depends on its own cells alone -/
def pin (A : List Nat) (S : List (Nat × Nat)) (k j : Nat) : Bool := A.contains k || S.contains (k, j)
def eqp (P : Nat → Nat → Bool) (σ τ : xM) : Prop := ∀ k j, P k j = true → τ k j = σ k j
section EQP
variable {σ τ ρ : xM} {P : Nat → Nat → Bool} {A : List Nat} {S : List (Nat × Nat)}
theorem eqp_rf : eqp P σ σ := fun _ _ _ => rfl
theorem eqp_tr (h : eqp P σ τ) (g : eqp P τ ρ) : eqp P σ ρ := fun k j e => (g k j e).trans (h k j e)
theorem eqp_wr {k j : Nat} {x : Int} (h : P k j = false) (e : eqp P σ τ) : eqp P σ (xwr τ k j x) := by
  intro a b hb
  rw [← e a b hb]
  refine if_neg (fun z => ?_)
  rw [z.1, z.2, h] at hb
  cases hb
theorem eqp_xr {k : Nat} {f : Nat → Int} (h : ∀ j, P k j = false) (e : eqp P σ τ) : eqp P σ (xrow τ k f) := by
  intro a b hb
  rw [← e a b hb]
  refine if_neg (fun z => ?_)
  rw [z, h] at hb
  cases hb
theorem eqp_fr {F : Nat → Bool} (h : ∀ k, F k = false → τ k = σ k) (hF : ∀ k j, P k j = true → F k = false) : eqp P σ τ := by
  intro k j e
  rw [h k (hF k j e)]
theorem eqp_row (e : eqp (pin A S) σ τ) {k : Nat} (h : A.contains k = true) : τ k = σ k := by
  funext j
  refine e k j ?_
  unfold pin
  rw [h]
  rfl
theorem eqp_sl (e : eqp (pin A S) σ τ) {k j : Nat} (h : S.contains (k, j) = true) : τ k j = σ k j := by
  refine e k j ?_
  unfold pin
  rw [h, Bool.or_true]
def Ptape : Nat → Nat → Bool := pin [2, 101] [(1, 1), (1, 2), (1, 3), (100, 1), (100, 2), (100, 3)]
theorem Ctape_eqp (e : eqp Ptape σ τ) (h : Ctape σ) : Ctape τ := by
  have r2 := eqp_row e (k := 2) rfl
  have r101 := eqp_row e (k := 101) rfl
  have s1_1 := eqp_sl e (k := 1) (j := 1) rfl
  have s1_2 := eqp_sl e (k := 1) (j := 2) rfl
  have s1_3 := eqp_sl e (k := 1) (j := 3) rfl
  have s100_1 := eqp_sl e (k := 100) (j := 1) rfl
  have s100_2 := eqp_sl e (k := 100) (j := 2) rfl
  have s100_3 := eqp_sl e (k := 100) (j := 3) rfl
  unfold Ctape at h ⊢
  rw [r2, r101, s1_1, s1_2, s1_3, s100_1, s100_2, s100_3]
  exact h
def Pform : Nat → Nat → Bool := pin [4, 6, 7, 8, 9, 102] [(3, 5)]
theorem Cform_eqp (e : eqp Pform σ τ) (h : Cform σ) : Cform τ := by
  have r4 := eqp_row e (k := 4) rfl
  have r6 := eqp_row e (k := 6) rfl
  have r7 := eqp_row e (k := 7) rfl
  have r8 := eqp_row e (k := 8) rfl
  have r9 := eqp_row e (k := 9) rfl
  have r102 := eqp_row e (k := 102) rfl
  have s3_5 := eqp_sl e (k := 3) (j := 5) rfl
  unfold Cform at h ⊢
  rw [r4, r6, r7, r8, r9, r102, s3_5]
  exact h
def Pwant : Nat → Nat → Bool := pin [11, 118, 119] [(10, 2), (10, 3), (100, 35), (100, 37)]
theorem Cwant_eqp (e : eqp Pwant σ τ) (h : Cwant σ) : Cwant τ := by
  have r11 := eqp_row e (k := 11) rfl
  have r118 := eqp_row e (k := 118) rfl
  have r119 := eqp_row e (k := 119) rfl
  have s10_2 := eqp_sl e (k := 10) (j := 2) rfl
  have s10_3 := eqp_sl e (k := 10) (j := 3) rfl
  have s100_35 := eqp_sl e (k := 100) (j := 35) rfl
  have s100_37 := eqp_sl e (k := 100) (j := 37) rfl
  unfold Cwant at h ⊢
  rw [r11, r118, r119, s10_2, s10_3, s100_35, s100_37]
  exact h
def Prow : Nat → Nat → Bool := pin [24, 25, 107, 110] [(23, 0), (100, 16)]
theorem Crow_eqp (e : eqp Prow σ τ) (h : Crow σ) : Crow τ := by
  have r24 := eqp_row e (k := 24) rfl
  have r25 := eqp_row e (k := 25) rfl
  have r107 := eqp_row e (k := 107) rfl
  have r110 := eqp_row e (k := 110) rfl
  have s23_0 := eqp_sl e (k := 23) (j := 0) rfl
  have s100_16 := eqp_sl e (k := 100) (j := 16) rfl
  unfold Crow at h ⊢
  rw [r24, r25, r107, r110, s23_0, s100_16]
  exact h
def Pgoal : Nat → Nat → Bool := pin [27, 28, 108, 111] [(26, 0), (100, 17)]
theorem Cgoal_eqp (e : eqp Pgoal σ τ) (h : Cgoal σ) : Cgoal τ := by
  have r27 := eqp_row e (k := 27) rfl
  have r28 := eqp_row e (k := 28) rfl
  have r108 := eqp_row e (k := 108) rfl
  have r111 := eqp_row e (k := 111) rfl
  have s26_0 := eqp_sl e (k := 26) (j := 0) rfl
  have s100_17 := eqp_sl e (k := 100) (j := 17) rfl
  unfold Cgoal at h ⊢
  rw [r27, r28, r108, r111, s26_0, s100_17]
  exact h
def Pbox : Nat → Nat → Bool := pin [33, 34, 36, 37, 39, 40, 140, 141, 142] [(32, 0), (35, 0), (38, 0)]
theorem Cbox_eqp (e : eqp Pbox σ τ) (h : Cbox σ) : Cbox τ := by
  have r33 := eqp_row e (k := 33) rfl
  have r34 := eqp_row e (k := 34) rfl
  have r36 := eqp_row e (k := 36) rfl
  have r37 := eqp_row e (k := 37) rfl
  have r39 := eqp_row e (k := 39) rfl
  have r40 := eqp_row e (k := 40) rfl
  have r140 := eqp_row e (k := 140) rfl
  have r141 := eqp_row e (k := 141) rfl
  have r142 := eqp_row e (k := 142) rfl
  have s32_0 := eqp_sl e (k := 32) (j := 0) rfl
  have s35_0 := eqp_sl e (k := 35) (j := 0) rfl
  have s38_0 := eqp_sl e (k := 38) (j := 0) rfl
  unfold Cbox at h ⊢
  rw [r33, r34, r36, r37, r39, r40, r140, r141, r142, s32_0, s35_0, s38_0]
  exact h
def Psee : Nat → Nat → Bool := pin [42, 43, 44, 45, 46, 132, 133, 134, 135, 136] [(41, 0), (41, 1), (100, 59), (100, 60), (23, 0)]
theorem Csee_eqp (e : eqp Psee σ τ) (h : Csee σ) : Csee τ := by
  have r42 := eqp_row e (k := 42) rfl
  have r43 := eqp_row e (k := 43) rfl
  have r44 := eqp_row e (k := 44) rfl
  have r45 := eqp_row e (k := 45) rfl
  have r46 := eqp_row e (k := 46) rfl
  have r132 := eqp_row e (k := 132) rfl
  have r133 := eqp_row e (k := 133) rfl
  have r134 := eqp_row e (k := 134) rfl
  have r135 := eqp_row e (k := 135) rfl
  have r136 := eqp_row e (k := 136) rfl
  have s41_0 := eqp_sl e (k := 41) (j := 0) rfl
  have s41_1 := eqp_sl e (k := 41) (j := 1) rfl
  have s100_59 := eqp_sl e (k := 100) (j := 59) rfl
  have s100_60 := eqp_sl e (k := 100) (j := 60) rfl
  have s23_0 := eqp_sl e (k := 23) (j := 0) rfl
  unfold Csee at h ⊢
  rw [r42, r43, r44, r45, r46, r132, r133, r134, r135, r136, s41_0, s41_1, s100_59, s100_60, s23_0]
  exact h
def Pact : Nat → Nat → Bool := pin [48, 139, 24] [(47, 1), (47, 2), (100, 69), (100, 70), (23, 0)]
theorem Cact_eqp (e : eqp Pact σ τ) (h : Cact σ) : Cact τ := by
  have r48 := eqp_row e (k := 48) rfl
  have r139 := eqp_row e (k := 139) rfl
  have r24 := eqp_row e (k := 24) rfl
  have s47_1 := eqp_sl e (k := 47) (j := 1) rfl
  have s47_2 := eqp_sl e (k := 47) (j := 2) rfl
  have s100_69 := eqp_sl e (k := 100) (j := 69) rfl
  have s100_70 := eqp_sl e (k := 100) (j := 70) rfl
  have s23_0 := eqp_sl e (k := 23) (j := 0) rfl
  unfold Cact at h ⊢
  rw [r48, r139, r24, s47_1, s47_2, s100_69, s100_70, s23_0]
  exact h
def Pmis : Nat → Nat → Bool := pin [104] [(100, 51)]
theorem Cmis_eqp (e : eqp Pmis σ τ) (h : Cmis σ) : Cmis τ := by
  have r104 := eqp_row e (k := 104) rfl
  have s100_51 := eqp_sl e (k := 100) (j := 51) rfl
  unfold Cmis at h ⊢
  rw [r104, s100_51]
  exact h
def Prd : Nat → Nat → Bool := pin [] [(15, 0), (16, 0), (17, 0), (18, 0), (19, 0), (20, 0), (21, 0), (22, 0), (52, 0), (53, 0), (54, 0), (55, 0), (56, 0), (57, 0), (58, 0), (59, 0), (73, 0), (74, 0), (75, 0), (76, 0), (77, 0), (78, 0), (79, 0), (80, 0)]
theorem Crd_eqp (e : eqp Prd σ τ) (h : Crd σ) : Crd τ := by
  intro j hj
  obtain ⟨a, b, c⟩ := h j hj
  have t : ∀ j, j < 8 → Prd (15 + j) 0 = true ∧ Prd (52 + j) 0 = true ∧ Prd (73 + j) 0 = true := by decide
  obtain ⟨t1, t2, t3⟩ := t j hj
  rw [e _ 0 t1, e _ 0 t2, e _ 0 t3]
  exact ⟨a, b, c⟩
/-- what the found lists rest on; what was found by the net -/
def PL : Nat → Nat → Bool := pin [49, 50, 66, 67, 68, 69, 102, 107, 110, 118, 119, 132, 133, 134, 135, 136] [(100, 16), (100, 35), (100, 59)]
def PN : Nat → Nat → Bool := pin [70, 93, 94, 102, 107, 108, 110, 111] [(100, 16), (100, 17)]
def ForgL (σ : xM) : Prop := σ 49 3 = -1 ∧ σ 49 7 = 0
def ForgN (σ : xM) : Prop := σ 70 6 = 0 ∧ σ 70 9 = -1
def Post (σ τ : xM) : Prop := Core τ ∧ (eqp PL σ τ ∨ ForgL τ) ∧ (eqp PN σ τ ∨ ForgN τ)
/-- a call on either side, with one answer -/
def Pair (X : Nat × (Nat → Int)) (mx mm : Nat) (Lx Lm : List (Option xV)) (σ : xM) (Q : xM → Prop) : Prop := ∃ r σ1 σ2, (∀ d, Ev X (d + 100) mx 0 Lx [] SH σ = some (some (vi r), SH, σ1)) ∧ (∀ d, Ev X (d + 100) mm 0 Lm [] SH σ1 = some (some (vi r), SH, σ2)) ∧ Q σ2
/-- a query: nothing that lasts was changed -/
def Pall (k j : Nat) : Bool := ess k j || (PL k j || PN k j)
theorem Post_q (h : Core σ) (e : eqp Pall σ τ) : Post σ τ := by
  refine ⟨Core_eqv (fun k j g => e k j ?_) h, Or.inl (fun k j g => e k j ?_), Or.inl (fun k j g => e k j ?_)⟩
  · unfold Pall; rw [g]; rfl
  · unfold Pall; rw [g]; simp
  · unfold Pall; rw [g]; simp
end EQP
