/-! what was changed, as a list of cells and slots; the readings' scratch beside it -/
def okc (CA : List Nat) (CS : List (Nat × Nat)) (A : List Nat) (S : List (Nat × Nat)) : Bool := A.all (fun a => !CA.contains a && (CS.all (fun s => !(s.1 == a)) && !rdC a)) && S.all (fun s => !CA.contains s.1 && (!CS.contains s && (!rdC s.1 || s.2 == 0)))
def chg (CA : List Nat) (CS : List (Nat × Nat)) (σ τ : xM) : Prop := ∀ k j, pin CA CS k j = false → (rdC k = true → j = 0) → τ k j = σ k j
section CHG
variable {CA A : List Nat} {CS S : List (Nat × Nat)} {σ τ : xM}
theorem eqp_ok (h : okc CA CS A S = true) (e : chg CA CS σ τ) : eqp (pin A S) σ τ := by
  intro k j hk
  unfold okc at h
  rw [Bool.and_eq_true, List.all_eq_true, List.all_eq_true] at h
  obtain ⟨h1, h2⟩ := h
  unfold pin at hk
  rw [Bool.or_eq_true] at hk
  rcases hk with hk | hk
  · have q := h1 k (by simpa using hk)
    simp only [Bool.and_eq_true, Bool.not_eq_true', List.all_eq_true, beq_eq_false_iff_ne] at q
    obtain ⟨q1, q2, q3⟩ := q
    refine e k j ?_ (fun z => by rw [q3] at z; cases z)
    unfold pin
    rw [q1, Bool.false_or]
    rw [Bool.eq_false_iff]
    intro z
    exact q2 (k, j) (by simpa using z) rfl
  · have q := h2 (k, j) (by simpa using hk)
    simp only [Bool.and_eq_true, Bool.not_eq_true', Bool.or_eq_true, beq_iff_eq] at q
    obtain ⟨q1, q2, q3⟩ := q
    refine e k j ?_ (fun z => ?_)
    · unfold pin
      rw [q1, q2]
      rfl
    · rcases q3 with q3 | q3
      · rw [q3] at z; cases z
      · exact q3
theorem chg_rf : chg CA CS σ σ := fun _ _ _ _ => rfl
theorem chg_tr {ρ : xM} (h : chg CA CS σ τ) (g : chg CA CS τ ρ) : chg CA CS σ ρ := fun k j a b => (g k j a b).trans (h k j a b)
theorem chg_wr {k j : Nat} {x : Int} (h : pin CA CS k j = true) (e : chg CA CS σ τ) : chg CA CS σ (xwr τ k j x) := by
  intro a b h1 h2
  rw [← e a b h1 h2]
  refine if_neg (fun z => ?_)
  rw [z.1, z.2, h] at h1
  cases h1
theorem chg_xr {k : Nat} {f : Nat → Int} (h : CA.contains k = true) (e : chg CA CS σ τ) : chg CA CS σ (xrow τ k f) := by
  intro a b h1 h2
  rw [← e a b h1 h2]
  refine if_neg (fun z => ?_)
  unfold pin at h1
  rw [z, h] at h1
  cases h1
theorem chg_row (h : chg CA CS σ τ) {k : Nat} (h1 : ∀ j, pin CA CS k j = false) (h2 : rdC k = false) : τ k = σ k := funext (fun j => h k j (h1 j) (fun z => by rw [h2] at z; cases z))
theorem chg_rds {k m : Nat} {st : Nat → Nat → Int} (hk : isRdg k) (e : chg CA CS σ τ) : chg CA CS σ (setRds τ k m st) := by
  intro a b h1 h2
  rw [← e a b h1 h2]
  unfold setRds
  refine if_neg (fun z => ?_)
  have := rdg_rg hk
  have t : rdC a = true := by
    unfold rdC
    simp only [Bool.or_eq_true, Bool.and_eq_true, Nat.ble_eq]
    omega
  have := h2 t
  omega
theorem Core_chg (h : Core σ) (e : chg CA CS σ τ) (c1 : okc CA CS [2, 101] [(1, 1), (1, 2), (1, 3), (100, 1), (100, 2), (100, 3)] = true ∨ Ctape τ) (c2 : okc CA CS [4, 6, 7, 8, 9, 102] [(3, 5)] = true ∨ Cform τ) (c3 : okc CA CS [11, 118, 119] [(10, 2), (10, 3), (100, 35), (100, 37)] = true ∨ Cwant τ) (c4 : okc CA CS [24, 25, 107, 110] [(23, 0), (100, 16)] = true ∨ Crow τ) (c5 : okc CA CS [27, 28, 108, 111] [(26, 0), (100, 17)] = true ∨ Cgoal τ) (c6 : okc CA CS [33, 34, 36, 37, 39, 40, 140, 141, 142] [(32, 0), (35, 0), (38, 0)] = true ∨ Cbox τ) (c7 : okc CA CS [42, 43, 44, 45, 46, 132, 133, 134, 135, 136] [(41, 0), (41, 1), (100, 59), (100, 60), (23, 0)] = true ∨ Csee τ) (c8 : okc CA CS [48, 139, 24] [(47, 1), (47, 2), (100, 69), (100, 70), (23, 0)] = true ∨ Cact τ) (c9 : okc CA CS [] [(15, 0), (16, 0), (17, 0), (18, 0), (19, 0), (20, 0), (21, 0), (22, 0), (52, 0), (53, 0), (54, 0), (55, 0), (56, 0), (57, 0), (58, 0), (59, 0), (73, 0), (74, 0), (75, 0), (76, 0), (77, 0), (78, 0), (79, 0), (80, 0)] = true ∨ Crd τ) (c10 : okc CA CS [104] [(100, 51)] = true ∨ Cmis τ) : Core τ := ⟨c1.elim (fun q => Ctape_eqp (eqp_ok q e) h.1) (fun q => q), c2.elim (fun q => Cform_eqp (eqp_ok q e) h.2.1) (fun q => q), c3.elim (fun q => Cwant_eqp (eqp_ok q e) h.2.2.1) (fun q => q), c4.elim (fun q => Crow_eqp (eqp_ok q e) h.2.2.2.1) (fun q => q), c5.elim (fun q => Cgoal_eqp (eqp_ok q e) h.2.2.2.2.1) (fun q => q), c6.elim (fun q => Cbox_eqp (eqp_ok q e) h.2.2.2.2.2.1) (fun q => q), c7.elim (fun q => Csee_eqp (eqp_ok q e) h.2.2.2.2.2.2.1) (fun q => q), c8.elim (fun q => Cact_eqp (eqp_ok q e) h.2.2.2.2.2.2.2.1) (fun q => q), c9.elim (fun q => Crd_eqp (eqp_ok q e) h.2.2.2.2.2.2.2.2.1) (fun q => q), c10.elim (fun q => Cmis_eqp (eqp_ok q e) h.2.2.2.2.2.2.2.2.2) (fun q => q)⟩
end CHG
