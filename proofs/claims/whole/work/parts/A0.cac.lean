/-! THE LISTS' CACHE -/
def Fall : Nat → Nat → Bool := fun _ _ => true
noncomputable def lgW (w : Nat → Int) (n : Nat) (fg cd : Nat → Int) (len : Nat) (F : Nat → Nat → Bool) (on : Int) : List (Nat → Nat) := (enumF (fun c => (moW w fg c).filter (F c)) n 0 (fun _ => 0)).filter (gdB (GD n nil2 nil2 (syW w fg) (wtB (BW w fg)) 0 on (isum (fun c => if fg c = 0 then 0 else 1) n) cd len 0 0))
def prW (w : Nat → Int) (n : Nat) (fg : Nat → Int) (F : Nat → Nat → Bool) : Nat := nprod (fun c => ((moW w fg c).filter (F c)).length) n
/-- what was seen allows it -/
def alS (σ : xM) (k : Int) (c : Nat) (v : Int) : Prop := ∀ s : Nat, (s : Int) < σ 100 59 → σ 134 s ≤ k → (σ 135 s < 0 ∨ k < σ 135 s) → σ 132 s = (c : Int) → xand (xshr v (σ 133 s)) 1 = σ 136 s
noncomputable def FSn (σ : xM) (k : Int) (c i : Nat) : Bool := @decide (alS σ k c (BW (σ 102) (σ 107) c i)) (Classical.propDecidable _)
def nM (σ : xM) : Nat := (σ 100 16).toNat
def cdM (σ : xM) : Nat → Int := fun i => decS (σ 118 i) (σ 119 i)
noncomputable def LM (σ : xM) (t l : Nat) : List (Nat → Nat) := lmW (σ 102) (nM σ) (σ 107) (σ 110) (cdM σ) (σ 100 35).toNat t l
noncomputable def LG (σ : xM) (F : Nat → Nat → Bool) (on : Int) : List (Nat → Nat) := lgW (σ 102) (nM σ) (σ 107) (cdM σ) (σ 100 35).toNat F on
def REs (σ : xM) (ps : List (Nat → Nat)) : Prop := RES 50 (nM σ) (wtB (BW (σ 102) (σ 107))) ps σ
def SPN (σ : xM) (F : Nat → Nat → Bool) (on : Int) : Prop := (200000 < prW (σ 102) (nM σ) (σ 107) F ∧ σ 49 6 = -2) ∨ (prW (σ 102) (nM σ) (σ 107) F ≤ 200000 ∧ σ 49 6 = ((LG σ F on).length : Int) ∧ REs σ (LG σ F on))
def KNL (σ : xM) : Prop := (σ 49 3 = 0 ∧ ∃ t l : Nat, t ≤ 3 ∧ l ≤ 3 ∧ σ 49 4 = (t : Int) ∧ σ 49 5 = (l : Int) ∧ σ 49 6 = ((LM σ t l).length : Int) ∧ REs σ (LM σ t l)) ∨ (σ 49 3 = 1 ∧ σ 49 5 = 0 ∧ SPN σ Fall (σ 49 4)) ∨ (σ 49 3 = 2 ∧ σ 49 5 = 0 ∧ SPN σ (FSn σ (σ 49 4)) (-1))
def KNS (σ : xM) : Prop := (200000 < prW (σ 102) (nM σ) (σ 107) Fall ∧ σ 49 8 = 1) ∨ (prW (σ 102) (nM σ) (σ 107) Fall ≤ 200000 ∧ σ 49 8 = 0 ∧ ∀ s : Nat, s ≤ 77 → σ 69 s = ((LG σ Fall (-1)).countP (fun p => decide (nsum (fun c => wtB (BW (σ 102) (σ 107)) c (p c)) (nM σ) = s)) : Int))
def CacheL (σ : xM) : Prop := (σ 49 3 = -1 ∨ (0 < σ 100 16 ∧ 0 ≤ σ 50 16 ∧ KNL σ)) ∧ (σ 49 7 = 0 ∨ (0 < σ 100 16 ∧ σ 49 7 = 1 ∧ KNS σ))
section CAC
variable {X : Nat × (Nat → Int)} {σ τ : xM}
theorem CacheL_fg (h : ForgL σ) : CacheL σ := ⟨Or.inl h.1, Or.inl h.2⟩
theorem pl_row (e : eqp PL σ τ) {k : Nat} (hk : k ∈ [49, 50, 66, 67, 68, 69, 102, 107, 110, 118, 119, 132, 133, 134, 135, 136]) : τ k = σ k := funext (fun j => e k j (by
  unfold PL pin
  rw [Bool.or_eq_true]
  exact Or.inl (by simpa using hk)))
theorem CacheL_eqp (e : eqp PL σ τ) (h : CacheL σ) : CacheL τ := by
  have r := fun {k : Nat} (hk : k ∈ [49, 50, 66, 67, 68, 69, 102, 107, 110, 118, 119, 132, 133, 134, 135, 136]) => pl_row e hk
  have e16 : τ 100 16 = σ 100 16 := e 100 16 rfl
  have e35 : τ 100 35 = σ 100 35 := e 100 35 rfl
  have e59 : τ 100 59 = σ 100 59 := e 100 59 rfl
  have eF : ∀ k, FSn τ k = FSn σ k := by
    intro k
    funext c i
    unfold FSn alS
    rw [r (k := 102) (by decide), r (k := 107) (by decide), r (k := 132) (by decide), r (k := 133) (by decide), r (k := 134) (by decide), r (k := 135) (by decide), r (k := 136) (by decide), e59]
  have en : nM τ = nM σ := by unfold nM; rw [e16]
  have ec : cdM τ = cdM σ := by unfold cdM; rw [r (k := 118) (by decide), r (k := 119) (by decide)]
  have eM : ∀ t l, LM τ t l = LM σ t l := by
    intro t l
    unfold LM
    rw [en, ec, e35, r (k := 102) (by decide), r (k := 107) (by decide), r (k := 110) (by decide)]
  have eG : ∀ F on, LG τ F on = LG σ F on := by
    intro F on
    unfold LG
    rw [en, ec, e35, r (k := 102) (by decide), r (k := 107) (by decide)]
  have eR : ∀ ps, REs τ ps ↔ REs σ ps := by
    intro ps
    unfold REs RES
    rw [en, r (k := 102) (by decide), r (k := 107) (by decide), r (k := 50) (by decide), r (k := 50 + 16) (by decide), r (k := 50 + 17) (by decide), r (k := 50 + 18) (by decide)]
  have eS : ∀ F on, SPN τ F on ↔ SPN σ F on := by
    intro F on
    unfold SPN
    rw [en, eG, eR, r (k := 102) (by decide), r (k := 107) (by decide), r (k := 49) (by decide)]
  unfold CacheL KNL KNS at h ⊢
  simp only [eM, eR, eS, eF, eG, en, e16]
  rw [r (k := 49) (by decide), r (k := 50) (by decide), r (k := 69) (by decide), r (k := 102) (by decide), r (k := 107) (by decide)]
  exact h
/-- what walks need, out of what holds between calls -/
theorem WST_of (h : Core σ) (hn : 0 < σ 100 16) : WST σ (nM σ) (σ 24) (σ 25) (σ 11) (σ 100 35).toNat ∧ (∀ c, c < nM σ → σ 107 c = σ 24 c ∧ σ 110 c = σ 25 c) ∧ ∀ i, i < (σ 100 35).toNat → σ 11 i = cdM σ i := by
  obtain ⟨_, ⟨f1, f2, f3, f4⟩, ⟨w1, w2, w3, w4, w5, w6⟩, ⟨r1, r2, r3, r4⟩, _, _, _, _, rd, _⟩ := h
  have hn' : (nM σ : Int) = σ 100 16 := by unfold nM; omega
  refine ⟨⟨f2, f3, by omega, by omega, by omega, rfl, rfl, fun c hc => ?_, fun c hc => ?_, rfl, by omega, by rw [w3]; exact w6, by omega, fun j hj => ?_⟩, fun c hc => ?_, fun i hi => ?_⟩
  · exact (r4 c (by omega)).2.1
  · have := r4 c (by omega)
    exact ⟨this.2.2.2.1, this.2.2.2.2.1⟩
  · exact (rd j hj).2.1
  · have := r4 c (by omega)
    exact ⟨this.1, this.2.2.1⟩
  · exact enc_dec (w5 i (by omega))
theorem RES_cg {k n : Nat} {wt wt' : Nat → Nat → Nat} {ps : List (Nat → Nat)} (h : RES k n wt ps σ) (e : ∀ p, p ∈ ps → ∀ c, c < n → wt c (p c) = wt' c (p c)) : RES k n wt' ps σ := by
  obtain ⟨h1, h2, h3, h4⟩ := h
  refine ⟨h1, h2, fun s hs => ?_, h4⟩
  rw [h3 s hs]
  congr 1
  refine List.countP_congr (fun p hp => ?_)
  rw [nsum_cg (f := fun c => wt c (p c)) (g := fun c => wt' c (p c)) n (fun c hc => e p hp c hc)]
end CAC
