section RDL
variable {X : Nat × (Nat → Int)} {d k k1 n : Nat} {σ : xM} {o4 : Option xV} {r r' : Nat → Int} {cs : Nat → Int} {c : Int}
theorem rdOk_congr (h : ∀ j, j < 8 → r j = r' j) : rdOk r c = rdOk r' c := by
  unfold rdOk
  rw [h 0 (by omega), h 5 (by omega), h 6 (by omega)]
theorem clT_congr (h : ∀ j, j < 8 → r j = r' j) : clT r = clT r' := by
  unfold clT
  rw [h 3 (by omega), h 4 (by omega), h 5 (by omega)]
theorem lsT_congr (h : ∀ j, j < 8 → r j = r' j) : lsT r = lsT r' := by
  unfold lsT
  rw [h 0 (by omega), h 4 (by omega), h 5 (by omega), h 7 (by omega)]
theorem rdN_congr (h : ∀ j, j < 8 → r j = r' j) : ∀ j, j < 8 → rdN r c j = rdN r' c j := by
  intro j hj
  unfold rdN
  have e0 := h 0 (by omega)
  have e1 := h 1 (by omega)
  have e2 := h 2 (by omega)
  have e3 := h 3 (by omega)
  have e4 := h 4 (by omega)
  have e5 := h 5 (by omega)
  have e6 := h 6 (by omega)
  have e7 := h 7 (by omega)
  have hj8 : j = 0 ∨ j = 1 ∨ j = 2 ∨ j = 3 ∨ j = 4 ∨ j = 5 ∨ j = 6 ∨ j = 7 := by omega
  split
  · rcases hj8 with rfl | rfl | rfl | rfl | rfl | rfl | rfl | rfl <;> simp only [rdD, e0, e1, e2, e3, e4, e5, e6, e7]
  · rcases hj8 with rfl | rfl | rfl | rfl | rfl | rfl | rfl | rfl <;> simp only [rdS, e0, e1, e2, e3, e4, e5, e6, e7, clT_congr h, lsT_congr h]
theorem setRd_congr {i : Nat} (h : ∀ j, j < 8 → r j = r' j) : setRd σ k i r = setRd σ k i r' := by
  funext a b
  unfold setRd
  split
  · rename_i z
    exact h _ (by omega)
  · rfl
/-- one symbol, at a memory that holds the places before -/
theorem s128_step {m : Nat} (hk : isRdg k) (hm : m < 11) (h0 : r = Rd σ k 0) (ok : rdOk (rdSt r cs m) (cs m) = true) : Ev X (d + 2) 122 0 [some (vr k), some (vi m), some (vi (cs m))] [] SH (setRds σ k m (rdSt r cs)) = some (some (vi 1), SH, setRds σ k (m + 1) (rdSt r cs)) := by
  have e : ∀ j, j < 8 → Rd (setRds σ k m (rdSt r cs)) k m j = rdSt r cs m j := fun j hj => Rd_setRds hj h0
  have w := s122y (X := X) (d := d) (σ := setRds σ k m (rdSt r cs)) (a1 := (m : Int)) (a2 := cs m) hk (by omega) (by omega) (by rw [show ((m : Int)).toNat = m from rfl, rdOk_congr e]; exact ok)
  rw [show ((m : Int)).toNat = m from rfl, setRd_congr (rdN_congr e)] at w
  refine Eq.trans w ?_
  rw [← setRds_succ]
  rfl
theorem s128_stop {m : Nat} (hk : isRdg k) (hm : m < 11) (h0 : r = Rd σ k 0) (ok : rdOk (rdSt r cs m) (cs m) = false) : Ev X (d + 2) 122 0 [some (vr k), some (vi m), some (vi (cs m))] [] SH (setRds σ k m (rdSt r cs)) = some (some (vi 0), SH, setRds σ k m (rdSt r cs)) := by
  have e : ∀ j, j < 8 → Rd (setRds σ k m (rdSt r cs)) k m j = rdSt r cs m j := fun j hj => Rd_setRds hj h0
  exact s122n (X := X) (d := d) (σ := setRds σ k m (rdSt r cs)) (a1 := (m : Int)) (a2 := cs m) hk (by omega) (by omega) (by rw [show ((m : Int)).toNat = m from rfl, rdOk_congr e]; exact ok)
end RDL
