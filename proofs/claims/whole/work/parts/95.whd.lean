/-! WANTED: the model's hold -/
section WHD
variable {X : Nat × (Nat → Int)} {μ : xM} {h : Nat}
theorem s236x {c : Int} (e : μ 100 38 = (h : Int)) (hh : h < 210) (e9 : 0 ≤ μ 100 39 ∧ μ 100 39 ≤ 1000) : ∃ ν, (∀ d, Ev X d 236 0 [some (vr 100), some (vi c)] [] SH μ = some (none, SH, ν)) ∧ chg [120] [(100, 38), (100, 39)] μ ν ∧ ν 100 38 = ((h + 1 : Nat) : Int) ∧ ν 100 39 = μ 100 39 + (if c = 30 ∨ c = 22 then 1 else 0) ∧ (∀ j, ν 120 j = if j = h then c else μ 120 j) := by
  have xh : xadd (h : Int) 1 = ((h + 1 : Nat) : Int) := xadd_eq (by omega) (by omega)
  have st : ∀ d, Ev X d 236 0 [some (vr 100), some (vi c)] [] SH μ = if c = 30 then Ev X d 236 32 [some (vr 100), some (vi c)] [] SH (xwr (xwr μ 120 h c) 100 38 ((h + 1 : Nat) : Int)) else Ev X d 236 26 [some (vr 100), some (vi c)] [] SH (xwr (xwr μ 120 h c) 100 38 ((h + 1 : Nat) : Int)) := by
    intro d
    rw [b236_0 (by omega), e, xh, Int.toNat_natCast]
  by_cases z : c = 30 ∨ c = 22
  · have x9 : xadd ((xwr (xwr μ 120 h c) 100 38 ((h + 1 : Nat) : Int)) 100 39) 1 = μ 100 39 + 1 := by
      rw [xwr_nj (by decide), xwr_nk (by decide), xadd_eq (by omega) (by omega)]
    refine ⟨xwr (xwr (xwr μ 120 h c) 100 38 ((h + 1 : Nat) : Int)) 100 39 (μ 100 39 + 1), fun d => ?_, chg_wr rfl (chg_wr rfl (chg_wr rfl chg_rf)), ?_, ?_, fun j => ?_⟩
    · rw [st]
      by_cases y : c = 30
      · rw [if_pos y, b236_32, x9, b236_42]
      · rw [if_neg y, b236_26, if_neg (by omega), b236_32, x9, b236_42]
    · rw [xwr_nj (by decide), xwr_eq]
    · rw [xwr_eq, if_pos z]
    · rw [xwr_row (by decide), xwr_row (by decide), xwr_rw]
  · refine ⟨xwr (xwr μ 120 h c) 100 38 ((h + 1 : Nat) : Int), fun d => ?_, chg_wr rfl (chg_wr rfl chg_rf), xwr_eq, ?_, fun j => ?_⟩
    · rw [st, if_neg (by omega), b236_26, if_pos (by omega), b236_42]
    · rw [xwr_nj (by decide), xwr_nk (by decide), if_neg z]
      omega
    · rw [xwr_row (by decide), xwr_rw]
end WHD
