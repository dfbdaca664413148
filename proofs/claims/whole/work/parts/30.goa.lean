/-! Reading.goOn as one step on eight numbers -/
def rdOk (r : Nat → Int) (c : Int) : Bool := if 48 ≤ c ∧ c ≤ 57 then decide (r 6 < 4 ∧ (r 6 ≤ 0 ∨ r 5 ≠ 0)) else decide (r 6 ≠ 0 ∧ (c = 61 → r 0 ≠ 1))
def rdN (r : Nat → Int) (c : Int) : Nat → Int := if 48 ≤ c ∧ c ≤ 57 then rdD r (xsub c 48) else rdS r c
section GOA
variable {X : Nat × (Nat → Int)} {d k : Nat} {σ : xM} {a1 a2 : Int}
theorem f164_dig (h : 48 ≤ a2 ∧ a2 ≤ 57) : f164 σ a2 ≠ 0 := by
  unfold f164
  repeat' split
  all_goals omega
theorem f164_ndig (h : ¬ (48 ≤ a2 ∧ a2 ≤ 57)) : f164 σ a2 = 0 := by
  unfold f164
  repeat' split
  all_goals omega
theorem g123_no (hf : f123 σ k a1 a2 = 0) : g123 σ k a1 a2 = σ := by
  unfold f123 at hf
  unfold g123
  split at hf
  · rename_i c
    rw [if_pos c]
  · rename_i c
    rw [if_neg c]
    split at hf
    · cases hf
    · rename_i c2
      rw [if_neg c2]
      split at hf
      · cases hf
      · rename_i c3
        rw [if_neg c3]
theorem s122y (hk : isRdg k) (h0 : 0 ≤ a1) (h1 : a1 < 11) (ok' : rdOk (Rd σ k a1.toNat) a2 = true) : Ev X (d + 2) 122 0 [some (vr k), some (vi a1), some (vi a2)] [] SH σ = some (some (vi 1), SH, setRd σ k (a1.toNat + 1) (rdN (Rd σ k a1.toNat) a2)) := by
  unfold rdOk at ok'
  unfold rdN
  by_cases c : 48 ≤ a2 ∧ a2 ≤ 57
  · rw [if_pos c] at ok'
    have ok := of_decide_eq_true ok'
    rw [if_pos c]
    refine s122d hk h0 h1 (f164_dig c) ?_
    have o1 : σ (k + 7) a1.toNat < 4 := ok.1
    have o2 : σ (k + 7) a1.toNat ≤ 0 ∨ σ (k + 6) a1.toNat ≠ 0 := ok.2
    unfold f123
    rw [if_neg (by omega)]
    split
    · rfl
    · rw [if_pos (by omega)]
  · rw [if_neg c] at ok'
    have ok := of_decide_eq_true ok'
    rw [if_neg c]
    have o1 : σ (k + 7) a1.toNat ≠ 0 := ok.1
    have o2 : a2 = 61 → σ (k + 1) a1.toNat ≠ 1 := ok.2
    refine s122s hk h0 h1 (f164_ndig c) (Or.inr rfl) ?_
    by_cases e : a2 = 61
    · exact s124q hk h0 h1 o1 e (o2 e)
    · by_cases f : a2 = 42 ∨ a2 = 47
      · exact s124m hk h0 h1 o1 f
      · exact s124a hk h0 h1 o1 e (by omega) (by omega)
theorem s122n (hk : isRdg k) (h0 : 0 ≤ a1) (h1 : a1 < 11) (ok' : rdOk (Rd σ k a1.toNat) a2 = false) : Ev X (d + 2) 122 0 [some (vr k), some (vi a1), some (vi a2)] [] SH σ = some (some (vi 0), SH, σ) := by
  unfold rdOk at ok'
  by_cases c : 48 ≤ a2 ∧ a2 ≤ 57
  · rw [if_pos c] at ok'
    have ok := of_decide_eq_false ok'
    have o : ¬ (σ (k + 7) a1.toNat < 4 ∧ (σ (k + 7) a1.toNat ≤ 0 ∨ σ (k + 6) a1.toNat ≠ 0)) := ok
    have hf : f123 σ k a1 (xsub a2 48) = 0 := by
      unfold f123
      repeat' split
      all_goals omega
    have := s122r (X := X) (d := d + 1) hk h0 h1 (f164_dig (σ := σ) c) hf
    rw [g123_no hf] at this
    exact this
  · rw [if_neg c] at ok'
    have ok := of_decide_eq_false ok'
    have o : ¬ (σ (k + 7) a1.toNat ≠ 0 ∧ (a2 = 61 → σ (k + 1) a1.toNat ≠ 1)) := ok
    refine s122s hk h0 h1 (f164_ndig c) (Or.inl rfl) ?_
    by_cases e : σ (k + 7) a1.toNat = 0
    · exact s124z hk h0 h1 e
    · refine s124p hk h0 h1 ?_ ?_
      · exact Classical.byContradiction (fun z => o ⟨e, fun y => absurd y z⟩)
      · exact Classical.byContradiction (fun z => o ⟨e, fun _ => z⟩)
end GOA
