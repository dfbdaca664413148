/-! Reading: a sign more -/
/-- what a sign makes of what was read -/
def rdS (r : Nat → Int) (c : Int) : Nat → Int := fun j => match j with
  | 0 => if c = 61 then 1 else r 0
  | 1 => if c = 61 then xadd (r 2) (clT r) else r 1
  | 2 => if c = 61 then 0 else if c = 42 ∨ c = 47 then r 2 else xadd (r 2) (clT r)
  | 3 => if c = 42 ∨ c = 47 then clT r else 0
  | 4 => if c = 61 then 43 else c
  | 5 => 0
  | 6 => 0
  | _ => lsT r
theorem wr8 {σ τ : xM} {k i : Nat} {v : Nat → Int} {v1 v2 v3 v4 v5 v6 v7 v8 : Int} (h : τ = xwr (xwr (xwr (xwr (xwr (xwr (xwr (xwr σ (k + 1) i v1) (k + 2) i v2) (k + 3) i v3) (k + 4) i v4) (k + 5) i v5) (k + 6) i v6) (k + 7) i v7) (k + 8) i v8) (h1 : v1 = v 0) (h2 : v2 = v 1) (h3 : v3 = v 2) (h4 : v4 = v 3) (h5 : v5 = v 4) (h6 : v6 = v 5) (h7 : v7 = v 6) (h8 : v8 = v 7) : τ = setRd σ k i v := by
  subst h h1 h2 h3 h4 h5 h6 h7 h8
  funext a b
  unfold setRd
  by_cases hb : b = i
  · subst hb
    by_cases ha : k + 1 ≤ a ∧ a ≤ k + 8
    · rw [if_pos ⟨ha.1, ha.2, rfl⟩]
      obtain ⟨j, hj, rfl⟩ : ∃ j, j < 8 ∧ a = k + 1 + j := ⟨a - (k + 1), by omega, by omega⟩
      rw [show k + 1 + j - (k + 1) = j by omega]
      have hj8 : j = 0 ∨ j = 1 ∨ j = 2 ∨ j = 3 ∨ j = 4 ∨ j = 5 ∨ j = 6 ∨ j = 7 := by omega
      rcases hj8 with rfl | rfl | rfl | rfl | rfl | rfl | rfl | rfl <;> simp [xwr]
    · rw [if_neg (fun z => ha ⟨z.1, z.2.1⟩)]
      rw [xwr_nk (by omega), xwr_nk (by omega), xwr_nk (by omega), xwr_nk (by omega), xwr_nk (by omega), xwr_nk (by omega), xwr_nk (by omega), xwr_nk (by omega)]
  · rw [if_neg (fun z => hb z.2.2)]
    rw [xwr_nj hb, xwr_nj hb, xwr_nj hb, xwr_nj hb, xwr_nj hb, xwr_nj hb, xwr_nj hb, xwr_nj hb]
section SGN
variable {X : Nat × (Nat → Int)} {d k : Nat} {σ : xM} {a1 a2 : Int}
theorem s124z (hk : isRdg k) (h0 : 0 ≤ a1) (h1 : a1 < 11) (hd : σ (k + 7) a1.toNat = 0) : Ev X d 124 0 [some (vr k), some (vi a1), some (vi a2), none, none, none, none] [] SH σ = some (some (vi 0), SH, σ) := by
  refine Eq.trans b124_0 ?_
  refine x_if (fun c => ?_) (fun c => ?_)
  · rw [b124_10, b124_11 hk (by omega), if_pos hd, b124_35]
  · rw [b124_6, b124_11 hk (by omega), if_pos hd, b124_35]
theorem s124p (hk : isRdg k) (h0 : 0 ≤ a1) (h1 : a1 < 11) (h2 : a2 = 61) (hp : σ (k + 1) a1.toNat = 1) : Ev X d 124 0 [some (vr k), some (vi a1), some (vi a2), none, none, none, none] [] SH σ = some (some (vi 0), SH, σ) := by
  by_cases hd : σ (k + 7) a1.toNat = 0
  · exact s124z hk h0 h1 hd
  · rw [b124_0, if_neg (fun z => z h2), b124_6, b124_11 hk (by omega), if_neg hd, b124_21, if_neg (by decide), b124_25 hk (by omega), if_neg (fun z => z hp), b124_35]
theorem Rd_nj {q i j : Nat} {v : Int} (h : i ≠ j) : Rd (xwr σ q j v) k i = Rd σ k i := by
  funext x
  unfold Rd
  exact xwr_nj h
/-- from the call of closedTerm on, for the equals sign -/
theorem s124q (hk : isRdg k) (h0 : 0 ≤ a1) (h1 : a1 < 11) (hd : σ (k + 7) a1.toNat ≠ 0) (h2 : a2 = 61) (hp : σ (k + 1) a1.toNat ≠ 1) : Ev X (d + 1) 124 0 [some (vr k), some (vi a1), some (vi a2), none, none, none, none] [] SH σ = some (some (vi 1), SH, setRd σ k (a1.toNat + 1) (rdS (Rd σ k a1.toNat) a2)) := by
  have e : (xadd a1 1).toNat = a1.toNat + 1 := by
    rw [xadd_eq (by omega) (by omega)]
    omega
  have g : 0 ≤ xadd a1 1 ∧ xadd a1 1 < 12 := by
    rw [xadd_eq (by omega) (by omega)]
    omega
  have g2 : 0 ≤ a1 ∧ a1 < 12 := by omega
  have ne : a1.toNat ≠ a1.toNat + 1 := by omega
  rw [b124_0, if_neg (fun z => z h2), b124_6, b124_11 hk g2, if_neg hd, b124_21, if_neg (by decide), b124_25 hk g2, if_pos hp, b124_37, if_neg (by omega), b124_43, if_pos (by omega), b124_53]
  refine Eq.trans (b124_54 hk) ?_
  refine x_bind (s125 hk h0 (by omega)) ?_
  dsimp only
  refine Eq.trans b124_61 ?_
  rw [if_pos rfl, b124_77 hk g2, b124_86 hk, if_neg (by decide), b124_99, b124_109 hk g, if_neg (by decide), b124_121, b124_132 hk g, if_neg (by decide), b124_144, b124_150 hk g, if_pos rfl, b124_168, b124_169 hk g, if_neg (by decide), b124_181]
  refine Eq.trans (b124_187 hk g g) ?_
  refine x_bind (s126' hk h0 (by omega)) ?_
  dsimp only
  refine Eq.trans (b124_218 hk g) ?_
  rw [e]
  congr 3
  refine wr8 rfl ?_ ?_ ?_ ?_ ?_ ?_ ?_ ?_
  all_goals first | (simp [rdS, h2, Rd_nj ne]; done) | (simp [rdS, h2, Rd_nj ne]; rfl)
/-- plus or minus -/
theorem s124a (hk : isRdg k) (h0 : 0 ≤ a1) (h1 : a1 < 11) (hd : σ (k + 7) a1.toNat ≠ 0) (h2 : a2 ≠ 61) (h3 : a2 ≠ 42) (h4 : a2 ≠ 47) : Ev X (d + 1) 124 0 [some (vr k), some (vi a1), some (vi a2), none, none, none, none] [] SH σ = some (some (vi 1), SH, setRd σ k (a1.toNat + 1) (rdS (Rd σ k a1.toNat) a2)) := by
  have e : (xadd a1 1).toNat = a1.toNat + 1 := by
    rw [xadd_eq (by omega) (by omega)]
    omega
  have g : 0 ≤ xadd a1 1 ∧ xadd a1 1 < 12 := by
    rw [xadd_eq (by omega) (by omega)]
    omega
  have g2 : 0 ≤ a1 ∧ a1 < 12 := by omega
  have ne : a1.toNat ≠ a1.toNat + 1 := by omega
  rw [b124_0, if_pos h2, b124_10, b124_11 hk g2, if_neg hd, b124_21, if_pos rfl, b124_37, if_neg h3, b124_43, if_pos h4, b124_53]
  refine Eq.trans (b124_54 hk) ?_
  refine x_bind (s125 hk h0 (by omega)) ?_
  dsimp only
  refine Eq.trans b124_61 ?_
  rw [if_pos rfl, b124_77 hk g2, b124_86 hk, if_pos rfl, b124_103 hk g2, b124_109 hk g, if_pos rfl, b124_126 hk g2, b124_132 hk g, if_pos rfl, b124_148, b124_150 hk g, if_pos rfl, b124_168, b124_169 hk g, if_pos rfl, b124_186]
  refine Eq.trans (b124_187 hk g g) ?_
  refine x_bind (s126' hk h0 (by omega)) ?_
  dsimp only
  refine Eq.trans (b124_218 hk g) ?_
  rw [e]
  congr 3
  refine wr8 rfl ?_ ?_ ?_ ?_ ?_ ?_ ?_ ?_
  all_goals first | (simp [rdS, h2, h3, h4, Rd_nj ne]; done) | (simp [rdS, h2, h3, h4, Rd_nj ne]; rfl) | (simp [rdS, h2, h3, h4, xwr, ne]; done) | (simp [rdS, h2, h3, h4, xwr, ne]; rfl)
/-- times, by -/
theorem s124m (hk : isRdg k) (h0 : 0 ≤ a1) (h1 : a1 < 11) (hd : σ (k + 7) a1.toNat ≠ 0) (h2 : a2 = 42 ∨ a2 = 47) : Ev X (d + 1) 124 0 [some (vr k), some (vi a1), some (vi a2), none, none, none, none] [] SH σ = some (some (vi 1), SH, setRd σ k (a1.toNat + 1) (rdS (Rd σ k a1.toNat) a2)) := by
  have e : (xadd a1 1).toNat = a1.toNat + 1 := by
    rw [xadd_eq (by omega) (by omega)]
    omega
  have g : 0 ≤ xadd a1 1 ∧ xadd a1 1 < 12 := by
    rw [xadd_eq (by omega) (by omega)]
    omega
  have g2 : 0 ≤ a1 ∧ a1 < 12 := by omega
  have ne : a1.toNat ≠ a1.toNat + 1 := by omega
  have h5 : a2 ≠ 61 := by omega
  have q : Ev X (d + 1) 124 37 [some (vr k), some (vi a1), some (vi a2), some (vi 0), xkill none, none, none] [] SH σ = Ev X (d + 1) 124 54 [some (vr k), some (vi a1), some (vi a2), some (vi 0), xkill none, none, none] [vi 1] SH σ := by
    rcases h2 with h2 | h2
    · rw [b124_37, if_pos h2, b124_49]
    · rw [b124_37, if_neg (by omega), b124_43, if_neg (fun z => z h2), b124_49]
  rw [b124_0, if_pos h5, b124_10, b124_11 hk g2, if_neg hd, b124_21, if_pos rfl]
  refine Eq.trans q ?_
  refine Eq.trans (b124_54 hk) ?_
  refine x_bind (s125 hk h0 (by omega)) ?_
  dsimp only
  refine Eq.trans b124_61 ?_
  rw [if_neg (by decide), b124_68 hk g2, b124_86 hk, if_pos rfl, b124_103 hk g2, b124_109 hk g, if_pos rfl, b124_126 hk g2, b124_132 hk g, if_pos rfl, b124_148, b124_150 hk g, if_neg (by decide), b124_163, b124_169 hk g, if_pos rfl, b124_186]
  refine Eq.trans (b124_187 hk g g) ?_
  refine x_bind (s126' hk h0 (by omega)) ?_
  dsimp only
  refine Eq.trans (b124_218 hk g) ?_
  rw [e]
  congr 3
  refine wr8 rfl ?_ ?_ ?_ ?_ ?_ ?_ ?_ ?_
  all_goals first | (simp [rdS, h2, h5, Rd_nj ne]; done) | (simp [rdS, h2, h5, Rd_nj ne]; rfl) | (simp [rdS, h2, h5, xwr, ne]; done) | (simp [rdS, h2, h5, xwr, ne]; rfl)
end SGN
