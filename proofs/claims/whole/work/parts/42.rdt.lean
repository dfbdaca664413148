/-! Reading.readText -/
section RDT
variable {X : Nat × (Nat → Int)} {k n : Nat} {σ : xM}
/-- the symbols of a text, by their number -/
def txs (tx : Nat → Int) (n : Nat) : Nat → Int := fun j => (nbL tx n).getD j 0
theorem sfind_sg : ∀ c, c < 256 → (0 ≤ sfind (fun j => ([43, 45, 61, 42, 47] : List Int).getD j 0) (xi2b (xi2c ((c : Nat) : Int))) 0 5 ↔ (c = 43 ∨ c = 45 ∨ c = 61 ∨ c = 42 ∨ c = 47)) := by decide +kernel
theorem xi2c_255 : ∀ c, c < 256 → xi2c ((c : Nat) : Int) = (c : Int) := by decide +kernel
theorem RA_t {r tx : Nat → Int} {i : Nat} (h0 : RA r (0, 0, 0)) (hi : i ≤ n) (hg : ∀ q, q < i → gd tx q = true) : RA (rdSt r (txs tx n) (nbL tx i).length) (auS (nbL tx i)) := by
  induction i with
  | zero => exact h0
  | succ i ih =>
    have ih := ih (by omega) (fun q hq => hg q (by omega))
    have g := hg i (by omega)
    by_cases b : isBl (tx i) = true
    · rw [nbL_bl b]
      exact ih
    · have b : isBl (tx i) = false := by simpa using b
      unfold gd at g
      rw [b] at g
      simp only [Bool.false_or, Bool.and_eq_true] at g
      rw [nbL_nb b, List.length_append, auS_snoc]
      show RA (rdN (rdSt r (txs tx n) (nbL tx i).length) (txs tx n (nbL tx i).length)) _
      rw [show txs tx n (nbL tx i).length = tx i from nbL_get (by omega) b]
      exact RA_N ih g.2.2
end RDT
section RDT2
variable {X : Nat × (Nat → Int)} {k n i m d : Nat} {τ τ' : xM} {o4 : Option xV}
theorem st121b (h1 : τ 1 1 = n) (hi : i < n) (hn : n ≤ 300) (hb : τ 2 i = 32 ∨ τ 2 i = 10) : Ev X (d + 5) 121 8 [some (vr k), some (vr 1), some (vi m), some (vi i), o4] [] SH τ = Ev X (d + 5) 121 8 [some (vr k), some (vr 1), some (vi m), some (vi ((i + 1 : Nat) : Int)), some (vi (τ 2 i))] [] SH τ := by
  rw [b121_8, if_neg (by omega)]
  simp (disch := first | omega | assumption | (simp (disch := omega) only [xadd_eq, xsub_eq, xmul_eq, xneg_eq, xwr_eq, xwr_nk, xwr_nj, Int.toNat_natCast, x_nc, f160, f161] <;> first | omega | assumption) | fail) only [↓if_pos, ↓if_neg, ↓b121_0, ↓b121_4, ↓b121_90, ↓b121_16, ↓b121_95, ↓b121_21, ↓b121_110, ↓b121_98, ↓b121_28, ↓b121_107, ↓b121_34, ↓b121_31, ↓b121_39, ↓b121_84, ↓b121_62, ↓b121_42, ↓b121_69, ↓b121_50, ↓b121_81, ↓b121_72, ↓b121_53, ↓b121_78, ↓b121_59, ↓s160, ↓s161, f160, x_bdi, x_bdn, xadd_eq, xsub_eq, xmul_eq, xneg_eq, xwr_eq, xwr_nk, xwr_nj, Int.toNat_natCast, x_nc]
theorem x45' : xca X (15 + 30) = some (3, 5, fun j => ([43, 45, 61, 42, 47] : List Int).getD j 0) := rfl
theorem s305s {c : Int} (h0 : 0 ≤ c) (h1 : c ≤ 255) : Ev X (d + 3) 305 0 [some (vc 15), some (vi (xi2c c))] [] SH τ = some (some (vi (sfind (fun j => ([43, 45, 61, 42, 47] : List Int).getD j 0) (xi2b (xi2c c)) 0 5)), SH, τ) := by
  have e : xi2c c = c := by
    have := xi2c_255 c.toNat (by omega)
    rw [Int.toNat_of_nonneg h0] at this
    exact this
  rw [e]
  exact s305 (by decide) x45' (by decide) h0 h1
theorem sfind_s {c : Int} (h0 : 0 ≤ c) (h1 : c ≤ 255) : 0 ≤ sfind (fun j => ([43, 45, 61, 42, 47] : List Int).getD j 0) (xi2b (xi2c c)) 0 5 ↔ (c = 43 ∨ c = 45 ∨ c = 61 ∨ c = 42 ∨ c = 47) := by
  have := sfind_sg c.toNat (by omega)
  rw [Int.toNat_of_nonneg h0] at this
  rw [this]
  omega
theorem st121y (hk : isRdg k) (h1 : τ 1 1 = n) (hi : i < n) (hn : n ≤ 300) (hb : ¬ (τ 2 i = 32 ∨ τ 2 i = 10)) (h0 : 0 ≤ τ 2 i ∧ τ 2 i ≤ 255) (hs : isSy (τ 2 i) = true) (e : Ev X (d + 4) 122 0 [some (vr k), some (vi m), some (vi (τ 2 i))] [] SH τ = some (some (vi 1), SH, τ')) (hm : m ≤ 20) : Ev X (d + 5) 121 8 [some (vr k), some (vr 1), some (vi m), some (vi i), o4] [] SH τ = Ev X (d + 5) 121 8 [some (vr k), some (vr 1), some (vi ((m + 1 : Nat) : Int)), some (vi ((i + 1 : Nat) : Int)), some (vi (τ 2 i))] [] SH τ' := by
  have hs := of_decide_eq_true hs
  have q := sfind_s h0.1 h0.2
  have q2 := s305s (X := X) (d := d + 1) (τ := τ) h0.1 h0.2
  generalize sfind (fun j => ([43, 45, 61, 42, 47] : List Int).getD j 0) (xi2b (xi2c (τ 2 i))) 0 5 = z at q q2
  rw [b121_8, if_neg (by omega)]
  by_cases dg : 48 ≤ τ 2 i ∧ τ 2 i ≤ 57
  · simp (disch := first | omega | assumption | (simp (disch := omega) only [xadd_eq, xsub_eq, xmul_eq, xneg_eq, xwr_eq, xwr_nk, xwr_nj, Int.toNat_natCast, x_nc, f160, f161, f164] <;> first | omega | assumption) | fail) only [↓if_pos, ↓if_neg, ↓b121_0, ↓b121_4, ↓b121_90, ↓b121_16, ↓b121_95, ↓b121_21, ↓b121_110, ↓b121_98, ↓b121_28, ↓b121_107, ↓b121_34, ↓b121_31, ↓b121_39, ↓b121_84, ↓b121_62, ↓b121_42, ↓b121_69, ↓b121_50, ↓b121_81, ↓b121_72, ↓b121_53, ↓b121_78, ↓b121_59, ↓s160, ↓s161, ↓s164, f160, ↓e, x_bdi, x_bdn, xadd_eq, xsub_eq, xmul_eq, xneg_eq, xwr_eq, xwr_nk, xwr_nj, Int.toNat_natCast, x_nc]
  · simp (disch := first | omega | assumption | (simp (disch := omega) only [xadd_eq, xsub_eq, xmul_eq, xneg_eq, xwr_eq, xwr_nk, xwr_nj, Int.toNat_natCast, x_nc, f160, f161, f164] <;> first | omega | assumption) | fail) only [↓if_pos, ↓if_neg, ↓b121_0, ↓b121_4, ↓b121_90, ↓b121_16, ↓b121_95, ↓b121_21, ↓b121_110, ↓b121_98, ↓b121_28, ↓b121_107, ↓b121_34, ↓b121_31, ↓b121_39, ↓b121_84, ↓b121_62, ↓b121_42, ↓b121_69, ↓b121_50, ↓b121_81, ↓b121_72, ↓b121_53, ↓b121_78, ↓b121_59, ↓s160, ↓s161, ↓s164, f160, ↓e, ↓q2, x_bdi, x_bdn, xadd_eq, xsub_eq, xmul_eq, xneg_eq, xwr_eq, xwr_nk, xwr_nj, Int.toNat_natCast, x_nc]
theorem st121n (hk : isRdg k) (h1 : τ 1 1 = n) (hi : i < n) (hn : n ≤ 300) (hb : ¬ (τ 2 i = 32 ∨ τ 2 i = 10)) (h0 : 0 ≤ τ 2 i ∧ τ 2 i ≤ 255) (hs : isSy (τ 2 i) = true) (e : Ev X (d + 4) 122 0 [some (vr k), some (vi m), some (vi (τ 2 i))] [] SH τ = some (some (vi 0), SH, τ)) : Ev X (d + 5) 121 8 [some (vr k), some (vr 1), some (vi m), some (vi i), o4] [] SH τ = some (some (vi (-1)), SH, g169 τ 2 i) := by
  have hs := of_decide_eq_true hs
  have q := sfind_s h0.1 h0.2
  have q2 := s305s (X := X) (d := d + 1) (τ := τ) h0.1 h0.2
  generalize sfind (fun j => ([43, 45, 61, 42, 47] : List Int).getD j 0) (xi2b (xi2c (τ 2 i))) 0 5 = z at q q2
  rw [b121_8, if_neg (by omega)]
  by_cases dg : 48 ≤ τ 2 i ∧ τ 2 i ≤ 57
  · simp (disch := first | omega | assumption | (simp (disch := omega) only [xadd_eq, xsub_eq, xmul_eq, xneg_eq, xwr_eq, xwr_nk, xwr_nj, Int.toNat_natCast, x_nc, f160, f161, f164] <;> first | omega | assumption) | fail) only [↓if_pos, ↓if_neg, ↓b121_0, ↓b121_4, ↓b121_90, ↓b121_16, ↓b121_95, ↓b121_21, ↓b121_110, ↓b121_98, ↓b121_28, ↓b121_107, ↓b121_34, ↓b121_31, ↓b121_39, ↓b121_84, ↓b121_62, ↓b121_42, ↓b121_69, ↓b121_50, ↓b121_81, ↓b121_72, ↓b121_53, ↓b121_78, ↓b121_59, ↓s160, ↓s161, ↓s164, ↓s169, f160, ↓e, x_bdi, x_bdn, xadd_eq, xsub_eq, xmul_eq, xneg_eq, xwr_eq, xwr_nk, xwr_nj, Int.toNat_natCast, x_nc]
  · simp (disch := first | omega | assumption | (simp (disch := omega) only [xadd_eq, xsub_eq, xmul_eq, xneg_eq, xwr_eq, xwr_nk, xwr_nj, Int.toNat_natCast, x_nc, f160, f161, f164] <;> first | omega | assumption) | fail) only [↓if_pos, ↓if_neg, ↓b121_0, ↓b121_4, ↓b121_90, ↓b121_16, ↓b121_95, ↓b121_21, ↓b121_110, ↓b121_98, ↓b121_28, ↓b121_107, ↓b121_34, ↓b121_31, ↓b121_39, ↓b121_84, ↓b121_62, ↓b121_42, ↓b121_69, ↓b121_50, ↓b121_81, ↓b121_72, ↓b121_53, ↓b121_78, ↓b121_59, ↓s160, ↓s161, ↓s164, ↓s169, f160, ↓e, ↓q2, x_bdi, x_bdn, xadd_eq, xsub_eq, xmul_eq, xneg_eq, xwr_eq, xwr_nk, xwr_nj, Int.toNat_natCast, x_nc]
theorem st121f (hk : isRdg k) (h1 : τ 1 1 = n) (hi : i < n) (hn : n ≤ 300) (hb : ¬ (τ 2 i = 32 ∨ τ 2 i = 10)) (h0 : 0 ≤ τ 2 i ∧ τ 2 i ≤ 255) (hs : isSy (τ 2 i) = false) : Ev X (d + 5) 121 8 [some (vr k), some (vr 1), some (vi m), some (vi i), o4] [] SH τ = some (some (vi (-1)), SH, g169 τ 1 i) := by
  have hs := of_decide_eq_false hs
  have q := sfind_s h0.1 h0.2
  have q2 := s305s (X := X) (d := d + 1) (τ := τ) h0.1 h0.2
  generalize sfind (fun j => ([43, 45, 61, 42, 47] : List Int).getD j 0) (xi2b (xi2c (τ 2 i))) 0 5 = z at q q2
  rw [b121_8, if_neg (by omega)]
  simp (disch := first | omega | assumption | (simp (disch := omega) only [xadd_eq, xsub_eq, xmul_eq, xneg_eq, xwr_eq, xwr_nk, xwr_nj, Int.toNat_natCast, x_nc, f160, f161, f164] <;> first | omega | assumption) | fail) only [↓if_pos, ↓if_neg, ↓b121_0, ↓b121_4, ↓b121_90, ↓b121_16, ↓b121_95, ↓b121_21, ↓b121_110, ↓b121_98, ↓b121_28, ↓b121_107, ↓b121_34, ↓b121_31, ↓b121_39, ↓b121_84, ↓b121_62, ↓b121_42, ↓b121_69, ↓b121_50, ↓b121_81, ↓b121_72, ↓b121_53, ↓b121_78, ↓b121_59, ↓s160, ↓s161, ↓s164, ↓s169, f160, ↓q2, x_bdi, x_bdn, xadd_eq, xsub_eq, xmul_eq, xneg_eq, xwr_eq, xwr_nk, xwr_nj, Int.toNat_natCast, x_nc]
theorem st121e (hk : isRdg k) (h1 : τ 1 1 = n) : Ev X (d + 5) 121 8 [some (vr k), some (vr 1), some (vi m), some (vi n), o4] [] SH τ = if f127 τ k m = 0 then some (some (vi (-1)), SH, g169 τ 2 n) else some (some (vi m), SH, τ) := by
  rw [b121_8, if_pos (by omega)]
  by_cases w : f127 τ k m = 0
  · simp (disch := first | omega | assumption | (simp (disch := omega) only [xadd_eq, xsub_eq, xmul_eq, xneg_eq, xwr_eq, xwr_nk, xwr_nj, Int.toNat_natCast, x_nc] <;> first | omega | assumption) | fail) only [↓if_pos, ↓if_neg, ↓b121_0, ↓b121_4, ↓b121_90, ↓b121_16, ↓b121_95, ↓b121_21, ↓b121_110, ↓b121_98, ↓b121_28, ↓b121_107, ↓b121_34, ↓b121_31, ↓b121_39, ↓b121_84, ↓b121_62, ↓b121_42, ↓b121_69, ↓b121_50, ↓b121_81, ↓b121_72, ↓b121_53, ↓b121_78, ↓b121_59, ↓s127, ↓s169, h1, x_bdi, x_bdn, xadd_eq, xsub_eq, xmul_eq, xneg_eq, xwr_eq, xwr_nk, xwr_nj, Int.toNat_natCast, x_nc]
  · simp (disch := first | omega | assumption | (simp (disch := omega) only [xadd_eq, xsub_eq, xmul_eq, xneg_eq, xwr_eq, xwr_nk, xwr_nj, Int.toNat_natCast, x_nc] <;> first | omega | assumption) | fail) only [↓if_pos, ↓if_neg, ↓b121_0, ↓b121_4, ↓b121_90, ↓b121_16, ↓b121_95, ↓b121_21, ↓b121_110, ↓b121_98, ↓b121_28, ↓b121_107, ↓b121_34, ↓b121_31, ↓b121_39, ↓b121_84, ↓b121_62, ↓b121_42, ↓b121_69, ↓b121_50, ↓b121_81, ↓b121_72, ↓b121_53, ↓b121_78, ↓b121_59, ↓s127, x_bdi, x_bdn, xadd_eq, xsub_eq, xmul_eq, xneg_eq, xwr_eq, xwr_nk, xwr_nj, Int.toNat_natCast, x_nc]
end RDT2
