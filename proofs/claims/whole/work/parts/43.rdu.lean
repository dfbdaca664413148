/-! Reading.readText, whole -/
section RDU
variable {X : Nat × (Nat → Int)} {k n p : Nat} {σ τ : xM}
theorem isBl_t {c : Int} (h : isBl c = true) : c = 32 ∨ c = 10 := of_decide_eq_true h
theorem isBl_f {c : Int} (h : isBl c = false) : ¬ (c = 32 ∨ c = 10) := of_decide_eq_false h
theorem gd_nb {tx : Nat → Int} {i : Nat} (g : gd tx i = true) (b : isBl (tx i) = false) : isSy (tx i) = true ∧ (nbL tx i).length < 11 ∧ aOk (auS (nbL tx i)) (tx i) = true := by
  unfold gd at g
  rw [b] at g
  simp only [Bool.false_or, Bool.and_eq_true, decide_eq_true_eq] at g
  exact g
theorem nbL_len (tx : Nat → Int) : ∀ i, (∀ q, q < i → gd tx q = true) → (nbL tx i).length ≤ 11
  | 0, _ => by simp [nbL]
  | i + 1, h => by
    have := nbL_len tx i (fun q hq => h q (by omega))
    by_cases b : isBl (tx i) = true
    · rw [nbL_bl b]; exact this
    · have b : isBl (tx i) = false := by simpa using b
      have := (gd_nb (h i (by omega)) b).2.1
      rw [nbL_nb b, List.length_append]
      simp only [List.length_cons, List.length_nil]
      omega
/-- the cells where the first i bytes were read -/
def T121 (τ : xM) (k n i : Nat) : xM := setRds τ k (nbL (τ 2) i).length (rdSt (Rd τ k 0) (txs (τ 2) n))
theorem T121_at {i a : Nat} (h : ¬ (k + 1 ≤ a ∧ a ≤ k + 8)) : T121 τ k n i a = τ a := by
  funext b
  exact setRds_out h
theorem it121 (hk : isRdg k) (h1 : τ 1 1 = n) (hn : n ≤ 300) (hb : ∀ i, i < n → 0 ≤ τ 2 i ∧ τ 2 i ≤ 255) (hr : RA (Rd τ k 0) (0, 0, 0)) (hp : p ≤ n) (hg : ∀ i, i < p → gd (τ 2) i = true) : ∀ (q i : Nat) (o4 : Option xV), i + q = p → ∃ o', ∀ d, Ev X (d + 5) 121 8 [some (vr k), some (vr 1), some (vi (nbL (τ 2) i).length), some (vi i), o4] [] SH (T121 τ k n i) = Ev X (d + 5) 121 8 [some (vr k), some (vr 1), some (vi (nbL (τ 2) p).length), some (vi p), o'] [] SH (T121 τ k n p) := by
  have rk := rdg_rg hk
  intro q
  induction q with
  | zero =>
    intro i o4 e
    obtain rfl : i = p := by omega
    exact ⟨o4, fun _ => rfl⟩
  | succ q ih =>
    intro i o4 e
    have e1 : T121 τ k n i 1 = τ 1 := T121_at (by omega)
    have e2 : T121 τ k n i 2 = τ 2 := T121_at (by omega)
    have hbi := hb i (by omega)
    by_cases b : isBl (τ 2 i) = true
    · obtain ⟨o', w⟩ := ih (i + 1) (some (vi (T121 τ k n i 2 i))) (by omega)
      refine ⟨o', fun d => ?_⟩
      have w := w d
      unfold T121 at w ⊢
      rw [nbL_bl b] at w
      rw [← w]
      exact st121b (n := n) (by rw [← h1]; exact congrFun e1 1) (by omega) hn (by have := isBl_t b; rw [← e2] at this; exact this)
    · have b : isBl (τ 2 i) = false := by simpa using b
      obtain ⟨g1, g2, g3⟩ := gd_nb (hg i (by omega)) b
      obtain ⟨o', w⟩ := ih (i + 1) (some (vi (T121 τ k n i 2 i))) (by omega)
      refine ⟨o', fun d => ?_⟩
      have w := w d
      rw [← w]
      have hl : (nbL (τ 2) (i + 1)).length = (nbL (τ 2) i).length + 1 := by rw [nbL_nb b, List.length_append]; rfl
      have hx : txs (τ 2) n (nbL (τ 2) i).length = τ 2 i := nbL_get (by omega) b
      have ra := RA_t (n := n) hr (show i ≤ n by omega) (fun q hq => hg q (by omega))
      have st := s128_step (X := X) (d := d + 2) (σ := τ) (cs := txs (τ 2) n) (m := (nbL (τ 2) i).length) hk g2 rfl (by rw [hx, RA_ok ra]; exact g3)
      rw [hx] at st
      have res := st121y (X := X) (d := d) (τ := T121 τ k n i) (τ' := T121 τ k n (i + 1)) (o4 := o4) (i := i) (m := (nbL (τ 2) i).length) (n := n) hk (by rw [← h1]; exact congrFun e1 1) (by omega) hn (by rw [e2]; exact isBl_f b) (by rw [e2]; exact hbi) (by rw [e2]; exact g1) (by rw [e2]; unfold T121; rw [hl]; exact st) (by omega)
      rw [← hl] at res
      exact res
theorem s121g (hk : isRdg k) (h1 : σ 1 1 = n) (hn : n ≤ 300) (hb : ∀ i, i < n → 0 ≤ σ 2 i ∧ σ 2 i ≤ 255) (hr : RA (Rd σ k 0) (0, 0, 0)) (hp : p ≤ n) (hg : ∀ i, i < p → gd (σ 2) i = true) : ∃ o', ∀ d, Ev X (d + 5) 121 0 [some (vr k), some (vr 1), none, none, none] [] SH σ = Ev X (d + 5) 121 8 [some (vr k), some (vr 1), some (vi (nbL (σ 2) p).length), some (vi p), o'] [] SH (T121 (g158 σ) k n p) := by
  have rk := rdg_rg hk
  have e2 : g158 σ 2 = σ 2 := by unfold g158; rw [xwr_row (by decide), xwr_row (by decide)]
  have eR : Rd (g158 σ) k 0 = Rd σ k 0 := by
    funext j
    unfold Rd g158
    rw [xwr_nk (by omega), xwr_nk (by omega)]
  obtain ⟨o', w⟩ := it121 (X := X) (τ := g158 σ) (n := n) (p := p) hk (by unfold g158; rw [xwr_nj (by decide), xwr_nj (by decide)]; exact h1) hn (by rw [e2]; exact hb) (by rw [eR]; exact hr) hp (by rw [e2]; exact hg) p 0 none (by omega)
  refine ⟨o', fun d => ?_⟩
  have w := w d
  rw [e2] at w
  rw [← w]
  have t0 : T121 (g158 σ) k n 0 = g158 σ := setRds_zero
  rw [t0]
  refine Eq.trans b121_0 ?_
  refine x_bind s158 ?_
  exact b121_4
theorem auS_bl {tx : Nat → Int} {p : Nat} (g : gd tx p = false) : isBl (tx p) = false := by
  unfold gd at g
  cases h : isBl (tx p)
  · rfl
  · rw [h] at g; simp at g
/-- a byte that is no symbol -/
theorem s121f (hk : isRdg k) (h1 : σ 1 1 = n) (hn : n ≤ 300) (hb : ∀ i, i < n → 0 ≤ σ 2 i ∧ σ 2 i ≤ 255) (hr : RA (Rd σ k 0) (0, 0, 0)) (hp : p < n) (hg : ∀ i, i < p → gd (σ 2) i = true) (ng : gd (σ 2) p = false) (hs : isSy (σ 2 p) = false) : ∀ d, Ev X (d + 5) 121 0 [some (vr k), some (vr 1), none, none, none] [] SH σ = some (some (vi (-1)), SH, g169 (T121 (g158 σ) k n p) 1 p) := by
  have rk := rdg_rg hk
  obtain ⟨o', w⟩ := s121g (X := X) hk h1 hn hb hr (Nat.le_of_lt hp) hg
  intro d
  rw [w d]
  have e1 : T121 (g158 σ) k n p 1 1 = n := by rw [T121_at (by omega)]; unfold g158; rw [xwr_nj (by decide), xwr_nj (by decide)]; exact h1
  have e2 : T121 (g158 σ) k n p 2 = σ 2 := by rw [T121_at (by omega)]; unfold g158; rw [xwr_row (by decide), xwr_row (by decide)]
  exact st121f (n := n) hk e1 hp hn (by rw [e2]; exact isBl_f (auS_bl ng)) (by rw [e2]; exact hb p hp) (by rw [e2]; exact hs)
/-- a symbol that can't stand there -/
theorem s121n (hk : isRdg k) (h1 : σ 1 1 = n) (hn : n ≤ 300) (hb : ∀ i, i < n → 0 ≤ σ 2 i ∧ σ 2 i ≤ 255) (hr : RA (Rd σ k 0) (0, 0, 0)) (hp : p < n) (hg : ∀ i, i < p → gd (σ 2) i = true) (ng : gd (σ 2) p = false) (hs : isSy (σ 2 p) = true) : ∀ d, Ev X (d + 5) 121 0 [some (vr k), some (vr 1), none, none, none] [] SH σ = some (some (vi (-1)), SH, g169 (T121 (g158 σ) k n p) 2 p) := by
  have rk := rdg_rg hk
  obtain ⟨o', w⟩ := s121g (X := X) hk h1 hn hb hr (Nat.le_of_lt hp) hg
  intro d
  rw [w d]
  have e1 : T121 (g158 σ) k n p 1 1 = n := by rw [T121_at (by omega)]; unfold g158; rw [xwr_nj (by decide), xwr_nj (by decide)]; exact h1
  have e2' : g158 σ 2 = σ 2 := by unfold g158; rw [xwr_row (by decide), xwr_row (by decide)]
  have e2 : T121 (g158 σ) k n p 2 = σ 2 := by rw [T121_at (by omega)]; exact e2'
  have eR : Rd (g158 σ) k 0 = Rd σ k 0 := by
    funext j
    unfold Rd g158
    rw [xwr_nk (by omega), xwr_nk (by omega)]
  have b := auS_bl ng
  have hx : txs (σ 2) n (nbL (σ 2) p).length = σ 2 p := nbL_get hp b
  have ra := RA_t (n := n) hr (show p ≤ n by omega) hg
  refine st121n (n := n) hk e1 hp hn (by rw [e2]; exact isBl_f b) (by rw [e2]; exact hb p hp) (by rw [e2]; exact hs) ?_
  rw [e2]
  have len := nbL_len (σ 2) p hg
  by_cases l : (nbL (σ 2) p).length < 11
  · have no : aOk (auS (nbL (σ 2) p)) (σ 2 p) = false := by
      unfold gd at ng
      rw [b, hs, decide_eq_true l] at ng
      simpa using ng
    have st := s128_stop (X := X) (d := d + 2) (σ := g158 σ) (r := Rd (g158 σ) k 0) (cs := txs (σ 2) n) (m := (nbL (σ 2) p).length) hk l rfl (by rw [hx, eR, RA_ok ra]; exact no)
    rw [hx] at st
    unfold T121
    rw [e2']
    exact st
  · exact s122o (Or.inr (by omega))
/-- the text's end -/
theorem s121e (hk : isRdg k) (h1 : σ 1 1 = n) (hn : n ≤ 300) (hb : ∀ i, i < n → 0 ≤ σ 2 i ∧ σ 2 i ≤ 255) (hr : RA (Rd σ k 0) (0, 0, 0)) (hg : ∀ i, i < n → gd (σ 2) i = true) : ∀ d, Ev X (d + 5) 121 0 [some (vr k), some (vr 1), none, none, none] [] SH σ = if (auS (nbL (σ 2) n)).1 ≠ 0 ∧ (auS (nbL (σ 2) n)).2.2 = 1 then some (some (vi (nbL (σ 2) n).length), SH, T121 (g158 σ) k n n) else some (some (vi (-1)), SH, g169 (T121 (g158 σ) k n n) 2 n) := by
  have rk := rdg_rg hk
  obtain ⟨o', w⟩ := s121g (X := X) hk h1 hn hb hr (Nat.le_refl n) hg
  intro d
  rw [w d]
  have e1 : T121 (g158 σ) k n n 1 1 = n := by rw [T121_at (by omega)]; unfold g158; rw [xwr_nj (by decide), xwr_nj (by decide)]; exact h1
  have e2' : g158 σ 2 = σ 2 := by unfold g158; rw [xwr_row (by decide), xwr_row (by decide)]
  have eR : Rd (g158 σ) k 0 = Rd σ k 0 := by
    funext j
    unfold Rd g158
    rw [xwr_nk (by omega), xwr_nk (by omega)]
  have ra := RA_t (n := n) hr (Nat.le_refl n) hg
  have len := nbL_len (σ 2) n hg
  rw [st121e hk e1]
  have f0 : T121 (g158 σ) k n n (k + 1) (nbL (σ 2) n).length = rdSt (Rd σ k 0) (txs (σ 2) n) (nbL (σ 2) n).length 0 := by
    unfold T121
    rw [e2', eR]
    exact Rd_setRds (j := 0) (σ := g158 σ) (k := k) (by decide) eR.symm
  have f6 : T121 (g158 σ) k n n (k + 7) (nbL (σ 2) n).length = rdSt (Rd σ k 0) (txs (σ 2) n) (nbL (σ 2) n).length 6 := by
    unfold T121
    rw [e2', eR]
    exact Rd_setRds (j := 6) (σ := g158 σ) (k := k) (by decide) eR.symm
  unfold RA at ra
  generalize auS (nbL (σ 2) n) = s at ra ⊢
  obtain ⟨s1, s2, s3⟩ := s
  simp only at ra ⊢
  have key : f127 (T121 (g158 σ) k n n) k (nbL (σ 2) n).length = if s1 ≠ 0 ∧ s3 = 1 then 1 else 0 := by
    unfold f127
    rw [Int.toNat_natCast, f0, f6]
    repeat' split
    all_goals omega
  rw [key]
  by_cases c : s1 ≠ 0 ∧ s3 = 1
  · rw [if_pos c, if_pos c, if_neg (by decide)]
  · rw [if_neg c, if_neg c, if_pos rfl]
end RDU
