/-! the constants as xC; then the claim's start out of a run of the small machine -/
theorem x_evr {args : Array Value} {s : State} {a b : Term} {q : Nat} (h : (Cond.eq a b).before args s = true) (hb : b.eval args s none [] s = some (.ref q)) : a.eval args s none [] s = some (.ref q) := by
  cases hv : a.eval args s none [] s with
  | none => simp [Cond.before, Cond.holds, Cond.value, hv] at h
  | some w =>
    simp only [Cond.before, Cond.holds, Cond.value, hv, hb] at h
    cases w <;> simp_all
theorem x_evr2 {args : Array Value} {s : State} {a b : Term} {q : Nat} (h : (Cond.eq b a).before args s = true) (hb : b.eval args s none [] s = some (.ref q)) : a.eval args s none [] s = some (.ref q) := by
  cases hv : a.eval args s none [] s with
  | none => simp [Cond.before, Cond.holds, Cond.value, hv, hb] at h
  | some w =>
    simp only [Cond.before, Cond.holds, Cond.value, hv, hb] at h
    cases w <;> simp_all
theorem x_isref {args : Array Value} {s : State} {t : Term} (h : (Cond.isRef t).before args s = true) : t.eval args s none [] s = some .null ∨ ∃ q, t.eval args s none [] s = some (.ref q) := by
  cases hv : t.eval args s none [] s with
  | none => simp [Cond.before, Cond.holds, Cond.value, hv] at h
  | some w =>
    simp only [Cond.before, Cond.holds, Cond.value, hv] at h
    cases w <;> first | exact Or.inl rfl | exact Or.inr ⟨_, rfl⟩ | (simp_all; done)
theorem x_const {s : State} {b L : Nat} {xs : Nat → Int32} (hts : ∀ w ∈ lw_tbl, w.before #[Value.ref b] s = true) (hgv : xPre.before #[Value.ref b] s = true) (hX : va_X b L xs s s.heap) (hbl : b < s.heap.size) (hL : L ≤ 3072) : ∃ CA : Nat → Nat, CA 99 = b ∧ xC (L, fun j => (xs j).toInt) CA (fun q => s.heap.size ≤ q) s := by
  have hs := flat_of_before _ hgv
  have hA : ∀ a : Nat, a < s.heap.size → ¬ (fun q : Nat => s.heap.size ≤ q) a := fun a h g => absurd g (Nat.not_le.mpr h)
  have h6 : ∀ i : Nat, ∃ t : Nat, i < 6 → (xst6 i).eval #[Value.ref b] s none [] s = some (.ref t) ∧ va_T .int t (xsn i) (fun j => .int (Int32.ofInt (xsv i j))) (fun q => s.heap.size ≤ q) s s.heap := by
    intro i
    by_cases hi : i < 6
    · have hn : xsn i < 2 ^ 31 := by
        have : ∀ i, i < 6 → xsn i < 2 ^ 31 := by decide
        exact this i hi
      obtain ⟨t, h1, h2⟩ := va_Tof (f := fun j => .int (Int32.ofInt (xsv i j))) (A := fun q => s.heap.size ≤ q) hn (hs _ (xk_arr i hi).1) (va_eqt (hs _ (xk_arr i hi).2)) (fun j hj => va_eqt (hs _ (xk_elm i hi j hj))) hA
      exact ⟨t, fun _ => ⟨h1, h2⟩⟩
    · exact ⟨0, fun h => absurd h hi⟩
  have h13 : ∀ i : Nat, ∃ q : Nat × Nat, i < 13 → (xtm i).eval #[Value.ref b] s none [] s = some (.ref q.1) ∧ va_O "java/lang/String" q.1 (fun q => s.heap.size ≤ q) s s.heap ∧ va_OF "java/lang/String" "coder" "B" (.int 0) q.1 (fun q => s.heap.size ≤ q) s s.heap ∧ va_OF "java/lang/String" "value" "[B" (.ref q.2) q.1 (fun q => s.heap.size ≤ q) s s.heap ∧ va_T .byte q.2 (xsl i) (fun j => .int (Int32.ofInt (xsb i j))) (fun q => s.heap.size ≤ q) s s.heap := by
    intro i
    by_cases hi : i < 13
    · obtain ⟨k1, k2, k3, k4⟩ := xk_str i hi
      have hn : xsl i < 2 ^ 31 := by
        have : ∀ i, i < 13 → xsl i < 2 ^ 31 := by decide
        exact this i hi
      obtain ⟨a, c, cA, kA, q1, q2, q3, q4, q5, q6, -⟩ := Cond.exactly_spec (args := #[Value.ref b]) (first := s) (o := none) (s := s) (idx := []) (t := xtm i) (cls := "java/lang/String") (hs _ k1)
      obtain ⟨t, ht, hT⟩ := va_Tof (f := fun j => .int (Int32.ofInt (xsb i j))) (A := fun q => s.heap.size ≤ q) hn (hs _ k3) (va_eqt (hs _ k4)) (fun j hj => va_eqt (hs _ (xk_sel i hi j hj))) hA
      exact ⟨(a, t), fun _ => ⟨q1, ⟨cA, q3, q5, by rw [q6]; exact q2, hA a (Array.getElem?_eq_some_iff.mp q3).1⟩, vk_OFof q1 (va_eqt (hs _ k2)) hA, vk_OFof q1 ht hA, hT⟩⟩
    · exact ⟨(0, 0), fun h => absurd h hi⟩
  obtain ⟨sa, hsa⟩ := Classical.axiomOfChoice h6
  obtain ⟨sk, hsk⟩ := Classical.axiomOfChoice h13
  refine ⟨fun c => if c = 99 then b else if c < 6 then sa c else if c < 23 then (sk (c - 10)).1 else (sk (c - 40)).2, rfl, ?_, ?_, ?_, ?_, ?_, ?_, ?_⟩
  · intro w hw hg a
    exact xgw_move (State.WarmedH.refl s) hg (hts w hw) a
  · intro c ety n f hc
    have key : (c < 6 ∧ ety = 0 ∧ n = xsn c ∧ f = xsv c) ∨ (40 ≤ c ∧ c < 53 ∧ ety = 3 ∧ n = xsl (c - 40) ∧ f = xsb (c - 40)) ∨ (c = 99 ∧ ety = 0 ∧ n = L ∧ f = fun j => (xs j).toInt) := by
      unfold xca at hc
      split at hc <;> first
        | (cases hc; exact Or.inl ⟨by decide, rfl, rfl, rfl⟩)
        | (cases hc; exact Or.inr (Or.inl ⟨by decide, by decide, rfl, rfl, rfl⟩))
        | (cases hc; exact Or.inr (Or.inr ⟨rfl, rfl, rfl, rfl⟩))
        | cases hc
    rcases key with ⟨h1, rfl, rfl, rfl⟩ | ⟨h1, h2, rfl, rfl, rfl⟩ | ⟨rfl, rfl, rfl, rfl⟩
    · dsimp only
      rw [if_neg (by omega), if_pos h1]
      refine ⟨(hsa c h1).2, ?_, ?_⟩
      · have : ∀ c, c < 6 → xsn c < 65536 := by decide
        exact this c h1
      · have : ∀ c, c < 6 → ∀ j, j < xsn c → (Int32.ofInt (xsv c j)).toInt = xsv c j := by decide
        exact this c h1
    · dsimp only
      rw [if_neg (by omega), if_neg (by omega), if_neg (by omega)]
      refine ⟨(hsk (c - 40) (by omega)).2.2.2.2, ?_, ?_⟩
      · have : ∀ c, c < 13 → xsl c < 65536 := by decide
        exact this (c - 40) (by omega)
      · have : ∀ c, c < 13 → ∀ j, j < xsl c → (Int32.ofInt (xsb c j)).toInt = xsb c j := by decide
        exact this (c - 40) (by omega)
    · dsimp only
      rw [if_pos rfl]
      obtain ⟨scr, g1, g2, g3, g4, g5⟩ := hX
      refine ⟨⟨scr, g1, g2, g3, by omega, by rw [g4] <;> rfl, fun j hj => ?_, hA b hbl⟩, by omega, fun j _ => by rw [x32]⟩
      rw [g5 j hj]
      dsimp only
      rw [x32]
  · intro c h1 h2
    dsimp only
    rw [if_neg (by omega), if_neg (by omega), if_pos h2, if_neg (by omega), if_neg (by omega), if_neg (by omega), show c + 30 - 40 = c - 10 by omega]
    obtain ⟨-, g2, g3, g4, -⟩ := hsk (c - 10) (by omega)
    exact ⟨g2, g3, g4⟩
  · intro a ha
    dsimp only
    rw [if_neg (by omega), if_pos (by omega)]
    exact va_Zof (hts _ (xk_lay a (by omega)).1) (hts _ (xk_lay a (by omega)).2) (hsa a (by omega)).1 hA
  · exact va_Zof (hts _ xk_lay2.1.1) (hts _ xk_lay2.1.2) (va_eqi (hs _ xk_cst)) hA
  · rcases x_isref (hs _ xk_ref) with h | ⟨q, h⟩
    · exact Or.inl (va_Zof (hts _ xk_lay2.2.1) (hts _ xk_lay2.2.2) h hA)
    · exact Or.inr ⟨q, va_Zof (hts _ xk_lay2.2.1) (hts _ xk_lay2.2.2) h hA⟩
  · intro own tx i c hm h1 h2 htx
    dsimp only
    rw [if_neg (by omega), if_neg (by omega), if_pos h2]
    have hall := List.all_eq_true.mp xk_all _ hm
    dsimp only at hall
    obtain ⟨⟨o1, i1, c1⟩, hq, hq2⟩ := List.any_eq_true.mp hall
    simp only [Bool.and_eq_true, beq_iff_eq] at hq2
    obtain ⟨⟨rfl, rfl⟩, htx2⟩ := hq2
    obtain ⟨hsame, hc1⟩ := xk_same _ hq
    have hce : c - 10 = c1 := by
      refine xk_txt (c - 10) (by omega) c1 hc1 ?_
      rw [show c - 10 + 10 = c by omega, ← htx, htx2]
    rw [hce]
    have hev := (hsk c1 hc1).1
    refine vk_R.of (hts _ hm) ?_
    rcases hsame with h | h | h
    · rw [show Term.string o1 i1 = xtm c1 from h]; exact hev
    · exact x_evr (hs _ h) hev
    · exact x_evr2 (hs _ h) hev
