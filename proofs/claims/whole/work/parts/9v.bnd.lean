/-! WALKS: the same rows on both sides; how many they are at most -/
/-- so many ways at most have s places turned over, in m cells -/
def TB : Nat → Nat → Nat
  | 0, s => if s = 0 then 1 else 0
  | m + 1, s => nsum (fun j => C7 j * (if j ≤ s then TB m (s - j) else 0)) 8
section BDD
variable {mo : Nat → List Nat} {F : Nat → Nat → Bool} {P : (Nat → Nat) → Bool}
theorem enumF_flt : ∀ m c (p : Nat → Nat), (∀ q, q ∈ enumF mo m c p → P q = true → ∀ j, c ≤ j → j < c + m → F j (q j) = true) → (enumF (fun c => (mo c).filter (F c)) m c p).filter P = (enumF mo m c p).filter P
  | 0, c, p, _ => rfl
  | m + 1, c, p, h => by
    rw [enumF, enumF]
    have key : ∀ l : List Nat, (∀ i, i ∈ l → i ∈ mo c) → ((l.filter (F c)).flatMap (fun i => enumF (fun c => (mo c).filter (F c)) m (c + 1) (upN p c i))).filter P = (l.flatMap (fun i => enumF mo m (c + 1) (upN p c i))).filter P := by
      intro l
      induction l with
      | nil => intro _; rfl
      | cons i l ihl =>
        intro hl
        have ih := ihl (fun a ha => hl a (List.mem_cons_of_mem _ ha))
        have im := hl i (List.mem_cons_self ..)
        have sub : ∀ q, q ∈ enumF mo m (c + 1) (upN p c i) → q ∈ enumF mo (m + 1) c p := by
          intro q hq
          rw [enumF, List.mem_flatMap]
          exact ⟨i, im, hq⟩
        rw [List.flatMap_cons, List.filter_append]
        by_cases y : F c i = true
        · rw [List.filter_cons_of_pos y, List.flatMap_cons, List.filter_append, ih, enumF_flt m (c + 1) (upN p c i) (fun q hq hP j h1 h2 => h q (sub q hq) hP j (by omega) (by omega))]
        · rw [List.filter_cons_of_neg y, ih]
          have : (enumF mo m (c + 1) (upN p c i)).filter P = [] := by
            rw [List.filter_eq_nil_iff]
            intro q hq hP
            have := h q (sub q hq) hP c (by omega) (by omega)
            rw [(mem_enumF m (c + 1) _ q hq).1 c (by omega), upN_at] at this
            exact y this
          rw [this, List.nil_append]
    exact key (mo c) (fun _ hi => hi)
theorem cp_rm {Q : Nat → Bool} {a : Nat} : ∀ N, (List.range N).countP (fun v => Q v && decide (v ≠ a)) + (if Q a = true ∧ a < N then 1 else 0) = (List.range N).countP Q
  | 0 => by simp
  | N + 1 => by
    have ih := cp_rm (Q := Q) (a := a) N
    rw [List.range_succ, List.countP_append, List.countP_append, List.countP_cons, List.countP_cons, List.countP_nil, List.countP_nil]
    by_cases y : N = a
    · subst y
      have e1 : (Q N && decide (N ≠ N)) = false := by simp
      rw [if_neg (by omega)] at ih
      rw [e1]
      have ff : ¬ (false = true) := by decide
      by_cases z : Q N = true
      · have hp : Q N = true ∧ N < N + 1 := ⟨z, by omega⟩
        rw [if_pos hp, if_neg ff, if_pos z]
        omega
      · have hp : ¬ (Q N = true ∧ N < N + 1) := fun w => z w.1
        rw [if_neg hp, if_neg ff, if_neg z]
        omega
    · have e1 : (Q N && decide (N ≠ a)) = Q N := by
        rw [decide_eq_true y, Bool.and_true]
      rw [e1]
      by_cases z : Q a = true ∧ a < N
      · have hp : Q a = true ∧ a < N + 1 := ⟨z.1, by omega⟩
        rw [if_pos z] at ih
        rw [if_pos hp]
        omega
      · have hp : ¬ (Q a = true ∧ a < N + 1) := fun w => z ⟨w.1, by omega⟩
        rw [if_neg z] at ih
        rw [if_neg hp]
        omega
/-- different ones are no more than all -/
theorem cp_inj {f : Nat → Nat} {N : Nat} : ∀ K (Q : Nat → Bool), (∀ i, i < K → f i < N) → (∀ i j, i < K → j < K → f i = f j → i = j) → (List.range K).countP (fun i => Q (f i)) ≤ (List.range N).countP Q
  | 0, Q, _, _ => by simp
  | K + 1, Q, h1, h2 => by
    have ih := cp_inj (f := f) (N := N) K (fun v => Q v && decide (v ≠ f K)) (fun i hi => h1 i (by omega)) (fun i j hi hj e => h2 i j (by omega) (by omega) e)
    have rm := cp_rm (Q := Q) (a := f K) N
    rw [List.range_succ, List.countP_append, List.countP_cons, List.countP_nil]
    have e : (List.range K).countP (fun i => Q (f i)) = (List.range K).countP (fun i => Q (f i) && decide (f i ≠ f K)) := by
      refine List.countP_congr (fun i hi => ?_)
      rw [List.mem_range] at hi
      have : f i ≠ f K := fun z => by
        have := h2 i K (by omega) (by omega) z
        omega
      rw [decide_eq_true this, Bool.and_true]
    rw [e]
    have := h1 K (by omega)
    by_cases z : Q (f K) = true
    · rw [if_pos ⟨z, this⟩] at rm
      rw [if_pos z]
      omega
    · rw [if_neg (fun w => z w.1)] at rm
      rw [if_neg z]
      omega
theorem pcN_7 (n : Nat) : pcN n ≤ 7 := by
  unfold pcN
  omega
theorem nsum_lt {f g : Nat → Nat} : ∀ n, (∀ j, j < n → f j ≤ g j) → nsum f n ≤ nsum g n
  | 0, _ => Nat.le_refl _
  | n + 1, h => by
    rw [nsum, nsum]
    have := nsum_lt n (fun j hj => h j (by omega))
    have := h n (by omega)
    omega
/-- a sum over a list, by values -/
theorem len_by {α : Type} (D : Nat → Nat) (g : Nat → List α) (b : Nat → Nat) : ∀ l : List Nat, (∀ i, i ∈ l → D i < 8 ∧ (g i).length ≤ b (D i)) → (l.flatMap g).length ≤ nsum (fun j => l.countP (fun i => decide (D i = j)) * b j) 8
  | [], _ => Nat.zero_le _
  | i :: l, h => by
    have ih := len_by D g b l (fun a ha => h a (List.mem_cons_of_mem _ ha))
    obtain ⟨h1, h2⟩ := h i (List.mem_cons_self ..)
    rw [List.flatMap_cons, List.length_append]
    have e : nsum (fun j => (i :: l).countP (fun i => decide (D i = j)) * b j) 8 = nsum (fun j => l.countP (fun i => decide (D i = j)) * b j) 8 + b (D i) := by
      have s : ∀ K, nsum (fun j => (i :: l).countP (fun i => decide (D i = j)) * b j) K = nsum (fun j => l.countP (fun i => decide (D i = j)) * b j) K + (if D i < K then b (D i) else 0) := by
        intro K
        induction K with
        | zero => rfl
        | succ K ihK =>
          rw [nsum, nsum, ihK, List.countP_cons]
          by_cases y : D i = K
          · have h1 : ¬ D i < K := by omega
            have h2 : D i < K + 1 := by omega
            rw [if_neg h1, if_pos h2, if_pos (decide_eq_true y), y, Nat.add_mul]
            omega
          · have h0 : ¬ decide (D i = K) = true := fun z => y (of_decide_eq_true z)
            rw [if_neg h0, Nat.add_zero]
            by_cases z : D i < K
            · have h2 : D i < K + 1 := by omega
              rw [if_pos z, if_pos h2]
              omega
            · have h2 : ¬ D i < K + 1 := by omega
              rw [if_neg z, if_neg h2]
              omega
      rw [s 8, if_pos h1]
    rw [e]
    omega
/-- the ways that turn s places over are TB at most -/
theorem enum_bd {D : Nat → Nat → Nat} {N : Nat} (hD : ∀ c i, D c i < 8) (hc : ∀ c j, c < N → j < 8 → (mo c).countP (fun i => decide (D c i = j)) ≤ C7 j) : ∀ m c (p : Nat → Nat) s, c + m ≤ N → ((enumF mo m c p).filter (fun q => decide (sfx (fun j => D j (q j)) c m = s))).length ≤ TB m s
  | 0, c, p, s, _ => by
    rw [enumF, TB]
    by_cases y : s = 0
    · rw [if_pos y]
      exact Nat.le_trans (List.length_filter_le _ _) (Nat.le_refl _)
    · rw [if_neg y, List.filter_cons_of_neg (by rw [sfx]; intro z; exact y (of_decide_eq_true z).symm), List.filter_nil]
      exact Nat.le_refl _
  | m + 1, c, p, s, hN => by
    rw [enumF, List.filter_flatMap, TB]
    refine Nat.le_trans (len_by (D c) _ (fun j => if j ≤ s then TB m (s - j) else 0) (mo c) (fun i hi => ⟨hD c i, ?_⟩)) (nsum_lt 8 (fun j hj => Nat.mul_le_mul_right _ (hc c j (by omega) hj)))
    have e : ∀ q, q ∈ enumF mo m (c + 1) (upN p c i) → sfx (fun j => D j (q j)) c (m + 1) = D c i + sfx (fun j => D j (q j)) (c + 1) m := by
      intro q hq
      rw [sfx, (mem_enumF m (c + 1) _ q hq).1 c (by omega), upN_at]
    by_cases y : D c i ≤ s
    · rw [if_pos y]
      refine Nat.le_trans (Nat.le_of_eq ?_) (enum_bd hD hc m (c + 1) (upN p c i) (s - D c i) (by omega))
      congr 1
      refine List.filter_congr (fun q hq => ?_)
      rw [e q hq]
      by_cases z : D c i + sfx (fun j => D j (q j)) (c + 1) m = s
      · rw [decide_eq_true z, decide_eq_true (by omega)]
      · rw [decide_eq_false z, decide_eq_false (by omega)]
    · rw [if_neg y]
      refine Nat.le_of_eq ?_
      rw [List.length_eq_zero_iff, List.filter_eq_nil_iff]
      intro q hq z
      have := of_decide_eq_true z
      rw [e q hq] at this
      omega
theorem TB_s {m a0 a1 a2 a3 a4 a5 a6 : Nat} (h0 : TB m 0 ≤ a0) (h1 : TB m 1 ≤ a1) (h2 : TB m 2 ≤ a2) (h3 : TB m 3 ≤ a3) (h4 : TB m 4 ≤ a4) (h5 : TB m 5 ≤ a5) (h6 : TB m 6 ≤ a6) : TB (m + 1) 0 ≤ a0 ∧ TB (m + 1) 1 ≤ a1 + 7 * a0 ∧ TB (m + 1) 2 ≤ a2 + 7 * a1 + 21 * a0 ∧ TB (m + 1) 3 ≤ a3 + 7 * a2 + 21 * a1 + 35 * a0 ∧ TB (m + 1) 4 ≤ a4 + 7 * a3 + 21 * a2 + 35 * a1 + 35 * a0 ∧ TB (m + 1) 5 ≤ a5 + 7 * a4 + 21 * a3 + 35 * a2 + 35 * a1 + 21 * a0 ∧ TB (m + 1) 6 ≤ a6 + 7 * a5 + 21 * a4 + 35 * a3 + 35 * a2 + 21 * a1 + 7 * a0 := by
  simp only [TB, nsum, C7, List.getD_cons_zero, List.getD_cons_succ]
  simp only [Nat.le_refl, Nat.zero_le, if_true, Nat.reduceLeDiff, if_false, Nat.reduceSub, Nat.sub_zero, Nat.mul_zero, Nat.sub_self]
  omega
theorem TB_lt {n : Nat} (hn : n ≤ 11) {s : Nat} (hs : s ≤ 6) : TB n s < 1000000000 := by
  have g0 : TB 0 0 ≤ 1 ∧ TB 0 1 ≤ 0 ∧ TB 0 2 ≤ 0 ∧ TB 0 3 ≤ 0 ∧ TB 0 4 ≤ 0 ∧ TB 0 5 ≤ 0 ∧ TB 0 6 ≤ 0 := by decide
  have g1 : TB 1 0 ≤ 1 ∧ TB 1 1 ≤ 7 ∧ TB 1 2 ≤ 21 ∧ TB 1 3 ≤ 35 ∧ TB 1 4 ≤ 35 ∧ TB 1 5 ≤ 21 ∧ TB 1 6 ≤ 7 := by
    have h := TB_s (m := 0) g0.1 g0.2.1 g0.2.2.1 g0.2.2.2.1 g0.2.2.2.2.1 g0.2.2.2.2.2.1 g0.2.2.2.2.2.2
    omega
  have g2 : TB 2 0 ≤ 1 ∧ TB 2 1 ≤ 14 ∧ TB 2 2 ≤ 91 ∧ TB 2 3 ≤ 364 ∧ TB 2 4 ≤ 1001 ∧ TB 2 5 ≤ 2002 ∧ TB 2 6 ≤ 3003 := by
    have h := TB_s (m := 1) g1.1 g1.2.1 g1.2.2.1 g1.2.2.2.1 g1.2.2.2.2.1 g1.2.2.2.2.2.1 g1.2.2.2.2.2.2
    omega
  have g3 : TB 3 0 ≤ 1 ∧ TB 3 1 ≤ 21 ∧ TB 3 2 ≤ 210 ∧ TB 3 3 ≤ 1330 ∧ TB 3 4 ≤ 5985 ∧ TB 3 5 ≤ 20349 ∧ TB 3 6 ≤ 54264 := by
    have h := TB_s (m := 2) g2.1 g2.2.1 g2.2.2.1 g2.2.2.2.1 g2.2.2.2.2.1 g2.2.2.2.2.2.1 g2.2.2.2.2.2.2
    omega
  have g4 : TB 4 0 ≤ 1 ∧ TB 4 1 ≤ 28 ∧ TB 4 2 ≤ 378 ∧ TB 4 3 ≤ 3276 ∧ TB 4 4 ≤ 20475 ∧ TB 4 5 ≤ 98280 ∧ TB 4 6 ≤ 376740 := by
    have h := TB_s (m := 3) g3.1 g3.2.1 g3.2.2.1 g3.2.2.2.1 g3.2.2.2.2.1 g3.2.2.2.2.2.1 g3.2.2.2.2.2.2
    omega
  have g5 : TB 5 0 ≤ 1 ∧ TB 5 1 ≤ 35 ∧ TB 5 2 ≤ 595 ∧ TB 5 3 ≤ 6545 ∧ TB 5 4 ≤ 52360 ∧ TB 5 5 ≤ 324632 ∧ TB 5 6 ≤ 1623160 := by
    have h := TB_s (m := 4) g4.1 g4.2.1 g4.2.2.1 g4.2.2.2.1 g4.2.2.2.2.1 g4.2.2.2.2.2.1 g4.2.2.2.2.2.2
    omega
  have g6 : TB 6 0 ≤ 1 ∧ TB 6 1 ≤ 42 ∧ TB 6 2 ≤ 861 ∧ TB 6 3 ≤ 11480 ∧ TB 6 4 ≤ 111930 ∧ TB 6 5 ≤ 850668 ∧ TB 6 6 ≤ 5245786 := by
    have h := TB_s (m := 5) g5.1 g5.2.1 g5.2.2.1 g5.2.2.2.1 g5.2.2.2.2.1 g5.2.2.2.2.2.1 g5.2.2.2.2.2.2
    omega
  have g7 : TB 7 0 ≤ 1 ∧ TB 7 1 ≤ 49 ∧ TB 7 2 ≤ 1176 ∧ TB 7 3 ≤ 18424 ∧ TB 7 4 ≤ 211876 ∧ TB 7 5 ≤ 1906884 ∧ TB 7 6 ≤ 13983816 := by
    have h := TB_s (m := 6) g6.1 g6.2.1 g6.2.2.1 g6.2.2.2.1 g6.2.2.2.2.1 g6.2.2.2.2.2.1 g6.2.2.2.2.2.2
    omega
  have g8 : TB 8 0 ≤ 1 ∧ TB 8 1 ≤ 56 ∧ TB 8 2 ≤ 1540 ∧ TB 8 3 ≤ 27720 ∧ TB 8 4 ≤ 367290 ∧ TB 8 5 ≤ 3819816 ∧ TB 8 6 ≤ 32468436 := by
    have h := TB_s (m := 7) g7.1 g7.2.1 g7.2.2.1 g7.2.2.2.1 g7.2.2.2.2.1 g7.2.2.2.2.2.1 g7.2.2.2.2.2.2
    omega
  have g9 : TB 9 0 ≤ 1 ∧ TB 9 1 ≤ 63 ∧ TB 9 2 ≤ 1953 ∧ TB 9 3 ≤ 39711 ∧ TB 9 4 ≤ 595665 ∧ TB 9 5 ≤ 7028847 ∧ TB 9 6 ≤ 67945521 := by
    have h := TB_s (m := 8) g8.1 g8.2.1 g8.2.2.1 g8.2.2.2.1 g8.2.2.2.2.1 g8.2.2.2.2.2.1 g8.2.2.2.2.2.2
    omega
  have g10 : TB 10 0 ≤ 1 ∧ TB 10 1 ≤ 70 ∧ TB 10 2 ≤ 2415 ∧ TB 10 3 ≤ 54740 ∧ TB 10 4 ≤ 916895 ∧ TB 10 5 ≤ 12103014 ∧ TB 10 6 ≤ 131115985 := by
    have h := TB_s (m := 9) g9.1 g9.2.1 g9.2.2.1 g9.2.2.2.1 g9.2.2.2.2.1 g9.2.2.2.2.2.1 g9.2.2.2.2.2.2
    omega
  have g11 : TB 11 0 ≤ 1 ∧ TB 11 1 ≤ 77 ∧ TB 11 2 ≤ 2926 ∧ TB 11 3 ≤ 73150 ∧ TB 11 4 ≤ 1353275 ∧ TB 11 5 ≤ 19757815 ∧ TB 11 6 ≤ 237093780 := by
    have h := TB_s (m := 10) g10.1 g10.2.1 g10.2.2.1 g10.2.2.2.1 g10.2.2.2.2.1 g10.2.2.2.2.2.1 g10.2.2.2.2.2.2
    omega
  have hn' : n = 0 ∨ n = 1 ∨ n = 2 ∨ n = 3 ∨ n = 4 ∨ n = 5 ∨ n = 6 ∨ n = 7 ∨ n = 8 ∨ n = 9 ∨ n = 10 ∨ n = 11 := by omega
  have hs' : s = 0 ∨ s = 1 ∨ s = 2 ∨ s = 3 ∨ s = 4 ∨ s = 5 ∨ s = 6 := by omega
  rcases hn' with z | z | z | z | z | z | z | z | z | z | z | z <;> subst z <;> rcases hs' with z | z | z | z | z | z | z <;> subst z <;> omega
end BDD
