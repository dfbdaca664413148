/-! BOUND: the pair -/
section PRR
variable {X : Nat × (Nat → Int)} {σ τ : xM}
theorem fold_f : ∀ (L : List Int) (f : Int), (∀ x, x ∈ L → 0 ≤ x) → (f < 0 → (L = [] ∧ L.foldl fstS f = f) ∨ (L.foldl fstS f ∈ L ∧ ∀ x, x ∈ L → L.foldl fstS f ≤ x)) ∧ (0 ≤ f → (L.foldl fstS f = f ∨ L.foldl fstS f ∈ L) ∧ L.foldl fstS f ≤ f ∧ ∀ x, x ∈ L → L.foldl fstS f ≤ x)
  | [], f, _ => ⟨fun _ => Or.inl ⟨rfl, rfl⟩, fun _ => ⟨Or.inl rfl, Int.le_refl _, fun x hx => absurd hx (by simp)⟩⟩
  | y :: L, f, h => by
    have y0 := h y (List.mem_cons_self ..)
    have hL : ∀ x, x ∈ L → 0 ≤ x := fun x hx => h x (List.mem_cons_of_mem _ hx)
    rw [List.foldl_cons]
    refine ⟨fun hf => Or.inr ?_, fun hf => ?_⟩
    · have e : fstS f y = y := if_pos (Or.inl hf)
      rw [e]
      obtain ⟨a, b, c⟩ := (fold_f L y hL).2 y0
      refine ⟨?_, fun x hx => ?_⟩
      · rcases a with a | a
        · rw [a]
          exact List.mem_cons_self ..
        · exact List.mem_cons_of_mem _ a
      · rcases List.mem_cons.mp hx with z | z
        · rw [z]
          exact b
        · exact c x z
    · by_cases z : y < f
      · have e : fstS f y = y := if_pos (Or.inr z)
        rw [e]
        obtain ⟨a, b, c⟩ := (fold_f L y hL).2 y0
        refine ⟨?_, by omega, fun x hx => ?_⟩
        · rcases a with a | a
          · rw [a]
            exact Or.inr (List.mem_cons_self ..)
          · exact Or.inr (List.mem_cons_of_mem _ a)
        · rcases List.mem_cons.mp hx with w | w
          · rw [w]
            exact b
          · exact c x w
      · have e : fstS f y = f := if_neg (by omega)
        rw [e]
        obtain ⟨a, b, c⟩ := (fold_f L f hL).2 hf
        refine ⟨?_, b, fun x hx => ?_⟩
        · rcases a with a | a
          · exact Or.inl a
          · exact Or.inr (List.mem_cons_of_mem _ a)
        · rcases List.mem_cons.mp hx with w | w
          · rw [w]
            omega
          · exact c x w
theorem fold_m : ∀ (L : List Int) (m : Int), (L.foldl mstS m = m ∨ L.foldl mstS m ∈ L) ∧ m ≤ L.foldl mstS m ∧ ∀ x, x ∈ L → x ≤ L.foldl mstS m
  | [], m => ⟨Or.inl rfl, Int.le_refl _, fun x hx => absurd hx (by simp)⟩
  | y :: L, m => by
    rw [List.foldl_cons]
    by_cases z : y ≤ m
    · have e : mstS m y = m := if_pos z
      rw [e]
      obtain ⟨a, b, c⟩ := fold_m L m
      refine ⟨?_, b, fun x hx => ?_⟩
      · rcases a with a | a
        · exact Or.inl a
        · exact Or.inr (List.mem_cons_of_mem _ a)
      · rcases List.mem_cons.mp hx with w | w
        · rw [w]
          omega
        · exact c x w
    · have e : mstS m y = y := if_neg z
      rw [e]
      obtain ⟨a, b, c⟩ := fold_m L y
      refine ⟨?_, by omega, fun x hx => ?_⟩
      · rcases a with a | a
        · rw [a]
          exact Or.inr (List.mem_cons_self ..)
        · exact Or.inr (List.mem_cons_of_mem _ a)
      · rcases List.mem_cons.mp hx with w | w
        · rw [w]
          exact b
        · exact c x w
/-- shapeBound -/
theorem s99 {mo : Int} (h8 : σ 49 8 = 0) : ∃ r : Int, (∀ d, Ev X d 99 0 [some (vr 49), some (vi mo), none, none] [] SH σ = some (some (vi r), SH, σ)) ∧ ((r = -1 ∧ ∀ s : Nat, s ≤ 77 → σ 69 s ≤ 0) ∨ (∃ s : Nat, s ≤ 77 ∧ r = (s : Int) ∧ 0 < σ 69 s ∧ ∀ s' : Nat, s' ≤ 77 → 0 < σ 69 s' → (mo = 0 → s ≤ s') ∧ (mo ≠ 0 → s' ≤ s))) := by
  have lp : ∀ (m i : Nat), i + m = 78 → (∀ j : Nat, j < i → σ 69 (if mo = 0 then j else 77 - j) ≤ 0) → ∃ r : Int, (∀ d o3, Ev X d 99 12 [some (vr 49), some (vi mo), some (vi i), o3] [] SH σ = some (some (vi r), SH, σ)) ∧ ((r = -1 ∧ ∀ s : Nat, s ≤ 77 → σ 69 s ≤ 0) ∨ (∃ s : Nat, s ≤ 77 ∧ r = (s : Int) ∧ 0 < σ 69 s ∧ ∀ s' : Nat, s' ≤ 77 → 0 < σ 69 s' → (mo = 0 → s ≤ s') ∧ (mo ≠ 0 → s' ≤ s))) := by
    intro m
    induction m with
    | zero =>
      intro i e hz
      refine ⟨-1, fun d o3 => ?_, Or.inl ⟨rfl, fun s hs => ?_⟩⟩
      · rw [b99_12, if_pos (by omega), b99_48]
      · by_cases y : mo = 0
        · have := hz s (by omega)
          rw [if_pos y] at this
          exact this
        · have := hz (77 - s) (by omega)
          rw [if_neg y, show 77 - (77 - s) = s by omega] at this
          exact this
    | succ m ih =>
      intro i e hz
      have st : ∀ d o3, Ev X d 99 12 [some (vr 49), some (vi mo), some (vi i), o3] [] SH σ = if σ 69 (if mo = 0 then i else 77 - i) ≤ 0 then Ev X d 99 42 [some (vr 49), some (vi mo), some (vi i), some (vi ((if mo = 0 then i else 77 - i : Nat) : Int))] [] SH σ else Ev X d 99 40 [some (vr 49), some (vi mo), some (vi i), some (vi ((if mo = 0 then i else 77 - i : Nat) : Int))] [] SH σ := by
        intro d o3
        rw [b99_12, if_neg (by omega), b99_18]
        by_cases y : mo = 0
        · rw [if_pos y, if_pos y, b99_29, b99_30 (by omega), Int.toNat_natCast]
        · rw [if_neg y, if_neg y, b99_22, show xsub 77 (i : Int) = ((77 - i : Nat) : Int) by rw [xsub_eq (by omega) (by omega)]; omega, b99_30 (by omega), Int.toNat_natCast]
      by_cases z : σ 69 (if mo = 0 then i else 77 - i) ≤ 0
      · obtain ⟨r, p1, p2⟩ := ih (i + 1) (by omega) (fun j hj => by
          by_cases w : j = i
          · rw [w]
            exact z
          · exact hz j (by omega))
        refine ⟨r, fun d o3 => ?_, p2⟩
        rw [st, if_pos z, b99_42, xad1 (by omega)]
        exact p1 d _
      · refine ⟨((if mo = 0 then i else 77 - i : Nat) : Int), fun d o3 => ?_, Or.inr ⟨if mo = 0 then i else 77 - i, by split <;> omega, rfl, by omega, fun s' hs hp => ⟨fun y => ?_, fun y => ?_⟩⟩⟩
        · rw [st, if_neg z, b99_40]
        · rw [if_pos y]
          by_cases w : s' < i
          · have := hz s' w
            rw [if_pos y] at this
            omega
          · omega
        · rw [if_neg y]
          by_cases w : 77 - s' < i
          · have := hz (77 - s') w
            rw [if_neg y, show 77 - (77 - s') = s' by omega] at this
            omega
          · omega
  obtain ⟨r, p1, p2⟩ := lp 78 0 (by omega) (fun j hj => absurd hj (by omega))
  refine ⟨r, fun d => ?_, p2⟩
  rw [b99_0, if_pos h8, b99_10]
  exact p1 d _
theorem pr_bound {mo : Int} (h : Core σ) (hL : CacheL σ) : Pair X 26 260 [some (vr 0), some (vi mo)] [some (vr 100), some (vi mo)] σ (PostC σ) := by
  obtain ⟨e16, n0, n1⟩ := n_row h
  by_cases y2 : σ 23 0 = 0
  · refine ⟨-1, σ, σ, fun d => ?_, fun d => ?_, PostC_rf h hL⟩
    · rw [b26_0, if_neg (fun z => z y2), b26_10]
    · rw [b260_0, if_neg (by omega), b260_7]
  · obtain ⟨σ1, a1, a2, a3, a4, a5⟩ := lrn_S (X := X) h hL (by omega)
    have g7 : σ1 100 16 = σ 100 16 := (LM_cg (t := 0) (l := 0) a2 rfl).2.2.2.2.2.2.1
    have n6 : 0 < σ1 100 16 := by rw [g7]; omega
    have n6' : σ1 100 16 ≠ 0 := by omega
    obtain ⟨r, σ2, b1, b2, b3, b4, b5⟩ := mod_S (X := X) (σ := σ1) (nth := -1) (my := -1) (on := -1) a3 n6 (Or.inl ⟨by decide, rfl⟩)
    have cl : ∀ v, (∀ d, Ev X d 99 0 [some (vr 49), some (vi mo), none, none] [] SH σ1 = some (some (vi v), SH, σ1)) → ∀ d, Ev X (d + 100) 26 0 [some (vr 0), some (vi mo)] [] SH σ = some (some (vi v), SH, σ1) := by
      intro v hv d
      rw [b26_0, if_pos y2]
      refine Eq.trans b26_12 ?_
      refine x_bind (a1 (d + 78)) ?_
      dsimp only
      refine Eq.trans b26_19 ?_
      refine x_bind (hv _) ?_
      exact b26_27
    have md : ∀ d, Ev X (d + 100) 260 0 [some (vr 100), some (vi mo)] [] SH σ1 = some (some (vi (if r ≠ -2 then (if mo = 0 then σ2 100 52 else σ2 100 53) else -2)), SH, σ2) := by
      intro d
      rw [b260_0, if_pos n6']
      refine Eq.trans b260_9 ?_
      refine x_bind (b1 (d + 93)) ?_
      dsimp only
      refine Eq.trans b260_15 ?_
      by_cases z : r ≠ -2
      · rw [if_pos z, if_pos z, b260_23]
        by_cases w : mo = 0
        · rw [if_pos w, if_pos w, b260_34, b260_38]
        · rw [if_neg w, if_neg w, b260_27, b260_38]
      · rw [if_neg z, if_neg z, b260_20]
    rcases a5 with ⟨k1, k2⟩ | ⟨k1, k2, k3⟩
    · have r1 := b4 k1
      rw [if_neg (fun z => z r1)] at md
      refine ⟨-2, σ1, σ2, cl (-2) (fun d => ?_), md, PostC_mg a2 b2 b3 a4⟩
      rw [b99_0, if_neg (by omega), b99_7]
    · obtain ⟨r1, r2, r3⟩ := (b5 k1).1 (by decide)
      have ne : r ≠ -2 := by rw [r1]; omega
      rw [if_pos ne] at md
      obtain ⟨v, s1, s2⟩ := s99 (X := X) (mo := mo) k2
      -- what the counts say of the list
      have stk77 : ∀ x, x ∈ (LG σ1 Fall (-1)).map (stkB (BW (σ1 102) (σ1 107)) (nM σ1)) → 0 ≤ x ∧ x ≤ 77 := by
        intro x hx
        obtain ⟨q, _, rfl⟩ := List.mem_map.mp hx
        obtain ⟨hw, _, _⟩ := WST_of a3 n6
        have n11 := hw.2.2.2.1
        have := nsum_le (f := fun c => wtB (BW (σ1 102) (σ1 107)) c (q c)) (b := 7) (nM σ1) (fun j hj => by
          show wtB (BW (σ1 102) (σ1 107)) j (q j) ≤ 7
          unfold wtB
          have := pc_rg (BW (σ1 102) (σ1 107) j (q j)).toNat
          omega)
        unfold stkB
        omega
      have pos : ∀ s : Nat, s ≤ 77 → (0 < σ1 69 s ↔ (s : Int) ∈ (LG σ1 Fall (-1)).map (stkB (BW (σ1 102) (σ1 107)) (nM σ1))) := by
        intro s hs
        rw [k3 s hs]
        constructor
        · intro hp
          have : 0 < (LG σ1 Fall (-1)).countP (fun p => decide (nsum (fun c => wtB (BW (σ1 102) (σ1 107)) c (p c)) (nM σ1) = s)) := by omega
          obtain ⟨q, q1, q2⟩ := List.countP_pos_iff.mp this
          refine List.mem_map.mpr ⟨q, q1, ?_⟩
          unfold stkB
          rw [of_decide_eq_true q2]
        · intro hm
          obtain ⟨q, q1, q2⟩ := List.mem_map.mp hm
          have : 0 < (LG σ1 Fall (-1)).countP (fun p => decide (nsum (fun c => wtB (BW (σ1 102) (σ1 107)) c (p c)) (nM σ1) = s)) := List.countP_pos_iff.mpr ⟨q, q1, decide_eq_true (by unfold stkB at q2; omega)⟩
          omega
      generalize (LG σ1 Fall (-1)).map (stkB (BW (σ1 102) (σ1 107)) (nM σ1)) = L at r2 r3 stk77 pos
      have fF := (fold_f L (-1) (fun x hx => (stk77 x hx).1)).1 (by decide)
      have fM := fold_m L (-1)
      have eq : v = if mo = 0 then σ2 100 52 else σ2 100 53 := by
        rw [r2, r3]
        rcases s2 with ⟨v1, v2⟩ | ⟨s, v1, v2, v3, v4⟩
        · have emp : ∀ x, ¬ x ∈ L := by
            intro x hx
            obtain ⟨x0, x1⟩ := stk77 x hx
            have := v2 x.toNat (by omega)
            have := (pos x.toNat (by omega)).mpr (by rw [Int.toNat_of_nonneg x0]; exact hx)
            omega
          have e0 : L = [] := List.eq_nil_iff_forall_not_mem.mpr emp
          rw [e0, v1]
          split <;> rfl
        · have sm := (pos s v1).mp v3
          by_cases y : mo = 0
          · rw [if_pos y, v2]
            rcases fF with ⟨z, _⟩ | ⟨z1, z2⟩
            · rw [z] at sm
              exact absurd sm (by simp)
            · obtain ⟨x0, x1⟩ := stk77 _ z1
              have p := (pos (L.foldl fstS (-1)).toNat (by omega)).mpr (by rw [Int.toNat_of_nonneg x0]; exact z1)
              have := (v4 _ (by omega) p).1 y
              have := z2 _ sm
              omega
          · rw [if_neg y, v2]
            obtain ⟨z1, z2, z3⟩ := fM
            have h3 := z3 _ sm
            rcases z1 with z1 | z1
            · omega
            · obtain ⟨x0, x1⟩ := stk77 _ z1
              have p := (pos (L.foldl mstS (-1)).toNat (by omega)).mpr (by rw [Int.toNat_of_nonneg x0]; exact z1)
              have := (v4 _ (by omega) p).2 y
              omega
      rw [← eq] at md
      exact ⟨v, σ1, σ2, cl v s1, md, PostC_mg a2 b2 b3 a4⟩
end PRR
