/-! NEXT: the pair -/
/-- the best of the places before s: where it is, and its worst -/
def bsp (W : Nat → Int) (T : Int) (pl : Nat → Int) : Nat → Int × Int
  | 0 => (-1, 0)
  | s + 1 => if ((s % 7 : Nat) : Int) < pl (s / 7) then (if (bsp W T pl s).1 < 0 ∨ xmax (W s) (T - W s) < (bsp W T pl s).2 then ((s : Int), xmax (W s) (T - W s)) else bsp W T pl s) else bsp W T pl s
section NXT
variable {X : Nat × (Nat → Int)} {σ τ : xM}
theorem isum_one {a b : Nat → Int} {k : Nat} : ∀ m, isum (fun i => (a i + if k = i then 1 else 0) * b i) m = isum (fun i => a i * b i) m + if k < m then b k else 0
  | 0 => by simp [isum]
  | m + 1 => by
    rw [isum, isum, isum_one m]
    by_cases y : k = m
    · subst y
      rw [if_neg (by omega), if_pos rfl, if_pos (by omega), Int.add_mul]
      omega
    · rw [if_neg y, Int.add_zero]
      by_cases z : k < m
      · rw [if_pos z, if_pos (by omega)]
        omega
      · rw [if_neg z, if_neg (by omega)]
        omega
theorem sumB_cnt {B : Nat → Nat → Int} {c p m : Nat} : ∀ L : List (Nat → Nat), (∀ q, q ∈ L → q c < m) → isum (fun i => ((L.countP (fun q => decide (q c = i)) : Nat) : Int) * bitI (B c i) p) m = sumB B c p L
  | [], _ => by
    rw [sumB]
    simp only [List.countP_nil]
    exact isum_0 m (fun i _ => by simp)
  | q :: L, h => by
    have e : ∀ i, (((q :: L).countP (fun q => decide (q c = i)) : Nat) : Int) = ((L.countP (fun q => decide (q c = i)) : Nat) : Int) + if q c = i then 1 else 0 := by
      intro i
      rw [List.countP_cons]
      by_cases y : q c = i
      · rw [if_pos (by simpa using y), if_pos y]
        omega
      · rw [if_neg (by simpa using y), if_neg y]
        omega
    simp only [e]
    rw [isum_one, sumB_cnt L (fun q' hq => h q' (List.mem_cons_of_mem _ hq)), if_pos (h q (List.mem_cons_self ..)), sumB]
    omega
theorem sumB_rg {B : Nat → Nat → Int} {c p : Nat} : ∀ L : List (Nat → Nat), (∀ q, q ∈ L → bitI (B c (q c)) p = 0 ∨ bitI (B c (q c)) p = 1) → 0 ≤ sumB B c p L ∧ sumB B c p L ≤ (L.length : Int)
  | [], _ => by
    rw [sumB]
    simp
  | q :: L, h => by
    have h1 := h q (List.mem_cons_self ..)
    have h2 := sumB_rg L (fun q' hq => h q' (List.mem_cons_of_mem _ hq))
    rw [sumB, List.length_cons]
    omega
theorem bsp_lt {W : Nat → Int} {T : Int} {pl : Nat → Int} : ∀ s : Nat, (bsp W T pl s).1 < (s : Int) ∧ -1 ≤ (bsp W T pl s).1
  | 0 => by
    rw [bsp]
    exact ⟨by decide, by decide⟩
  | s + 1 => by
    have h := bsp_lt (W := W) (T := T) (pl := pl) s
    rw [bsp]
    repeat' split
    all_goals (first | omega | (dsimp only; omega))
theorem bsp_pos {W : Nat → Int} {T : Int} {pl : Nat → Int} (h0 : 0 < pl 0) : ∀ s : Nat, 0 ≤ (bsp W T pl (s + 1)).1
  | 0 => by
    rw [bsp, bsp, if_pos (by simpa using h0), if_pos (Or.inl (by decide))]
    exact Int.le_refl _
  | s + 1 => by
    have h := bsp_pos (W := W) (T := T) (pl := pl) h0 s
    rw [bsp]
    repeat' split
    all_goals (first | omega | (dsimp only; omega))
/-- past the places of a sign nothing changes -/
theorem bsp_up {W : Nat → Int} {T : Int} {pl : Nat → Int} {c : Nat} : ∀ m p : Nat, p + m = 7 → pl c ≤ (p : Int) → bsp W T pl (7 * c + p) = bsp W T pl (7 * (c + 1))
  | 0, p, e, _ => by
    rw [show 7 * c + p = 7 * (c + 1) by omega]
  | m + 1, p, e, h => by
    rw [← bsp_up m (p + 1) (by omega) (by omega), show 7 * c + (p + 1) = (7 * c + p) + 1 by omega, bsp, if_neg (by
      rw [show (7 * c + p) % 7 = p by omega, show (7 * c + p) / 7 = c by omega]
      omega)]
/-- foundWith -/
theorem s190 {c p : Nat} {L : List (Nat → Nat)} (hW : WF (σ 102)) (hF : FC (σ 102) (σ 3 5) (σ 6) (σ 7) (σ 8)) (hc : c < nM σ) (hc11 : nM σ ≤ 11) (hp : p < 7) (hf : σ 24 c = 0 ∨ σ 24 c = 1) (e : σ 107 c = σ 24 c) (hm : ∀ q, q ∈ L → q c ∈ moW (σ 102) (σ 107) c) (hR : REs σ L) (hL : L.length ≤ 200000) : ∀ d, Ev X (d + 2) 190 0 [some (vr 50), some (vi c), some (vi (σ 24 c)), some (vi p), none, none] [] SH σ = some (some (vi (sumB (BW (σ 102) (σ 107)) c p L)), SH, σ) := by
  intro d
  have fb := (frm_B hF hf).1
  have fr := frm_of hW hF
  generalize hN : nz (wF (σ 24 c) (σ 102)) 20 = N at fb
  have N20 : N ≤ 20 := by
    rw [← hN]
    exact nz_le 20
  have cn := hR.2.2.2
  have bt : ∀ i : Nat, i < N → bitI (BW (σ 102) (σ 107) c i) p = 0 ∨ bitI (BW (σ 102) (σ 107) c i) p = 1 := by
    intro i hi
    have b := BW_f71 (fg := σ 107) hF (c := c) (by rw [e]; exact hf) (i := i) (by rw [e, ← fb]; omega)
    have rg := f71_rg fr (σ 107 c) (i : Int)
    exact bitI_01 (by rw [b]; exact rg.1) (by rw [b]; exact rg.2) hp
  have hq : ∀ q, q ∈ L → q c < N := by
    intro q hq
    have := hm q hq
    unfold moW at this
    rw [e, hN] at this
    exact List.mem_range.mp this
  have cl : ∀ i, (L.countP (fun q => decide (q c = i))) ≤ 200000 := fun i => Nat.le_trans (List.countP_le_length ..) hL
  have tot := sumB_cnt (B := BW (σ 102) (σ 107)) (p := p) (m := N) L hq
  have rgs : ∀ m, m ≤ N → 0 ≤ isum (fun i => ((L.countP (fun q => decide (q c = i)) : Nat) : Int) * bitI (BW (σ 102) (σ 107) c i) p) m ∧ isum (fun i => ((L.countP (fun q => decide (q c = i)) : Nat) : Int) * bitI (BW (σ 102) (σ 107) c i) p) m ≤ 200000 * (m : Int) := by
    intro m
    induction m with
    | zero => intro _; simp [isum]
    | succ m ih =>
      intro hm
      have h1 := ih (by omega)
      have h2 := bt m (by omega)
      have h3 := cl m
      rw [isum]
      rcases h2 with z | z
      · rw [z, Int.mul_zero]
        omega
      · rw [z, Int.mul_one]
        omega
  have lp : ∀ (m i : Nat), i + m = N → Ev X (d + 2) 190 6 [some (vr 50), some (vi c), some (vi (σ 24 c)), some (vi p), some (vi (isum (fun i => ((L.countP (fun q => decide (q c = i)) : Nat) : Int) * bitI (BW (σ 102) (σ 107) c i) p) i)), some (vi i)] [] SH σ = some (some (vi (sumB (BW (σ 102) (σ 107)) c p L)), SH, σ) := by
    intro m
    induction m with
    | zero =>
      intro i ei
      have ei : i = N := by omega
      subst ei
      refine Eq.trans (b190_6 (Or.inl rfl)) ?_
      refine x_bind s72 ?_
      dsimp only
      refine Eq.trans b190_16 ?_
      rw [if_pos (by omega), b190_67, tot]
    | succ m ih =>
      intro i ei
      have xi : xadd (xmul (c : Int) 20) (i : Int) = ((20 * c + i : Nat) : Int) := by
        rw [xmul_eq (by omega) (by omega), show (c : Int) * 20 = ((20 * c : Nat) : Int) by omega, xad (by omega)]
      refine Eq.trans (b190_6 (Or.inl rfl)) ?_
      refine x_bind s72 ?_
      dsimp only
      refine Eq.trans b190_16 ?_
      rw [if_neg (by omega), b190_19, if_neg (by omega), b190_23, if_neg (by omega)]
      refine Eq.trans (b190_29 (Or.inl rfl) (by rw [xi]; omega)) ?_
      refine x_bind (s71 fr.2.1) ?_
      dsimp only
      refine Eq.trans b190_53 ?_
      have b := BW_f71 (fg := σ 107) hF (c := c) (by rw [e]; exact hf) (i := i) (by rw [e, ← fb]; omega)
      rw [e] at b
      have h1 := rgs i (by omega)
      have h2 := bt i (by omega)
      have h3 := cl i
      have v : xadd (isum (fun i => ((L.countP (fun q => decide (q c = i)) : Nat) : Int) * bitI (BW (σ 102) (σ 107) c i) p) i) (xmul (σ (50 + 18) (xadd (xmul (c : Int) 20) (i : Int)).toNat) (xand (xshr (f71 σ (σ 24 c) (i : Int)) (p : Int)) 1)) = isum (fun i => ((L.countP (fun q => decide (q c = i)) : Nat) : Int) * bitI (BW (σ 102) (σ 107) c i) p) (i + 1) := by
        rw [xi, Int.toNat_natCast, cn c i hc (by omega), ← b, show xand (xshr (BW (σ 102) (σ 107) c i) (p : Int)) 1 = bitI (BW (σ 102) (σ 107) c i) p from rfl, isum]
        rcases h2 with z | z
        · rw [z, xmul_eq (by omega) (by omega), Int.mul_zero, xadd_eq (by omega) (by omega)]
        · rw [z, xmul_eq (by omega) (by omega), Int.mul_one, xadd_eq (by omega) (by omega)]
      rw [v, xad1 (by omega)]
      exact ih (i + 1) (by omega)
  rw [b190_0]
  exact lp N 0 (by omega)
theorem bsp_st {W : Nat → Int} {T : Int} {pl : Nat → Int} (hW : ∀ s, s < 77 → 0 ≤ W s ∧ W s ≤ T) : ∀ s : Nat, s ≤ 77 → 0 ≤ (bsp W T pl s).1 → 0 ≤ (bsp W T pl s).2 ∧ (bsp W T pl s).2 ≤ T
  | 0, _ => by
    rw [bsp]
    intro h
    exact absurd h (by decide)
  | s + 1, hs => by
    have h := bsp_st (pl := pl) hW s (by omega)
    have w := hW s (by omega)
    have m : 0 ≤ xmax (W s) (T - W s) ∧ xmax (W s) (T - W s) ≤ T := by
      unfold xmax
      split <;> omega
    rw [bsp]
    split
    · split
      · intro _
        exact m
      · exact h
    · exact h
/-- bestSpot -/
theorem s100 {n T : Nat} {W pl : Nat → Int} (hn : σ 23 0 = (n : Int)) (hn1 : n ≤ 11) (hn0 : 0 < n) (e6 : σ 49 6 = (T : Int)) (hT : T ≤ 200000) (hW : ∀ s, s < 77 → 0 ≤ W s ∧ W s ≤ (T : Int)) (hpl : ∀ c, c < n → pl c = if σ 24 c = 0 then 5 else 7) (h190 : ∀ s d, s < 7 * n → ((s % 7 : Nat) : Int) < pl (s / 7) → Ev X (d + 2) 190 0 [some (vr 50), some (vi ((s / 7 : Nat) : Int)), some (vi (σ 24 (s / 7))), some (vi ((s % 7 : Nat) : Int)), none, none] [] SH σ = some (some (vi (W s)), SH, σ)) : ∀ d, Ev X (d + 3) 100 0 [some (vr 49), none, none, none, none, none, none, none] [] SH σ = some (some (vi (bsp W (T : Int) pl (7 * n)).1), SH, σ) := by
  intro d
  have p0 : 0 < pl 0 := by
    rw [hpl 0 hn0]
    split <;> omega
  have xn : xmul (σ 23 0) 7 = ((7 * n : Nat) : Int) := by
    rw [hn, xmul_eq (by omega) (by omega)]
    omega
  have lp : ∀ (m s : Nat) (a1 a2 : Int) (o4 o5 o6 o7 : Option xV), s + m = 7 * n → (((bsp W (T : Int) pl s).1 < 0 ∧ a1 = 0 ∧ a2 = (T : Int) + 1) ∨ (0 ≤ (bsp W (T : Int) pl s).1 ∧ a1 = (bsp W (T : Int) pl s).1 ∧ a2 = (bsp W (T : Int) pl s).2)) → Ev X (d + 3) 100 11 [some (vr 49), some (vi a1), some (vi a2), some (vi s), o4, o5, o6, o7] [] SH σ = some (some (vi (bsp W (T : Int) pl (7 * n)).1), SH, σ) := by
    intro m
    induction m with
    | zero =>
      intro s a1 a2 o4 o5 o6 o7 es h
      have es : s = 7 * n := by omega
      subst es
      have pp := bsp_pos (W := W) (T := (T : Int)) (pl := pl) p0 (7 * n - 1)
      rw [show 7 * n - 1 + 1 = 7 * n by omega] at pp
      rw [b100_11, if_pos (by rw [xn]; omega), b100_113]
      rcases h with z | z
      · omega
      · rw [z.2.1]
    | succ m ih =>
      intro s a1 a2 o4 o5 o6 o7 es h
      have st := bsp_st (pl := pl) hW s (by omega)
      have xd : xdiv (s : Int) 7 = ((s / 7 : Nat) : Int) := xdivn (b := 7) (by omega) (by omega) (by omega)
      have xr : xrem (s : Int) 7 = ((s % 7 : Nat) : Int) := xremn (b := 7) (by omega) (by omega) (by omega)
      have c7 : s / 7 < n := by omega
      have f37 : f137 σ 23 ((s / 7 : Nat) : Int) ((s % 7 : Nat) : Int) = if ((s % 7 : Nat) : Int) < pl (s / 7) then 1 else 0 := by
        have f36 : ¬ f136 σ 23 ((s / 7 : Nat) : Int) = 0 := by
          unfold f136
          rw [if_neg (by omega), if_neg (by omega), if_neg (by omega)]
          decide
        unfold f137
        rw [if_neg f36, if_neg (by omega), Int.toNat_natCast, hpl _ c7]
        by_cases y : σ 24 (s / 7) = 0
        · rw [if_pos y, if_pos y]
          split <;> split <;> omega
        · rw [if_neg y, if_neg y]
          split <;> split <;> omega
      rw [b100_11, if_neg (by rw [xn]; omega)]
      refine Eq.trans b100_25 ?_
      rw [xd, xr]
      refine x_bind (s137 (Or.inl rfl)) ?_
      dsimp only
      refine Eq.trans b100_48 ?_
      rw [f37]
      by_cases y : ((s % 7 : Nat) : Int) < pl (s / 7)
      · have i1 : ¬ ((1 : Int) = 0) := by decide
        have w := hW s (by omega)
        rw [if_pos y, if_neg i1]
        refine Eq.trans (b100_51 (by omega)) ?_
        rw [Int.toNat_natCast]
        refine x_bind (h190 s (d) (by omega) y) ?_
        dsimp only
        refine Eq.trans b100_72 ?_
        rw [e6, xsub_eq (by omega) (by omega)]
        have mx : 0 ≤ xmax (W s) ((T : Int) - W s) ∧ xmax (W s) ((T : Int) - W s) ≤ (T : Int) := by
          unfold xmax
          split <;> omega
        have bs : bsp W (T : Int) pl (s + 1) = if (bsp W (T : Int) pl s).1 < 0 ∨ xmax (W s) ((T : Int) - W s) < (bsp W (T : Int) pl s).2 then ((s : Int), xmax (W s) ((T : Int) - W s)) else bsp W (T : Int) pl s := by
          rw [bsp, if_pos y]
        generalize xmax (W s) ((T : Int) - W s) = M at mx bs ⊢
        by_cases z : a2 ≤ M
        · rw [if_pos z, b100_98, b100_99, b100_107, xad1 (by omega)]
          refine ih (s + 1) _ _ _ _ _ _ (by omega) ?_
          rcases h with ⟨q1, q2, q3⟩ | ⟨q1, q2, q3⟩
          · omega
          · rw [bs, if_neg (by omega)]
            refine Or.inr ⟨q1, q2, ?_⟩
            unfold xmin
            split <;> omega
        · rw [if_neg z, b100_94, b100_99, b100_107, xad1 (by omega)]
          refine ih (s + 1) _ _ _ _ _ _ (by omega) ?_
          have zz : (bsp W (T : Int) pl s).1 < 0 ∨ M < (bsp W (T : Int) pl s).2 := by
            rcases h with ⟨q1, q2, q3⟩ | ⟨q1, q2, q3⟩
            · exact Or.inl q1
            · exact Or.inr (by omega)
          rw [bs, if_pos zz]
          refine Or.inr ⟨by dsimp only; omega, rfl, ?_⟩
          dsimp only
          unfold xmin
          split <;> omega
      · have bs : bsp W (T : Int) pl (s + 1) = bsp W (T : Int) pl s := by
          rw [bsp, if_neg y]
        rw [if_neg y, if_pos rfl, b100_107, xad1 (by omega)]
        refine ih (s + 1) _ _ _ _ _ _ (by omega) ?_
        rw [bs]
        exact h
  rw [b100_0, e6, xadd_eq (by omega) (by omega)]
  refine lp (7 * n) 0 _ _ _ _ _ _ (by omega) (Or.inl ⟨?_, rfl, rfl⟩)
  rw [bsp]
  decide
/-- the model's loop of next -/
theorem it286 {n T : Nat} {W pl : Nat → Int} {a2 : Int} {o1 : Option xV} (hn : σ 100 16 = (n : Int)) (hn1 : n ≤ 11) (hT : T ≤ 200000) (hW : ∀ s, s < 77 → 0 ≤ W s ∧ W s ≤ (T : Int)) (hpl : ∀ c, c < n → pl c = if σ 107 c = 0 then 5 else 7) (e137 : ∀ c p : Nat, c < n → p < 7 → σ 137 (7 * c + p) = W (7 * c + p)) : ∀ d o7 o8 o9, ∃ q5 q6 q7 q8 q9, Ev X (d + 1) 286 52 [some (vr 100), o1, some (vi a2), some (vi T), some (vi (-1)), some (vi 0), some (vi 0), o7, o8, o9] [] SH σ = Ev X (d + 1) 286 151 [some (vr 100), o1, some (vi a2), some (vi T), some (vi (bsp W (T : Int) pl (7 * n)).1), q5, q6, q7, q8, q9] [] SH σ := by
  intro d
  have lpP : ∀ (c : Nat), c < n → ∀ (m p : Nat) (o8 o9 : Option xV), p + m = 7 → (p : Int) ≤ pl c → ∃ q7 q8 q9, Ev X (d + 1) 286 64 [some (vr 100), o1, some (vi a2), some (vi T), some (vi (bsp W (T : Int) pl (7 * c + p)).1), some (vi (bsp W (T : Int) pl (7 * c + p)).2), some (vi c), some (vi p), o8, o9] [] SH σ = Ev X (d + 1) 286 145 [some (vr 100), o1, some (vi a2), some (vi T), some (vi (bsp W (T : Int) pl (7 * (c + 1))).1), some (vi (bsp W (T : Int) pl (7 * (c + 1))).2), some (vi c), q7, q8, q9] [] SH σ := by
    intro c hc m
    have f280e : f280 σ (c : Int) = pl c := by
      unfold f280
      rw [Int.toNat_natCast, hpl c hc]
    have p57 : pl c = 5 ∨ pl c = 7 := by
      rw [hpl c hc]
      split
      · exact Or.inl rfl
      · exact Or.inr rfl
    have done : ∀ (p : Nat) (o8 o9 : Option xV), p ≤ 7 → pl c ≤ (p : Int) → ∃ q7 q8 q9, Ev X (d + 1) 286 64 [some (vr 100), o1, some (vi a2), some (vi T), some (vi (bsp W (T : Int) pl (7 * c + p)).1), some (vi (bsp W (T : Int) pl (7 * c + p)).2), some (vi c), some (vi p), o8, o9] [] SH σ = Ev X (d + 1) 286 145 [some (vr 100), o1, some (vi a2), some (vi T), some (vi (bsp W (T : Int) pl (7 * (c + 1))).1), some (vi (bsp W (T : Int) pl (7 * (c + 1))).2), some (vi c), q7, q8, q9] [] SH σ := by
      intro p o8 o9 h1 h2
      refine ⟨some (vi p), o8, o9, ?_⟩
      refine Eq.trans b286_64 ?_
      refine x_bind (s280 (by omega) (by omega)) ?_
      dsimp only
      refine Eq.trans b286_72 ?_
      rw [f280e, if_pos h2, bsp_up (7 - p) p (by omega) h2]
    induction m with
    | zero =>
      intro p o8 o9 e h
      exact done p o8 o9 (by omega) (by omega)
    | succ m ih =>
      intro p o8 o9 e h
      by_cases y : pl c ≤ (p : Int)
      · exact done p o8 o9 (by omega) y
      · have w := hW (7 * c + p) (by omega)
        have xo : xadd (xmul 7 (c : Int)) (p : Int) = ((7 * c + p : Nat) : Int) := by
          rw [xmul_eq (by omega) (by omega), show (7 : Int) * (c : Int) = ((7 * c : Nat) : Int) by omega, xad (by omega)]
        have bs : bsp W (T : Int) pl (7 * c + (p + 1)) = if (bsp W (T : Int) pl (7 * c + p)).1 < 0 ∨ xmax (W (7 * c + p)) ((T : Int) - W (7 * c + p)) < (bsp W (T : Int) pl (7 * c + p)).2 then (((7 * c + p : Nat) : Int), xmax (W (7 * c + p)) ((T : Int) - W (7 * c + p))) else bsp W (T : Int) pl (7 * c + p) := by
          rw [show 7 * c + (p + 1) = (7 * c + p) + 1 by omega, bsp, if_pos (by
            rw [show (7 * c + p) % 7 = p by omega, show (7 * c + p) / 7 = c by omega]
            omega)]
        have st : ∃ q8, Ev X (d + 1) 286 64 [some (vr 100), o1, some (vi a2), some (vi T), some (vi (bsp W (T : Int) pl (7 * c + p)).1), some (vi (bsp W (T : Int) pl (7 * c + p)).2), some (vi c), some (vi p), o8, o9] [] SH σ = Ev X (d + 1) 286 108 [some (vr 100), o1, some (vi a2), some (vi T), some (vi (bsp W (T : Int) pl (7 * c + p)).1), some (vi (bsp W (T : Int) pl (7 * c + p)).2), some (vi c), some (vi p), q8, o9] [vi (xmax (W (7 * c + p)) ((T : Int) - W (7 * c + p)))] SH σ := by
          refine ⟨some (vi (W (7 * c + p))), ?_⟩
          refine Eq.trans b286_64 ?_
          refine x_bind (s280 (by omega) (by omega)) ?_
          dsimp only
          refine Eq.trans b286_72 ?_
          rw [f280e, if_neg y, b286_75 (by rw [xo]; omega), xo, Int.toNat_natCast, e137 c p hc (by omega), xsub_eq (by omega) (by omega)]
          unfold xmax
          by_cases z : W (7 * c + p) ≤ (T : Int) - W (7 * c + p)
          · rw [if_pos z, b286_104, xsub_eq (by omega) (by omega)]
            by_cases z2 : W (7 * c + p) < (T : Int) - W (7 * c + p)
            · rw [if_pos z2]
            · rw [if_neg z2, show (T : Int) - W (7 * c + p) = W (7 * c + p) by omega]
          · rw [if_neg z, b286_99, if_neg (by omega)]
        obtain ⟨q8, st⟩ := st
        generalize xmax (W (7 * c + p)) ((T : Int) - W (7 * c + p)) = M at bs st
        obtain ⟨r7, r8, r9, ih⟩ := ih (p + 1) (xkill q8) (some (vi M)) (by omega) (by omega)
        refine ⟨r7, r8, r9, ?_⟩
        rw [st, b286_108]
        by_cases z1 : (bsp W (T : Int) pl (7 * c + p)).1 < 0
        · rw [bs, if_pos (Or.inl z1)] at ih
          rw [if_pos z1, b286_125, b286_139, xo, xad1 (by omega)]
          exact ih
        · rw [if_neg z1, b286_115]
          by_cases z2 : M < (bsp W (T : Int) pl (7 * c + p)).2
          · rw [bs, if_pos (Or.inr z2)] at ih
            rw [if_pos z2, b286_125, b286_139, xo, xad1 (by omega)]
            exact ih
          · rw [bs, if_neg (by omega)] at ih
            rw [if_neg z2, b286_122, b286_139, xad1 (by omega)]
            exact ih
  have lpC : ∀ (m c : Nat) (o7 o8 o9 : Option xV), c + m = n → ∃ q5 q6 q7 q8 q9, Ev X (d + 1) 286 52 [some (vr 100), o1, some (vi a2), some (vi T), some (vi (bsp W (T : Int) pl (7 * c)).1), some (vi (bsp W (T : Int) pl (7 * c)).2), some (vi c), o7, o8, o9] [] SH σ = Ev X (d + 1) 286 151 [some (vr 100), o1, some (vi a2), some (vi T), some (vi (bsp W (T : Int) pl (7 * n)).1), q5, q6, q7, q8, q9] [] SH σ := by
    intro m
    induction m with
    | zero =>
      intro c o7 o8 o9 e
      have e : c = n := by omega
      subst e
      refine ⟨some (vi (bsp W (T : Int) pl (7 * c)).2), some (vi c), o7, o8, o9, ?_⟩
      rw [b286_52, if_pos (by omega)]
    | succ m ih =>
      intro c o7 o8 o9 e
      have hp : ((0 : Nat) : Int) ≤ pl c := by
        rw [hpl c (by omega)]
        split <;> omega
      obtain ⟨q7, q8, q9, h⟩ := lpP c (by omega) 7 0 o8 o9 (by omega) hp
      obtain ⟨r5, r6, r7, r8, r9, ih⟩ := ih (c + 1) q7 q8 q9 (by omega)
      refine ⟨r5, r6, r7, r8, r9, ?_⟩
      rw [b286_52, if_neg (by omega), b286_61]
      refine Eq.trans h ?_
      rw [b286_145, xad1 (by omega)]
      exact ih
  intro o7 o8 o9
  exact lpC n 0 o7 o8 o9 (by omega)
theorem pr_next {a w : Int} (h : Core σ) (hL : CacheL σ) : Pair X 39 286 [some (vr 0), some (vi a), some (vi w), none, none] [some (vr 100), some (vi a), some (vi w), none, none, none, none, none, none, none] σ (PostC σ) := by
  obtain ⟨e16, n0, n1⟩ := n_row h
  by_cases bad : ¬ (0 ≤ w ∧ w ≤ 1) ∨ σ 23 0 = 0
  · refine ⟨-1, σ, σ, fun d => ?_, fun d => ?_, PostC_rf h hL⟩
    · rw [b39_0]
      by_cases y : w < 0
      · rw [if_pos y, b39_19]
      · rw [if_neg y, b39_4]
        by_cases z : 1 < w
        · rw [if_pos z, b39_19]
        · rw [if_neg z, b39_9, if_neg (fun q => q (bad.resolve_left (fun v => v ⟨by omega, by omega⟩))), b39_19]
    · rw [b286_0]
      by_cases y : σ 100 16 = 0
      · rw [if_pos y, b286_16]
      · rw [if_neg y, b286_7]
        by_cases z : w < 0
        · rw [if_pos z, b286_16]
        · rw [if_neg z, b286_11, if_neg (by omega), b286_16]
  · have y1 : 0 ≤ w ∧ w ≤ 1 := Classical.byContradiction (fun z => bad (Or.inl z))
    have y2 : σ 23 0 ≠ 0 := fun z => bad (Or.inr z)
    obtain ⟨v, σ1, a1, a2, a3, a4, a5, a6⟩ := cnt_C (X := X) (a := a) h hL (by omega)
    obtain ⟨_, g2, g3, g4, _, _, g7, _⟩ := LM_cg (t := 0) (l := 0) a2 rfl
    obtain ⟨eG, eP⟩ := LG_cg a2 rfl
    have eF := FS_cg a2 rfl
    have n6 : 0 < σ1 100 16 := by omega
    obtain ⟨r, σ2, b1, b2, b3, b4, b5⟩ := mod_C (X := X) (σ := σ1) (nth := -1) (k := a) a3 n6
    have hmem : ∀ q, q ∈ LG σ1 (FSn σ1 a) (-1) → ∀ c, c < nM σ1 → q c ∈ moW (σ1 102) (σ1 107) c := by
      intro q hq
      obtain ⟨e, he, hh⟩ := List.getElem_of_mem hq
      rw [← hh]
      exact LG_mem he
    rw [eF, eP] at b4 b5
    rw [eF] at hmem
    rw [eG] at b5 hmem
    have post := PostC_mc a2 b2 b3 a4
    have clx : ∀ d, Ev X (d + 100) 39 0 [some (vr 0), some (vi a), some (vi w), none, none] [] SH σ = Ev X (d + 100) 39 31 [some (vr 0), some (vi a), some (vi w), none, none] [vi v] SH σ1 := by
      intro d
      rw [b39_0, if_neg (by omega), b39_4, if_neg (by omega), b39_9, if_pos y2]
      refine Eq.trans b39_21 ?_
      refine x_bind (a1 (d + 78)) ?_
      rfl
    have mdx : ∀ d, Ev X (d + 100) 286 0 [some (vr 100), some (vi a), some (vi w), none, none, none, none, none, none, none] [] SH σ1 = Ev X (d + 100) 286 24 [some (vr 100), some (vi a), some (vi w), none, none, none, none, none, none, none] [vi r] SH σ2 := by
      intro d
      rw [b286_0, if_neg (by omega), b286_7, if_neg (by omega), b286_11, if_pos (by omega)]
      refine Eq.trans b286_18 ?_
      refine x_bind (b1 (d + 93)) ?_
      rfl
    rcases a6 with ⟨z1, z2⟩ | ⟨z1, z2, z3⟩
    · have r2 := b4 z1
      refine ⟨-2, σ1, σ2, fun d => ?_, fun d => ?_, post⟩
      · rw [clx, b39_31, if_neg (by omega), b39_37, if_neg (fun q => q z2), b39_43, b39_49]
      · rw [mdx, b286_24, if_neg (by omega), b286_30, if_neg (fun q => q r2), b286_36, b286_42]
    · obtain ⟨⟨r2, r3⟩, _⟩ := (b5 z1).1 (by decide), True.intro
      by_cases two : 2 ≤ (LG σ (FSn σ a) (-1)).length
      · have ll : (LG σ (FSn σ a) (-1)).length ≤ 200000 := Nat.le_trans lgW_le z1
        generalize LG σ (FSn σ a) (-1) = L at *
        obtain ⟨hw, hrow, hcd⟩ := WST_of a3 n6
        obtain ⟨hW, hF, hn0, hn1, e23, _, _, hf, _⟩ := hw
        have fr := frm_of hW hF
        have bt : ∀ (c p : Nat), c < nM σ1 → p < 7 → ∀ q, q ∈ L → bitI (BW (σ1 102) (σ1 107) c (q c)) p = 0 ∨ bitI (BW (σ1 102) (σ1 107) c (q c)) p = 1 := by
          intro c p hc hp q hq
          have hm := hmem q hq c hc
          have fc : σ1 107 c = 0 ∨ σ1 107 c = 1 := by rw [(hrow c hc).1]; exact hf c hc
          unfold moW at hm
          have hm := List.mem_range.mp hm
          have fb := (frm_B hF fc).1
          have b := BW_f71 hF fc (i := q c) (by omega)
          have rg := f71_rg fr (σ1 107 c) ((q c : Nat) : Int)
          exact bitI_01 (by rw [b]; exact rg.1) (by rw [b]; exact rg.2) hp
        have hWr : ∀ s, s < 77 → 0 ≤ (if s < 7 * nM σ1 then sumB (BW (σ1 102) (σ1 107)) (s / 7) (s % 7) L else 0) ∧ (if s < 7 * nM σ1 then sumB (BW (σ1 102) (σ1 107)) (s / 7) (s % 7) L else 0) ≤ (L.length : Int) := by
          intro s _
          by_cases y : s < 7 * nM σ1
          · rw [if_pos y]
            exact sumB_rg L (bt (s / 7) (s % 7) (by omega) (by omega))
          · rw [if_neg y]
            omega
        have s1 := s100 (X := X) (σ := σ1) (n := nM σ1) (T := L.length) (W := fun s => if s < 7 * nM σ1 then sumB (BW (σ1 102) (σ1 107)) (s / 7) (s % 7) L else 0) (pl := fun c => if σ1 24 c = 0 then 5 else 7) e23 hn1 hn0 (by omega) ll hWr (fun c hc => rfl) (fun s d hs _ => by
          rw [if_pos hs]
          exact s190 hW hF (by omega) hn1 (by omega) (hf _ (by omega)) (hrow _ (by omega)).1 (fun q hq => hmem q hq _ (by omega)) z3 ll d)
        have e107 : σ2 107 = σ1 107 := chg_row b2 (fun _ => rfl) rfl
        have e16' : σ2 100 16 = (nM σ1 : Int) := by
          rw [chg_at b2 rfl rfl]
          unfold nM
          omega
        have s2 := it286 (X := X) (σ := σ2) (n := nM σ1) (T := L.length) (W := fun s => if s < 7 * nM σ1 then sumB (BW (σ1 102) (σ1 107)) (s / 7) (s % 7) L else 0) (pl := fun c => if σ1 24 c = 0 then 5 else 7) (a2 := w) (o1 := some (vi a)) e16' hn1 ll hWr (fun c hc => by rw [e107, (hrow c hc).1]) (fun c p hc hp => by
          rw [if_pos (by omega), show (7 * c + p) / 7 = c by omega, show (7 * c + p) % 7 = p by omega, r3 c p hc hp])
        generalize (bsp (fun s => if s < 7 * nM σ1 then sumB (BW (σ1 102) (σ1 107)) (s / 7) (s % 7) L else 0) (L.length : Int) (fun c => if σ1 24 c = 0 then 5 else 7) (7 * nM σ1)).1 = sp at s1 s2
        refine ⟨if w ≠ 0 then xrem sp 7 else xdiv sp 7, σ1, σ2, fun d => ?_, fun d => ?_, post⟩
        · rw [clx, b39_31, if_pos (by omega)]
          refine Eq.trans b39_50 ?_
          refine x_bind (s1 (d + 96)) ?_
          dsimp only
          refine Eq.trans b39_57 ?_
          by_cases y : w ≠ 0
          · rw [if_pos y, if_pos y, b39_71, b39_76]
          · rw [if_neg y, if_neg y, b39_63, b39_76]
        · rw [mdx, b286_24, if_pos (by omega), b286_43, r2]
          obtain ⟨q5, q6, q7, q8, q9, s2⟩ := s2 (d + 99) none none none
          refine Eq.trans s2 ?_
          rw [b286_151]
          by_cases y : w ≠ 0
          · rw [if_pos y, if_pos y, b286_163, b286_168]
          · rw [if_neg y, if_neg y, b286_155, b286_168]
      · refine ⟨-1, σ1, σ2, fun d => ?_, fun d => ?_, post⟩
        · rw [clx, b39_31, if_neg (by omega), b39_37, if_pos (by omega), b39_48, b39_49]
        · rw [mdx, b286_24, if_neg (by omega), b286_30, if_pos (by omega), b286_41, b286_42]
end NXT
