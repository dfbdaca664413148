/-! SHAPE, COULD, in the class: find -/
noncomputable def lsG (ω : xM) (n : Nat) (fg cd : Nat → Int) (len : Nat) (F : Nat → Nat → Bool) (on : Int) : List (Nat → Nat) := (enumF (opF ω fg F) n 0 (fun _ => 0)).filter (gdB (GD n nil2 nil2 (syF ω fg) (wtF ω fg) 0 on (isum (fun c => if fg c = 0 then 0 else 1) n) cd len 0 0))
section FNG
variable {X : Nat × (Nat → Int)} {σ ω τ : xM} {n len k : Nat} {fg bt cd : Nat → Int} {op : Nat → List Nat} {ct cl : Nat → Nat → Nat} {sy : Nat → Nat → Int} {wt : Nat → Nat → Nat}
/-- isSpent -/
theorem s178 (hk : isWlk k) (hW : WKT k n op ct cl sy wt σ) : ∀ d, Ev X d 178 0 [some (vr k), none, none, none] [] SH σ = some (some (vi (if nprod (fun c => (op c).length) n ≤ 200000 then 0 else 1)), SH, σ) := by
  obtain ⟨w1, w2, w3⟩ := hW
  have pl : ∀ c, c ≤ n → nprod (fun c => (op c).length) c < 2 ^ 62 := by
    intro c hc
    have a := nprod_le (f := fun c => (op c).length) c (fun c' hc' => (w3 c' (by omega)).1)
    have b := p20_le (n := c) (by omega)
    omega
  have lp : ∀ (m c : Nat), c + m = n → ∀ d, Ev X d 178 4 [some (vr k), some (vl (nprod (fun c => (op c).length) c : Int)), none, some (vi c)] [] SH σ = some (some (vi (if nprod (fun c => (op c).length) n ≤ 200000 then 0 else 1)), SH, σ) := by
    intro m
    induction m with
    | zero =>
      intro c e d
      have e : c = n := by omega
      subst e
      rw [b178_4 hk, if_pos (by omega), b178_28]
      by_cases y : nprod (fun c => (op c).length) c ≤ 200000
      · rw [if_pos y, if_pos (by unfold lcmp'; split; omega; split <;> omega), b178_40, b178_41 (Or.inl rfl)]
      · rw [if_neg y, if_neg (by unfold lcmp'; rw [if_neg (by omega), if_neg (by omega)]; decide), b178_36, b178_41 (Or.inr rfl)]
    | succ m ih =>
      intro c e d
      rw [b178_4 hk, if_neg (by omega), b178_12 hk (by omega), Int.toNat_natCast, (w3 c (by omega)).2.1, xad1 (by omega), lmul_nat (pl (c + 1) (by omega))]
      exact ih (c + 1) (by omega) d
  intro d
  rw [b178_0]
  exact lp n 0 (by omega) d
/-- chooseAsSeen -/
theorem s96 {sn kk : Int} {ld br : Nat → Int} {F : Nat → Nat → Bool} (hF : FRM ω) (hn : n ≤ 11) (e23 : ω 23 0 = (n : Int)) (e24 : ω 24 = fg) (hfg : ∀ c, c < n → fg c = 0 ∨ fg c = 1) (hsn : (sn = 0 ∧ ∀ c, ld c = 0 ∧ br c = 0) ∨ (sn = 1 ∧ ∀ (c : Nat) (τ : xM), c < n → (∀ q, ¬ (50 + 10 ≤ q ∧ q ≤ 50 + 14) → τ q = ω q) → ∀ d, Ev X (d + 1) 149 0 [some (vr 41), some (vi kk), some (vi c), some (vi 1), none, none] [] SH τ = some (some (vi (ld c)), SH, τ) ∧ Ev X (d + 1) 149 0 [some (vr 41), some (vi kk), some (vi c), some (vi 0), none, none] [] SH τ = some (some (vi (br c)), SH, τ))) (hFd : ∀ c i, F c i = decide (xand (f71 ω (fg c) (i : Int)) (ld c) = ld c ∧ xand (f71 ω (fg c) (i : Int)) (br c) = 0)) (hW : WKT 50 n (fun _ => []) nil2 nil2 (syF ω fg) (wtF ω fg) ω) : ∃ τ, (∀ d, Ev X (d + 7) 96 0 [some (vr 49), some (vi sn), some (vi kk), none, none, none] [] SH ω = some (none, SH, τ)) ∧ (∀ q, ¬ (50 + 10 ≤ q ∧ q ≤ 50 + 14) → τ q = ω q) ∧ WKT 50 n (opF ω fg F) nil2 nil2 (syF ω fg) (wtF ω fg) τ := by
  have lp : ∀ (m c : Nat) (σ : xM), c + m = n → (∀ q, ¬ (50 + 10 ≤ q ∧ q ≤ 50 + 14) → σ q = ω q) → WKT 50 n (fun c' => if c' < c then opF ω fg F c' else []) nil2 nil2 (syF ω fg) (wtF ω fg) σ → ∃ τ, (∀ d o4 o5, Ev X (d + 7) 96 2 [some (vr 49), some (vi sn), some (vi kk), some (vi c), o4, o5] [] SH σ = some (none, SH, τ)) ∧ (∀ q, ¬ (50 + 10 ≤ q ∧ q ≤ 50 + 14) → τ q = ω q) ∧ WKT 50 n (opF ω fg F) nil2 nil2 (syF ω fg) (wtF ω fg) τ := by
    intro m
    induction m with
    | zero =>
      intro c σ e1 e2 e3
      refine ⟨σ, fun d o4 o5 => ?_, e2, WKT_op e3 (fun c' hc' => by rw [if_pos (by omega)])⟩
      rw [b96_2, if_pos (by rw [e2 23 (by omega), e23]; omega), b96_80]
    | succ m ih =>
      intro c σ e1 e2 e3
      obtain ⟨τ1, q1, q2, q3⟩ := s177 (X := X) (ω := ω) (σ := σ) (k := 50) (n := n) (fg := fg) (ld := ld c) (br := br c) (c := c) (F := F) (op := fun c' => if c' < c then opF ω fg F c' else []) (Or.inl rfl) hF (by omega) hn (hfg c (by omega)) (hFd c) e2 (WKT_op e3 (fun c' hc' => by
        unfold updL
        by_cases y : c' = c
        · rw [if_pos y, y, if_neg (by omega)]
        · rw [if_neg y]))
      obtain ⟨τ, p1, p2, p3⟩ := ih (c + 1) τ1 (by omega) q2 (WKT_op q3 (fun c' hc' => by
        unfold updL
        by_cases y : c' = c
        · rw [if_pos (by omega), if_pos y, y]
        · rw [if_neg y]
          dsimp only
          by_cases z : c' < c
          · rw [if_pos (by omega), if_pos z]
          · rw [if_neg (by omega), if_neg z]))
      refine ⟨τ, fun d o4 o5 => ?_, p2, p3⟩
      have e24' : σ 24 c = fg c := by rw [e2 24 (by omega), e24]
      have tl : ∀ o5, Ev X (d + 7) 96 51 [some (vr 49), some (vi sn), some (vi kk), some (vi c), some (vi (ld c)), o5] [vi (br c)] SH σ = some (none, SH, τ) := by
        intro o5
        refine Eq.trans (b96_51 (by omega)) ?_
        rw [Int.toNat_natCast, e24']
        refine x_bind (q1 d) ?_
        dsimp only
        refine Eq.trans b96_74 ?_
        rw [xad1 (by omega)]
        exact p1 d _ _
      rw [b96_2, if_neg (by rw [e2 23 (by omega), e23]; omega), b96_13]
      rcases hsn with ⟨z, zz⟩ | ⟨z, zz⟩
      · have t := tl o5
        rw [(zz c).1, (zz c).2] at t
        rw [if_pos z, b96_30, b96_31, if_pos z, b96_50]
        exact t
      · obtain ⟨r1, r2⟩ := zz c σ (by omega) e2 (d + 5)
        rw [if_neg (by omega)]
        refine Eq.trans b96_17 ?_
        refine x_bind r1 ?_
        dsimp only
        refine Eq.trans b96_27 ?_
        rw [b96_31, if_neg (by omega)]
        refine Eq.trans b96_37 ?_
        refine x_bind r2 ?_
        dsimp only
        refine Eq.trans b96_47 ?_
        exact tl o5
  obtain ⟨τ, p1, p2, p3⟩ := lp n 0 ω (by omega) (fun _ _ => rfl) (WKT_op hW (fun c' hc' => by rw [if_neg (by omega)]))
  refine ⟨τ, fun d => ?_, p2, p3⟩
  rw [b96_0]
  exact p1 d _ _
theorem enumF_len {op : Nat → List Nat} : ∀ m c (p : Nat → Nat), (enumF op m c p).length * nprod (fun j => (op j).length) c = nprod (fun j => (op j).length) (c + m)
  | 0, c, p => by
    rw [enumF, List.length_singleton, Nat.one_mul]
    rfl
  | m + 1, c, p => by
    have h : ∀ l : List Nat, (l.flatMap (fun i => enumF op m (c + 1) (upN p c i))).length * nprod (fun j => (op j).length) (c + 1) = l.length * nprod (fun j => (op j).length) (c + 1 + m) := by
      intro l
      induction l with
      | nil => simp
      | cons i l ih =>
        rw [List.flatMap_cons, List.length_append, Nat.add_mul, ih, enumF_len m (c + 1) (upN p c i), List.length_cons, Nat.add_mul, Nat.one_mul]
        omega
    rw [enumF, show c + (m + 1) = c + 1 + m by omega]
    have h' := h (op c)
    rw [nprod] at h'
    by_cases y : (op c).length = 0
    · have e : op c = [] := List.length_eq_zero_iff.mp y
      rw [e, List.flatMap_nil, List.length_nil, Nat.zero_mul]
      have z : ∀ K, nprod (fun j => (op j).length) (c + 1 + K) = 0 := by
        intro K
        induction K with
        | zero =>
          rw [Nat.add_zero, nprod, y, Nat.mul_zero]
        | succ K ihK =>
          rw [show c + 1 + (K + 1) = c + 1 + K + 1 by omega, nprod, ihK, Nat.zero_mul]
      exact (z m).symm
    · refine Nat.eq_of_mul_eq_mul_right (Nat.pos_of_ne_zero y) ?_
      rw [Nat.mul_assoc, h', Nat.mul_comm]
theorem s95g {kd a b fr : Int} {ld br : Nat → Int} {F : Nat → Nat → Bool} (h : WST σ n fg bt cd len) (hkd : kd = 1 ∨ kd = 2) (hfr : 0 ≤ fr ∧ fr < 2147483648) (hsn : (kd = 1 ∧ ∀ c, ld c = 0 ∧ br c = 0) ∨ (kd = 2 ∧ ∀ (c : Nat) (τ : xM), c < n → (∀ q, q ≠ 49 → q ≠ 50 → ¬ (50 + 10 ≤ q ∧ q ≤ 50 + 14) → τ q = σ q) → ∀ d, Ev X (d + 1) 149 0 [some (vr 41), some (vi a), some (vi c), some (vi 1), none, none] [] SH τ = some (some (vi (ld c)), SH, τ) ∧ Ev X (d + 1) 149 0 [some (vr 41), some (vi a), some (vi c), some (vi 0), none, none] [] SH τ = some (some (vi (br c)), SH, τ))) (hFd : ∀ c i, F c i = decide (xand (f71 σ (fg c) (i : Int)) (ld c) = ld c ∧ xand (f71 σ (fg c) (i : Int)) (br c) = 0)) : ∃ τ, (∀ d, Ev X (d + 20) 95 0 [some (vr 49), some (vi kd), some (vi a), some (vi b), some (vi fr)] [] SH σ = some (none, SH, τ)) ∧ (∀ q j, q ≠ 13 → ¬ (60 ≤ q ∧ q ≤ 68) → ¬ (q = 50 ∧ 9 ≤ j ∧ j ≤ 16) → ¬ (q = 10 ∧ j = 8) → (52 ≤ q ∧ q ≤ 59 → j = 0) → ¬ (q = 49 ∧ 3 ≤ j ∧ j ≤ 6) → τ q j = σ q j) ∧ τ 49 3 = kd ∧ τ 49 4 = a ∧ τ 49 5 = b ∧ τ 50 16 = fr ∧ ((200000 < nprod (fun c => (opF σ fg F c).length) n ∧ τ 49 6 = -2) ∨ (nprod (fun c => (opF σ fg F c).length) n ≤ 200000 ∧ τ 49 6 = ((lsG σ n fg cd len F (if kd = 1 then a else -1)).length : Int) ∧ RES 50 n (wtF σ fg) (lsG σ n fg cd len F (if kd = 1 then a else -1)) τ)) := by
  have h' := h
  obtain ⟨hW, hF, hn0, hn, e23, e24, e25, hf, hb, e11, e10, hw, hlen, hR⟩ := h'
  generalize hσ : xwr (xwr (xwr σ 49 3 kd) 49 4 a) 49 5 b = σ1
  have q1 : ∀ q j, ¬ (q = 49 ∧ 3 ≤ j ∧ j ≤ 6) → σ1 q j = σ q j := by
    intro q j hq
    rw [← hσ]
    unfold xwr
    rw [if_neg (by omega), if_neg (by omega), if_neg (by omega)]
  have q1r : ∀ q, q ≠ 49 → σ1 q = σ q := fun q hq => funext (fun j => q1 q j (by omega))
  have v3 : σ1 49 3 = kd := by rw [← hσ]; simp (disch := decide) only [xwr_nj, xwr_eq]
  have v4 : σ1 49 4 = a := by rw [← hσ]; simp (disch := decide) only [xwr_nj, xwr_eq]
  have v5 : σ1 49 5 = b := by rw [← hσ, xwr_eq]
  obtain ⟨σ2, ls, a1, a2, a3, a4, a5, a6, a7, a8⟩ := s173 (X := X) (σ := σ1) (k := 50) (k1 := 23) (n := n) (ct := nil2) (cl := nil2) (sy := syF σ fg) (wt := wtF σ fg) (fr := fr) (st := if kd = 1 then a else -1) (Or.inl rfl) (Or.inl rfl) (by rw [q1 23 0 (by omega)]; exact e23) hn
  rw [q1r 24 (by decide), e24] at a4 a8
  have q2r : ∀ q, q ≠ 49 → q ≠ 50 → q ≠ 64 → σ2 q = σ q := fun q h1 h2 h3 => funext (fun j => by rw [a2 q j (by omega) (by omega), q1r q h1])
  have F2 : FRM σ2 := by
    unfold FRM
    rw [q2r 3 (by decide) (by decide) (by decide), q2r 6 (by decide) (by decide) (by decide), q2r 7 (by decide) (by decide) (by decide)]
    exact frm_of hW hF
  have c3 : syF σ2 fg = syF σ fg := syF_cg (by rw [q2r 3 (by decide) (by decide) (by decide)]) (q2r 7 (by decide) (by decide) (by decide))
  have c4 : wtF σ2 fg = wtF σ fg := wtF_cg (by rw [q2r 3 (by decide) (by decide) (by decide)]) (q2r 6 (by decide) (by decide) (by decide))
  have c5 : ∀ F : Nat → Nat → Bool, opF σ2 fg F = opF σ fg F := fun F => opF_cg (by rw [q2r 3 (by decide) (by decide) (by decide)])
  have c6 : ∀ x y : Int, f71 σ2 x y = f71 σ x y := fun x y => f71_cg (by rw [q2r 3 (by decide) (by decide) (by decide)]) (q2r 6 (by decide) (by decide) (by decide)) x y
  obtain ⟨σ3, b1, b2, b3⟩ := s96 (X := X) (ω := σ2) (n := n) (fg := fg) (sn := if kd = 1 then 0 else 1) (kk := a) (ld := ld) (br := br) (F := F) F2 hn (by rw [q2r 23 (by decide) (by decide) (by decide)]; exact e23) ((q2r 24 (by decide) (by decide) (by decide)).trans e24) hf (by
    rcases hsn with ⟨z, zz⟩ | ⟨z, zz⟩
    · exact Or.inl ⟨by rw [if_pos z], zz⟩
    · refine Or.inr ⟨by rw [if_neg (by omega)], fun c τ hc hτ d => zz c τ hc (fun q h1 h2 h3 => ?_) d⟩
      rw [hτ q h3, q2r q h1 h2 (by omega)]) (fun c i => by rw [hFd, c6]) (by rw [c3, c4]; exact a3)
  rw [c5, c3, c4] at b3
  have q3 : ∀ q j, ¬ (60 ≤ q ∧ q ≤ 64) → σ3 q j = σ2 q j := fun q j hq => by rw [b2 q hq]
  have sp := s178 (X := X) (σ := σ3) (k := 50) (Or.inl rfl) b3
  have st : ∀ d, Ev X (d + 20) 95 0 [some (vr 49), some (vi kd), some (vi a), some (vi b), some (vi fr)] [] SH σ = Ev X (d + 20) 95 84 [some (vr 49), some (vi kd), some (vi a), some (vi b), some (vi fr)] [vi (if nprod (fun c => (opF σ fg F c).length) n ≤ 200000 then 0 else 1)] SH σ3 := by
    intro d
    have s35 : Ev X (d + 20) 95 0 [some (vr 49), some (vi kd), some (vi a), some (vi b), some (vi fr)] [] SH σ = Ev X (d + 20) 95 35 [some (vr 49), some (vi kd), some (vi a), some (vi b), some (vi fr)] [vi (if kd = 1 then a else -1), vi fr, vr 23, vr 50] SH σ1 := by
      rw [b95_0, hσ]
      by_cases y : kd = 1
      · rw [if_neg (fun z => z y), if_pos y, b95_30]
      · rw [if_pos y, if_neg y, b95_34]
    have s69 : Ev X (d + 20) 95 58 [some (vr 49), some (vi kd), some (vi a), some (vi b), some (vi fr)] [] SH σ2 = Ev X (d + 20) 95 69 [some (vr 49), some (vi kd), some (vi a), some (vi b), some (vi fr)] [vi (if kd = 1 then 0 else 1), vr 49] SH σ2 := by
      rw [b95_58]
      by_cases y : kd = 1
      · rw [if_pos (by omega), if_pos y, b95_68]
      · rw [if_neg (by omega), if_neg y, b95_64]
    rw [s35]
    refine Eq.trans (b95_35 (t3 := if kd = 1 then a else -1) (t2 := fr)) ?_
    refine x_bind (a1 _) ?_
    dsimp only
    refine Eq.trans b95_38 ?_
    rw [if_pos (by omega), s69]
    refine Eq.trans (b95_69 (t1 := if kd = 1 then 0 else 1)) ?_
    refine x_bind (b1 (d + 12)) ?_
    dsimp only
    refine Eq.trans b95_73 ?_
    rw [if_neg (by omega)]
    refine Eq.trans b95_77 ?_
    refine x_bind (sp _) ?_
    rfl
  have m3 : ∀ j, 3 ≤ j → j ≤ 5 → σ3 49 j = σ1 49 j := by
    intro j h1 h2
    rw [q3 49 j (by omega), a2 49 j (by omega) (by omega)]
  by_cases big : nprod (fun c => (opF σ fg F c).length) n ≤ 200000
  · rw [if_pos big] at st
    have lt : (lsG σ n fg cd len F (if kd = 1 then a else -1)).length ≤ 200000 := by
      refine Nat.le_trans (List.length_filter_le _ _) ?_
      have := enumF_len (op := opF σ fg F) n 0 (fun _ => 0)
      rw [nprod, Nat.mul_one, Nat.zero_add] at this
      omega
    obtain ⟨τ, d1, d2, d3, d4⟩ := s179 (X := X) (σ := σ3) (k := 50) (n := n) (op := opF σ fg F) (ct := nil2) (cl := nil2) (sy := syF σ fg) (wt := wtF σ fg) (so := 0) (on := if kd = 1 then a else -1) (fgN := isum (fun c => if fg c = 0 then 0 else 1) n) (ls := ls) (stop := 1000000000) (cd := cd) (len := len) (T0 := 0) (L0 := 0) (Or.inl rfl) b3 hn0 ((q3 50 14 (by omega)).trans a6) ((q3 50 10 (by omega)).trans a4) ((q3 50 11 (by omega)).trans a5) (by rw [q3 50 16 (by omega), a7]; exact hfr) (by rw [← e11, ← q2r 11 (by decide) (by decide) (by decide)]; exact b2 11 (by omega)) (by rw [q3 10 2 (by omega), q2r 10 (by decide) (by decide) (by decide)]; exact e10) hw hlen (by omega) (sy_ok h a8) (fun j hj => by
      rw [← hR j hj]
      unfold Rd
      rw [q3 _ _ (by omega), q2r _ (by omega) (by omega) (by omega)]) (by omega) (by omega)
    have tk : List.take 1000000000 ((enumF (opF σ fg F) n 0 (fun _ => 0)).filter (gdB (GD n nil2 nil2 (syF σ fg) (wtF σ fg) 0 (if kd = 1 then a else -1) (isum (fun c => if fg c = 0 then 0 else 1) n) cd len 0 0))) = lsG σ n fg cd len F (if kd = 1 then a else -1) := List.take_of_length_le (Nat.le_trans lt (by decide))
    rw [tk] at d4
    have m9 : ∀ j, 3 ≤ j → j ≤ 5 → τ 49 j = σ1 49 j := by
      intro j h1 h2
      rw [d2 49 j (by omega) (by omega) (by omega) (by omega) (by omega), m3 j h1 h2]
    refine ⟨xwr τ 49 6 (τ 50 15), fun d => ?_, fun q j h1 h2 h3 h4 h5 h6 => ?_, ?_, ?_, ?_, ?_, Or.inr ⟨big, ?_, ?_⟩⟩
    · rw [st, b95_84, if_pos rfl, b95_94, if_pos (by omega), b95_110]
      refine Eq.trans b95_111 ?_
      refine x_bind (d1 (d + 19) (by omega)) ?_
      exact b95_117
    · rw [show xwr τ 49 6 (τ 50 15) q j = τ q j from if_neg (by omega), d2 q j h1 (by omega) (by omega) h4 (by omega), q3 q j (by omega), a2 q j (by omega) (by omega), q1 q j h6]
    · rw [xwr_nj (by decide), m9 3 (by decide) (by decide)]; exact v3
    · rw [xwr_nj (by decide), m9 4 (by decide) (by decide)]; exact v4
    · rw [xwr_nj (by decide), m9 5 (by decide) (by decide)]; exact v5
    · rw [xwr_nk (by decide), d3, q3 50 16 (by omega)]; exact a7
    · rw [xwr_eq]; exact d4.1
    · obtain ⟨r1, r2, r3, r4⟩ := d4
      refine ⟨by rw [xwr_nk (by decide)]; exact r1, fun i hi x y => ?_, fun s hs => by rw [xwr_nk (by decide)]; exact r3 s hs, fun c i x y => by rw [xwr_nk (by decide)]; exact r4 c i x y⟩
      rw [xwr_nk (by decide)] at x y
      rw [xwr_nk (by decide), xwr_nk (by decide)]
      exact r2 i hi x y
  · rw [if_neg big] at st
    refine ⟨xwr σ3 49 6 (-2), fun d => ?_, fun q j h1 h2 h3 h4 h5 h6 => ?_, ?_, ?_, ?_, ?_, Or.inl ⟨by omega, xwr_eq⟩⟩
    · rw [st, b95_84, if_neg (by decide), b95_87]
    · rw [show xwr σ3 49 6 (-2) q j = σ3 q j from if_neg (by omega), q3 q j (by omega), a2 q j (by omega) (by omega), q1 q j h6]
    · rw [xwr_nj (by decide), m3 3 (by decide) (by decide)]; exact v3
    · rw [xwr_nj (by decide), m3 4 (by decide) (by decide)]; exact v4
    · rw [xwr_nj (by decide), m3 5 (by decide) (by decide)]; exact v5
    · rw [xwr_nk (by decide), q3 50 16 (by omega)]; exact a7
end FNG
