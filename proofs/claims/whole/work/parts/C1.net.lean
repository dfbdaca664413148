/-! PATHS, in the class: walkFrom, codeOf -/
def CAn : List Nat := [13, 81, 82, 83, 84, 85, 86, 87, 88, 89, 92]
def CSn : List (Nat × Nat) := [(71, 9), (71, 10), (71, 11), (71, 12), (71, 13), (71, 14), (71, 15), (71, 16), (10, 8)]
section NET
variable {X : Nat × (Nat → Int)} {σ τ : xM} {n k x : Nat} {so : Int} {fg fg' bt cd cd' : Nat → Int} {len len' : Nat}
theorem net_chg (h : ∀ q j, q ≠ 13 → ¬ (81 ≤ q ∧ q ≤ 89) → ¬ (q = 71 ∧ 9 ≤ j ∧ j ≤ 16) → ¬ (q = 10 ∧ j = 8) → (73 ≤ q ∧ q ≤ 80 → j = 0) → q ≠ 92 → τ q j = σ q j) : chg CAn CSn σ τ := by
  intro q j hp hr
  refine h q j (fun z => ?_) (fun z => ?_) (fun z => ?_) (fun z => ?_) (fun z => hr ?_) (fun z => ?_)
  · subst z
    exact Bool.noConfusion (show true = false from hp)
  · have : q = 81 ∨ q = 82 ∨ q = 83 ∨ q = 84 ∨ q = 85 ∨ q = 86 ∨ q = 87 ∨ q = 88 ∨ q = 89 := by omega
    rcases this with y | y | y | y | y | y | y | y | y <;> subst y <;> exact Bool.noConfusion (show true = false from hp)
  · obtain ⟨z1, z2, z3⟩ := z
    subst z1
    have : j = 9 ∨ j = 10 ∨ j = 11 ∨ j = 12 ∨ j = 13 ∨ j = 14 ∨ j = 15 ∨ j = 16 := by omega
    rcases this with y | y | y | y | y | y | y | y <;> subst y <;> exact Bool.noConfusion (show true = false from hp)
  · obtain ⟨z1, z2⟩ := z
    subst z1 z2
    exact Bool.noConfusion (show true = false from hp)
  · unfold rdC
    simp only [Bool.or_eq_true, Bool.and_eq_true, Nat.ble_eq]
    omega
  · subst z
    exact Bool.noConfusion (show true = false from hp)
/-- whether it is true does not ask the law -/
theorem GD_so {ct cl wt : Nat → Nat → Nat} {sy : Nat → Nat → Int} {on f : Int} {t l : Nat} {q : Nat → Nat} (hso : so = 1 ∨ so = 2) (g : GD n ct cl sy wt so on f cd len t l q) : GD n ct cl sy wt so on f cd' len' t l q := by
  obtain ⟨g1, g2, g3, g4, g5, g6⟩ := g
  refine ⟨g1, g2, g3, g4, g5, fun z => ⟨(g6 z).1, Or.inl ?_⟩⟩
  rcases hso with y | y
  · exact y
  · exact absurd y z
theorem nb_W (hso : so = 1 ∨ so = 2) (hW : WF (σ 102)) (hF : FC (σ 102) (σ 3 5) (σ 6) (σ 7) (σ 8)) (hf : ∀ c, c < n → fg c = 0 ∨ fg c = 1) (e1 : ∀ c, c < n → fg' c = fg c ∧ (fun c => BW (σ 102) fg' c (dig x c)) c = bt c) : (enumF (opF σ fg (fun c i => decide (ctF σ fg bt c i ≤ k ∧ clF σ fg bt c i ≤ k))) n 0 (fun _ => 0)).filter (gdB (GD n (ctF σ fg bt) (clF σ fg bt) (syF σ fg) (wtF σ fg) so (-1) (isum (fun c => if fg c = 0 then 0 else 1) n) cd len k k)) = nbW (σ 102) n fg' so k x := by
  unfold nbW
  have h : (enumF (opF σ fg (fun c i => decide (ctF σ fg bt c i ≤ k ∧ clF σ fg bt c i ≤ k))) n 0 (fun _ => 0)).filter (gdB (GD n (ctF σ fg bt) (clF σ fg bt) (syF σ fg) (wtF σ fg) so (-1) (isum (fun c => if fg c = 0 then 0 else 1) n) cd len k k)) = (enumF (moF σ fg) n 0 (fun _ => 0)).filter (gdB (GD n (ctF σ fg bt) (clF σ fg bt) (syF σ fg) (wtF σ fg) so (-1) (isum (fun c => if fg c = 0 then 0 else 1) n) cd len k k)) := by
    refine enumF_flt (mo := moF σ fg) (F := fun c i => decide (ctF σ fg bt c i ≤ k ∧ clF σ fg bt c i ≤ k)) n 0 (fun _ => 0) (fun q _ hP j _ hj => ?_)
    rw [gdB_iff] at hP
    have a := nsum_ge (f := fun c => ctF σ fg bt c (q c)) n j (by omega)
    have b := nsum_ge (f := fun c => clF σ fg bt c (q c)) n j (by omega)
    rw [hP.1] at a
    rw [hP.2.1] at b
    exact decide_eq_true ⟨a, b⟩
  rw [h, enumF_op (op := moF σ fg) (op' := moW (σ 102) fg') n 0 (fun _ => 0) (fun j _ hj => by
    rw [moF_nz hF (hf j (by omega))]
    unfold moW
    rw [(e1 j (by omega)).1])]
  refine List.filter_congr (fun q hq => ?_)
  obtain ⟨_, qm⟩ := mem_enumF n 0 _ q hq
  have nb : ∀ c, c < n → ctF σ fg bt c (q c) = ctW (σ 102) fg' (fun c => BW (σ 102) fg' c (dig x c)) c (q c) ∧ clF σ fg bt c (q c) = clW (σ 102) fg' (fun c => BW (σ 102) fg' c (dig x c)) c (q c) ∧ syF σ fg c (q c) = syW (σ 102) fg' c (q c) ∧ wtF σ fg c (q c) = wtB (BW (σ 102) fg') c (q c) := by
    intro c hc
    have qc := qm c (by omega) (by omega)
    unfold moW at qc
    rw [(e1 c hc).1] at qc
    have qc := List.mem_range.mp qc
    have fb := (frm_B hF (hf c hc)).1
    have hq72 : ((q c : Nat) : Int) < f72 σ (fg c) := by omega
    have b := BW_f71 hF (hf c hc) hq72
    have b' : BW (σ 102) fg' c (q c) = f71 σ (fg c) (q c : Int) := by
      rw [← b]
      unfold BW
      rw [(e1 c hc).1]
    refine ⟨?_, ?_, ?_, ?_⟩
    · unfold ctF ctW
      rw [b', (e1 c hc).2]
    · unfold clF clW
      rw [b', (e1 c hc).2]
    · unfold syF syW
      rw [b', (e1 c hc).1, (frm_S hW hF (hf c hc) hq72).1]
    · unfold wtF wtB
      rw [b']
  have fe : isum (fun c => if fg c = 0 then (0 : Int) else 1) n = isum (fun c => if fg' c = 0 then 0 else 1) n := isum_congr n (fun c hc => by rw [(e1 c hc).1])
  rw [Bool.eq_iff_iff, gdB_iff, gdB_iff]
  exact ⟨fun g => GD_so hso (GD_cg nb fe (fun _ _ => rfl) g), fun g => GD_cg (fun c hc => ⟨(nb c hc).1.symm, (nb c hc).2.1.symm, (nb c hc).2.2.1.symm, (nb c hc).2.2.2.symm⟩) fe.symm (fun _ _ => rfl) (GD_so hso g)⟩
/-- what the net's walks need of the state -/
def NST (σ : xM) (n : Nat) : Prop := WF (σ 102) ∧ FC (σ 102) (σ 3 5) (σ 6) (σ 7) (σ 8) ∧ 0 < n ∧ n ≤ 11 ∧ σ 90 0 = (n : Int) ∧ (∀ c, c < n → σ 91 c = σ 107 c) ∧ (∀ c, c < n → σ 107 c = 0 ∨ σ 107 c = 1) ∧ (∃ len : Nat, σ 10 2 = (len : Int) ∧ WFP (σ 11) len ∧ len ≤ 200) ∧ ∀ j, j < 8 → Rd σ 72 0 j = r0 j
theorem NST_chg {CA : List Nat} {CS : List (Nat × Nat)} (h : NST σ n) (c : chg CA CS σ τ) (o : okc CA CS [102, 6, 7, 8, 91, 107, 11] [(3, 5), (90, 0), (10, 2), (73, 0), (74, 0), (75, 0), (76, 0), (77, 0), (78, 0), (79, 0), (80, 0)] = true) : NST τ n := by
  have e := eqp_ok o c
  have r : ∀ {k : Nat}, k ∈ [102, 6, 7, 8, 91, 107, 11] → τ k = σ k := fun {k} hk => funext (fun j => e k j (by
    unfold pin
    rw [Bool.or_eq_true]
    exact Or.inl (by simpa using hk)))
  have e35 : τ 3 5 = σ 3 5 := e 3 5 rfl
  have e90 : τ 90 0 = σ 90 0 := e 90 0 rfl
  have e10 : τ 10 2 = σ 10 2 := e 10 2 rfl
  have eR : ∀ j, j < 8 → Rd τ 72 0 j = Rd σ 72 0 j := by
    intro j hj
    unfold Rd
    have : j = 0 ∨ j = 1 ∨ j = 2 ∨ j = 3 ∨ j = 4 ∨ j = 5 ∨ j = 6 ∨ j = 7 := by omega
    rcases this with y | y | y | y | y | y | y | y <;> subst y
    · exact e 73 0 rfl
    · exact e 74 0 rfl
    · exact e 75 0 rfl
    · exact e 76 0 rfl
    · exact e 77 0 rfl
    · exact e 78 0 rfl
    · exact e 79 0 rfl
    · exact e 80 0 rfl
  unfold NST at h ⊢
  rw [r (k := 102) (by decide), r (k := 6) (by decide), r (k := 7) (by decide), r (k := 8) (by decide), r (k := 91) (by decide), r (k := 107) (by decide), r (k := 11) (by decide), e35, e90, e10]
  obtain ⟨h1, h2, h3, h4, h5, h6, h7, h8, h9⟩ := h
  exact ⟨h1, h2, h3, h4, h5, h6, h7, h8, fun j hj => (eR j hj).trans (h9 j hj)⟩
/-- the sticks of a row in a code -/
theorem it104 {a3 a4 a5 : Int} (hW : WF (σ 102)) (hF : FC (σ 102) (σ 3 5) (σ 6) (σ 7) (σ 8)) (hn : n ≤ 11) (e90 : σ 90 0 = (n : Int)) (e91 : ∀ c, c < n → σ 91 c = σ 107 c) (hf : ∀ c, c < n → σ 107 c = 0 ∨ σ 107 c = 1) (hx : CD (σ 102) n (σ 107) x) : ∀ (m c : Nat) (τ : xM), c + m = n → chs [92] [] σ τ → (∀ j, j < c → τ 92 j = BW (σ 102) (σ 107) j (dig x j)) → ∃ τ', (∀ d, Ev X (d + 2) 104 3 [some (vr 70), some (vl (x : Int)), none, some (vi a3), some (vi a4), some (vi a5), some (vi c)] [] SH τ = Ev X (d + 2) 104 54 [some (vr 70), some (vl (x : Int)), none, some (vi a3), some (vi a4), some (vi a5), some (vi n)] [] SH τ') ∧ chs [92] [] σ τ' ∧ ∀ j, j < n → τ' 92 j = BW (σ 102) (σ 107) j (dig x j) := by
  intro m
  induction m with
  | zero =>
    intro c τ e1 e2 e3
    have e1 : c = n := by omega
    subst e1
    refine ⟨τ, fun d => ?_, e2, e3⟩
    rw [b104_3, if_pos (by rw [e2 90 0 rfl]; omega)]
  | succ m ih =>
    intro c τ e1 e2 e3
    have hc : c < n := by omega
    have mo := hx.2 c hc
    have fb := (frm_B hF (hf c hc)).1
    have d20 := mo_32 mo
    have dl : ((dig x c : Nat) : Int) < f72 σ (σ 107 c) := by
      unfold moW at mo
      have := List.mem_range.mp mo
      omega
    have bw := BW_f71 hF (hf c hc) dl
    have f4 : f184 τ (x : Int) (c : Int) = (dig x c : Int) := by
      have := f184_at (σ := τ) (p := dig x) (n := n) hn (fun c hc => by have := mo_32 (hx.2 c hc); omega) hc
      rw [cd_dig x hx.1] at this
      exact this
    have f7 : f71 τ (σ 107 c) (dig x c : Int) = BW (σ 102) (σ 107) c (dig x c) := by
      rw [bw]
      exact f71_cg (e2 3 5 rfl) (funext (fun j => e2 6 j rfl)) _ _
    obtain ⟨τ', p1, p2, p3⟩ := ih (c + 1) (xwr τ 92 c (BW (σ 102) (σ 107) c (dig x c))) (by omega) (chs_wr rfl e2) (fun j hj => by
      by_cases y : j = c
      · rw [y, xwr_eq]
      · rw [xwr_nj y]
        exact e3 j (by omega))
    refine ⟨τ', fun d => ?_, p2, p3⟩
    rw [b104_3, if_neg (by rw [e2 90 0 rfl]; omega)]
    refine Eq.trans (b104_15 (by omega)) ?_
    refine x_bind s184 ?_
    rw [f4, Int.toNat_natCast, e2 91 c rfl, e91 c hc]
    dsimp only
    refine Eq.trans (b104_44 (t4 := (dig x c : Int)) (t3 := σ 107 c) (t1 := (c : Int))) ?_
    refine x_bind (s71 (by rw [e2 3 5 rfl]; exact (frm_of hW hF).2.1)) ?_
    rw [f7]
    dsimp only
    refine Eq.trans (b104_47 (t2 := BW (σ 102) (σ 107) c (dig x c)) (t1 := (c : Int)) (by omega)) ?_
    rw [Int.toNat_natCast, xad1 (by omega)]
    exact p1 d
/-- walkFrom -/
theorem s104 {stop : Nat} (h : NST σ n) (hx : CD (σ 102) n (σ 107) x) (hso : so = 1 ∨ so = 2) (hk : k ≤ 3) (hst : 0 < stop ∧ stop ≤ 1000000000) : ∃ τ, (∀ d, Ev X (d + 20) 104 0 [some (vr 70), some (vl (x : Int)), none, some (vi k), some (vi so), some (vi stop), none] [] SH σ = some (none, SH, τ)) ∧ chg CAn CSn σ τ ∧ τ 71 16 = 0 ∧ ∃ wt, RES 71 n wt ((nbW (σ 102) n (σ 107) so k x).take stop) τ := by
  obtain ⟨hW, hF, hn0, hn, e90, e91, hf, ⟨len, e10, hwf, hlen⟩, hR⟩ := h
  obtain ⟨σ1, l1, l2, l3⟩ := it104 (X := X) (a3 := (k : Int)) (a4 := so) (a5 := (stop : Int)) hW hF hn e90 e91 hf hx n 0 σ (by omega) chs_rf (fun j hj => by omega)
  have q1r : ∀ q, q ≠ 92 → σ1 q = σ q := fun q hq => funext (fun j => l2 q j (by
    unfold pin
    simpa using hq))
  obtain ⟨σ2, ls, a1, a2, a3, a4, a5, a6, a7, a8⟩ := s173 (X := X) (σ := σ1) (k := 71) (k1 := 90) (n := n) (ct := ctF σ (σ 91) (σ1 92)) (cl := clF σ (σ 91) (σ1 92)) (sy := syF σ (σ 91)) (wt := wtF σ (σ 91)) (fr := 0) (st := -1) (Or.inr rfl) (by unfold isRow; omega) (by rw [q1r 90 (by decide)]; exact e90) hn
  rw [q1r 91 (by decide)] at a4 a8
  have q2r : ∀ q, q ≠ 92 → q ≠ 71 → q ≠ 85 → σ2 q = σ q := fun q h1 h2 h3 => funext (fun j => by rw [a2 q j (by omega) (by omega), q1r q h1])
  have q2x : σ2 92 = σ1 92 := funext (fun j => a2 92 j (by omega) (by omega))
  have F2 : FRM σ2 := by
    unfold FRM
    rw [q2r 3 (by decide) (by decide) (by decide), q2r 6 (by decide) (by decide) (by decide), q2r 7 (by decide) (by decide) (by decide)]
    exact frm_of hW hF
  have fr := frm_of hW hF
  have hf91 : ∀ c, c < n → σ 91 c = 0 ∨ σ 91 c = 1 := fun c hc => by rw [e91 c hc]; exact hf c hc
  have hb : ∀ c, c < n → 0 ≤ σ1 92 c ∧ σ1 92 c < 128 := by
    intro c hc
    have mo := hx.2 c hc
    have fb := (frm_B hF (hf c hc)).1
    unfold moW at mo
    have := List.mem_range.mp mo
    rw [l3 c hc, BW_f71 hF (hf c hc) (by omega)]
    exact f71_rg fr _ _
  have c1 : ctF σ2 (σ 91) (σ1 92) = ctF σ (σ 91) (σ1 92) := ctF_cg (by rw [q2r 3 (by decide) (by decide) (by decide)]) (q2r 6 (by decide) (by decide) (by decide))
  have c2 : clF σ2 (σ 91) (σ1 92) = clF σ (σ 91) (σ1 92) := clF_cg (by rw [q2r 3 (by decide) (by decide) (by decide)]) (q2r 6 (by decide) (by decide) (by decide))
  have c3 : syF σ2 (σ 91) = syF σ (σ 91) := syF_cg (by rw [q2r 3 (by decide) (by decide) (by decide)]) (q2r 7 (by decide) (by decide) (by decide))
  have c4 : wtF σ2 (σ 91) = wtF σ (σ 91) := wtF_cg (by rw [q2r 3 (by decide) (by decide) (by decide)]) (q2r 6 (by decide) (by decide) (by decide))
  have c5 : ∀ F : Nat → Nat → Bool, opF σ2 (σ 91) F = opF σ (σ 91) F := fun F => opF_cg (by rw [q2r 3 (by decide) (by decide) (by decide)])
  obtain ⟨σ3, b1, b2, b3⟩ := s174 (X := X) (ω := σ2) (k := 71) (k1 := 90) (n := n) (fg := σ 91) (bt := σ1 92) (t := k) (l := k) (Or.inr rfl) (by unfold isRow; omega) F2 hk hk (q2r 91 (by decide) (by decide) (by decide)) q2x hf91 hb (by rw [c1, c2, c3, c4]; exact a3)
  rw [c5, c1, c2, c3, c4] at b3
  have q3 : ∀ q j, ¬ (81 ≤ q ∧ q ≤ 85) → σ3 q j = σ2 q j := fun q j hq => by rw [b2 q (by omega)]
  obtain ⟨τ, d1, d2, d3, d4⟩ := s179 (X := X) (σ := σ3) (k := 71) (n := n) (op := opF σ (σ 91) (fun c i => decide (ctF σ (σ 91) (σ1 92) c i ≤ k ∧ clF σ (σ 91) (σ1 92) c i ≤ k))) (ct := ctF σ (σ 91) (σ1 92)) (cl := clF σ (σ 91) (σ1 92)) (sy := syF σ (σ 91)) (wt := wtF σ (σ 91)) (so := so) (on := -1) (fgN := isum (fun c => if σ 91 c = 0 then 0 else 1) n) (ls := ls) (stop := stop) (cd := σ 11) (len := len) (T0 := k) (L0 := k) (Or.inr rfl) b3 hn0 ((q3 71 14 (by omega)).trans a6) ((q3 71 10 (by omega)).trans a4) ((q3 71 11 (by omega)).trans a5) (by rw [q3 71 16 (by omega), a7]; omega) (by rw [← q2r 11 (by decide) (by decide) (by decide)]; exact b2 11 (by omega)) (by rw [q3 10 2 (by omega), q2r 10 (by decide) (by decide) (by decide)]; exact e10) hwf hlen hst (fun c hc i hi => by
    unfold opF at hi
    have hi := List.mem_range.mp (List.mem_filter.mp hi).1
    have nc := f72_rg fr (σ 91 c)
    obtain ⟨s1, s2, s3, s4⟩ := frm_S hW hF (hf91 c hc) (i := i) (by omega)
    refine ⟨s2, fun h => s3 (a8 c hc h), ?_⟩
    unfold wtF
    have := pc_rg (f71 σ (σ 91 c) (i : Int)).toNat
    omega) (fun j hj => by
    rw [← hR j hj]
    unfold Rd
    rw [q3 _ _ (by omega), q2r _ (by omega) (by omega) (by omega)]) hk hk
  rw [nb_W (σ := σ) (n := n) (fg := σ 91) (fg' := σ 107) (bt := σ1 92) (cd := σ 11) (len := len) (k := k) (x := x) hso hW hF hf91 (fun c hc => ⟨(e91 c hc).symm, (l3 c hc).symm⟩)] at d4
  refine ⟨τ, fun d => ?_, net_chg (fun q j h1 h2 h3 h4 h5 h6 => ?_), ?_, _, d4⟩
  · rw [b104_0]
    refine Eq.trans (l1 (d + 18)) ?_
    refine Eq.trans b104_54 ?_
    refine x_bind (a1 _) ?_
    dsimp only
    refine Eq.trans b104_67 ?_
    refine x_bind (b1 (d + 13)) ?_
    dsimp only
    refine Eq.trans b104_80 ?_
    refine x_bind s175 ?_
    dsimp only
    refine Eq.trans (b104_89 (t1 := f175 σ3 (k : Int) (k : Int))) ?_
    rw [show f175 σ3 (k : Int) (k : Int) = ((4 * k + k : Nat) : Int) by
      unfold f175
      rw [xmul_eq (by omega) (by omega), xadd_eq (by omega) (by omega)]
      omega]
    refine x_bind (d1 (d + 19) (by omega)) ?_
    exact b104_96
  · rw [d2 q j h1 (by omega) (by omega) h4 (by omega), q3 q j (by omega), a2 q j (by omega) (by omega), q1r q h6]
  · rw [d3, q3 71 16 (by omega)]
    exact a7
end NET
