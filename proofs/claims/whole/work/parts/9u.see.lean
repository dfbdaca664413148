/-! WALKS, in the model: row by row -/
def ADVB (X : Nat × (Nat → Int)) (n : Nat) (mo : Nat → List Nat) (ct cl : Nat → Nat → Nat) (B : Nat → Nat → Int) (G : (Nat → Nat) → Bool) (Q : List (Nat → Nat)) (μ : xM) : Prop := (Q = [] → ∃ μ', (∀ d o1 o2 o3, Ev X (d + 1) 246 0 [some (vr 100), o1, o2, o3] [] SH μ = some (some (vi 0), SH, μ')) ∧ chs [124, 125, 127, 128] AC μ μ') ∧ (∀ q Q', Q = q :: Q' → ∃ μ' nx', (∀ d o1 o2 o3, Ev X (d + 1) 246 0 [some (vr 100), o1, o2, o3] [] SH μ = some (some (vi 1), SH, μ')) ∧ chs [124, 125, 127, 128] AC μ μ' ∧ DNE n mo ct cl B q nx' μ' ∧ Q' = (rstL mo n q nx' 0 n).filter G)
def SCN (n : Nat) (mo : Nat → List Nat) (ct cl : Nat → Nat → Nat) (B : Nat → Nat → Int) (mg ml : Int) (fg w : Nat → Int) (sy : Nat → Nat → Int) (cd : Nat → Int) (len : Nat) (μ : xM) : Prop := ODO n mo ct cl B mg ml μ ∧ 0 < n ∧ μ 107 = fg ∧ μ 102 = w ∧ (∀ c, c < n → fg c = 0 ∨ fg c = 1) ∧ (∀ c, c < n → ∀ i, i ∈ mo c → rdB w (fg c) (B c i) = sy c i ∧ ct c i ≤ 7 ∧ cl c i ≤ 7) ∧ WFP cd len ∧ len ≤ 200 ∧ (∀ i, i < len → enc (cd i) (μ 118 i) (μ 119 i)) ∧ μ 100 35 = (len : Int)
def wtB (B : Nat → Nat → Int) (c i : Nat) : Nat := (pc (B c i).toNat).toNat
def GDM (n : Nat) (B : Nat → Nat → Int) (fg : Nat → Int) (sy : Nat → Nat → Int) (cd : Nat → Int) (len : Nat) (on : Int) (q : Nat → Nat) : Prop := LK 0 on n cd len (isum (fun c => if fg c = 0 then 0 else 1) n) (symP sy q) (nsum (fun c => wtB B c (q c)) n : Int)
section SEE
variable {X : Nat × (Nat → Int)} {μ μ1 μ2 τ : xM} {n len : Nat} {mo : Nat → List Nat} {ct cl : Nat → Nat → Nat} {B : Nat → Nat → Int} {mg ml : Int} {fg w : Nat → Int} {sy : Nat → Nat → Int} {cd : Nat → Int} {G : (Nat → Nat) → Bool} {q nx : Nat → Nat} {Q : List (Nat → Nat)}
theorem isum_nsum {f : Nat → Int} {g : Nat → Nat} : ∀ n, (∀ i, i < n → f i = (g i : Int)) → isum f n = (nsum g n : Int)
  | 0, _ => rfl
  | n + 1, h => by
    rw [isum, nsum, isum_nsum n (fun i hi => h i (by omega)), h n (by omega)]
    rfl
theorem SCN_chg {CA : List Nat} {CS : List (Nat × Nat)} (h : SCN n mo ct cl B mg ml fg w sy cd len μ) (c : chg CA CS μ τ) (o : okc CA CS [107, 102, 118, 119, 122, 123, 126] [(100, 16), (100, 35), (100, 48), (100, 49)] = true) : SCN n mo ct cl B mg ml fg w sy cd len τ := by
  have e := eqp_ok o c
  have r : ∀ k, k ∈ [107, 102, 118, 119, 122, 123, 126] → τ k = μ k := fun k hk => funext (fun j => (e k j (by
    unfold pin
    rw [Bool.or_eq_true]
    exact Or.inl (by simpa using hk))))
  have s : ∀ j, (100, j) ∈ [((100 : Nat), 16), (100, 35), (100, 48), (100, 49)] → τ 100 j = μ 100 j := fun j hj => e 100 j (by
    unfold pin
    rw [Bool.or_eq_true]
    exact Or.inr (by simpa using hj))
  unfold SCN ODO at h ⊢
  rw [r 107 (by decide), r 102 (by decide), r 118 (by decide), r 119 (by decide), r 122 (by decide), r 123 (by decide), r 126 (by decide), s 16 (by decide), s 35 (by decide), s 48 (by decide), s 49 (by decide)]
  exact h
theorem DNE_chg {CA : List Nat} {CS : List (Nat × Nat)} (h : DNE n mo ct cl B q nx μ) (c : chg CA CS μ τ) (o : okc CA CS [124, 125, 127, 128] [(100, 47)] = true) : DNE n mo ct cl B q nx τ := by
  have e := eqp_ok o c
  have r : ∀ k, k ∈ [124, 125, 127, 128] → τ k = μ k := fun k hk => funext (fun j => (e k j (by
    unfold pin
    rw [Bool.or_eq_true]
    exact Or.inl (by simpa using hk))))
  have s : τ 100 47 = μ 100 47 := e 100 47 rfl
  unfold DNE MST at h ⊢
  rw [r 124 (by decide), r 125 (by decide), r 127 (by decide), r 128 (by decide), s]
  exact h
theorem ADVB_dn (hS : SCN n mo ct cl B mg ml fg w sy cd len μ) (hG : ∀ q, G q = true ↔ fit mg ml (nsum (fun c => ct c (q c)) n) (nsum (fun c => cl c (q c)) n)) (hD : DNE n mo ct cl B q nx μ) (hQ : Q = (rstL mo n q nx 0 n).filter G) : ADVB X n mo ct cl B G Q μ := by
  obtain ⟨a, b⟩ := adv_nx (X := X) hS.1 G hG (fun c hc i hi => (hS.2.2.2.2.2.1 c hc i hi).2) hS.2.1 hD chs_rf
  rw [← hQ] at a b
  exact ⟨a, b⟩
theorem ADVB_1 (hS : SCN n mo ct cl B mg ml fg w sy cd len μ) (hG : ∀ q, G q = true ↔ fit mg ml (nsum (fun c => ct c (q c)) n) (nsum (fun c => cl c (q c)) n)) (e47 : μ 100 47 = 0) (e124 : μ 124 0 = -1) (e127 : μ 127 0 = 0) (e128 : μ 128 0 = 0) : ADVB X n mo ct cl B G ((enumF mo n 0 (fun _ => 0)).filter G) μ := by
  obtain ⟨a, b⟩ := adv_1st (X := X) hS.1 G hG (fun c hc i hi => (hS.2.2.2.2.2.1 c hc i hi).2) hS.2.1 e47 e124 e127 e128 chs_rf
  exact ⟨a, b⟩
theorem chsA_g (h : chs [124, 125, 127, 128] AC μ τ) : chg [124, 125, 127, 128] [(100, 47)] μ τ := chs_g h
/-- whether a row is good -/
theorem row_gd (hS : SCN n mo ct cl B mg ml fg w sy cd len μ) (hD : DNE n mo ct cl B q nx μ) : ∃ (b : Int) (τ : xM), (b = 0 ∨ b = 1) ∧ (∀ d, Ev X (d + 4) 248 0 [some (vr 100), some (vr 125)] [] SH μ = some (some (vi b), SH, τ)) ∧ (b = 1 ↔ GDM n B fg sy cd len (-1) q) ∧ chg [113, 114, 115, 121] [] μ τ := by
  obtain ⟨⟨o1, o2, o3, o4, o5⟩, hn, e107, e102, hf, hm, hw, hl, en, e35⟩ := hS
  obtain ⟨d1, d2, d3, d4, d5⟩ := hD
  have rg : ∀ c, c < n → 0 ≤ B c (q c) ∧ B c (q c) < 128 := by
    intro c hc
    obtain ⟨e, he, hh⟩ := List.getElem_of_mem (d3 c hc)
    rw [← hh]
    exact ((o5 c hc).2.2.2 e he).2.1
  obtain ⟨b, τ, t1, t2, t3, t4⟩ := s248 (X := X) (μ := μ) (cd := cd) (cs := symP sy q) o1 o2 (by rw [e107]; exact hf) (fun c hc => by rw [d2 c hc]; exact rg c hc) hw hl en e35 (fun c hc => by
    unfold chM symP
    rw [e102, e107, d2 c hc]
    exact (hm c hc _ (d3 c hc)).1)
  refine ⟨b, τ, t1, t2, ?_, t4⟩
  rw [t3, e107, isum_nsum (f := fun c => pc (μ 125 c).toNat) (g := fun c => wtB B c (q c)) n (fun c hc => by
    show pc (μ 125 c).toNat = _
    rw [d2 c hc]
    unfold wtB
    have := pc_rg (B c (q c)).toNat
    omega)]
  rfl
/-- seekMends' loop -/
theorem it241 (hG : ∀ q, G q = true ↔ fit mg ml (nsum (fun c => ct c (q c)) n) (nsum (fun c => cl c (q c)) n)) {nth : Int} : ∀ (Q : List (Nat → Nat)) (μ : xM) (a : Nat), SCN n mo ct cl B mg ml fg w sy cd len μ → ADVB X n mo ct cl B G Q μ → (nth < 0 ∨ (a : Int) ≤ nth) → a + (Q.filter (gdB (GDM n B fg sy cd len (-1)))).length < 1500000000 → ∃ (r : Int) (τ : xM), (∀ d o1 o2 o4 o5, Ev X (d + 5) 241 28 [some (vr 100), o1, o2, some (vi nth), o4, o5, some (vi a)] [] SH μ = some (some (vi r), SH, τ)) ∧ chg [113, 114, 115, 121, 124, 125, 127, 128] [(100, 47)] μ τ ∧ (nth < 0 → r = (a : Int) + (Q.filter (gdB (GDM n B fg sy cd len (-1)))).length) ∧ (∀ i : Nat, nth = ((a + i : Nat) : Int) → ∀ h : i < (Q.filter (gdB (GDM n B fg sy cd len (-1)))).length, r = nth ∧ ∀ c, c < n → τ 125 c = B c ((Q.filter (gdB (GDM n B fg sy cd len (-1))))[i] c)) ∧ (∀ i : Nat, nth = ((a + i : Nat) : Int) → (Q.filter (gdB (GDM n B fg sy cd len (-1)))).length ≤ i → r = -1) := by
  intro Q
  induction Q with
  | nil =>
    intro μ a hS hA hn ha
    obtain ⟨μ1, a1, a2⟩ := hA.1 rfl
    have st : ∀ d o1 o2 o4 o5, Ev X (d + 5) 241 28 [some (vr 100), o1, o2, some (vi nth), o4, o5, some (vi a)] [] SH μ = Ev X (d + 5) 241 64 [some (vr 100), o1, o2, some (vi nth), o4, o5, some (vi a)] [] SH μ1 := by
      intro d o1 o2 o4 o5
      refine Eq.trans b241_28 ?_
      refine x_bind (a1 _ _ _ _) ?_
      dsimp only
      refine Eq.trans b241_32 ?_
      rw [if_pos rfl]
    by_cases y : nth < 0
    · refine ⟨(a : Int), μ1, fun d o1 o2 o4 o5 => ?_, chg_mo (by decide) (chsA_g a2), fun _ => by simp, fun i hi => by omega, fun i hi => by omega⟩
      rw [st, b241_64, if_neg (by omega), b241_68, b241_74]
    · refine ⟨-1, μ1, fun d o1 o2 o4 o5 => ?_, chg_mo (by decide) (chsA_g a2), fun z => absurd z y, fun i hi h => absurd h (by simp), fun _ _ _ => rfl⟩
      rw [st, b241_64, if_pos (by omega), b241_73, b241_74]
  | cons q Q ih =>
    intro μ a hS hA hn ha
    obtain ⟨μ1, nx1, a1, a2, a3, a4⟩ := hA.2 q Q rfl
    have S1 := SCN_chg hS (chsA_g a2) rfl
    obtain ⟨b, μ2, b1, b2, b3, b4⟩ := row_gd (X := X) S1 a3
    have S2 := SCN_chg S1 b4 rfl
    have A2 := ADVB_dn (X := X) S2 hG (DNE_chg a3 b4 rfl) a4
    have cc : chg [113, 114, 115, 121, 124, 125, 127, 128] [(100, 47)] μ μ2 := chg_tr (chg_mo (by decide) (chsA_g a2)) (chg_mo (by decide) b4)
    have st : ∀ d o1 o2 o4 o5, Ev X (d + 5) 241 28 [some (vr 100), o1, o2, some (vi nth), o4, o5, some (vi a)] [] SH μ = Ev X (d + 5) 241 43 [some (vr 100), o1, o2, some (vi nth), o4, o5, some (vi a)] [vi b] SH μ2 := by
      intro d o1 o2 o4 o5
      refine Eq.trans b241_28 ?_
      refine x_bind (a1 _ _ _ _) ?_
      dsimp only
      refine Eq.trans b241_32 ?_
      rw [if_neg (by decide)]
      refine Eq.trans b241_35 ?_
      refine x_bind (b2 d) ?_
      rfl
    by_cases z : b = 1
    · have gq : gdB (GDM n B fg sy cd len (-1)) q = true := gdB_iff.mpr (b3.mp z)
      rw [List.filter_cons_of_pos gq, List.length_cons] at ha
      rw [List.filter_cons_of_pos gq]
      by_cases e : (a : Int) = nth
      · refine ⟨(a : Int), μ2, fun d o1 o2 o4 o5 => ?_, cc, fun y => by omega, fun i hi h => ?_, fun i hi h => ?_⟩
        · rw [st, b241_43, if_pos (by omega), b241_49, if_neg (fun w => w e), b241_55]
        · have : i = 0 := by omega
          subst this
          refine ⟨e, fun c hc => ?_⟩
          rw [show μ2 125 = μ1 125 from chg_row b4 (fun _ => rfl) rfl]
          exact a3.2.1 c hc
        · rw [List.length_cons] at h
          omega
      · obtain ⟨r, τ, p1, p2, p3, p4, p5⟩ := ih μ2 (a + 1) S2 A2 (by omega) (by omega)
        refine ⟨r, τ, fun d o1 o2 o4 o5 => ?_, chg_tr cc p2, fun y => ?_, fun i hi h => ?_, fun i hi h => ?_⟩
        · rw [st, b241_43, if_pos (by omega), b241_49, if_pos e, b241_58, show xadd (a : Int) 1 = ((a + 1 : Nat) : Int) from xadd_eq (by omega) (by omega)]
          exact p1 d _ _ _ _
        · rw [p3 y, List.length_cons]
          omega
        · obtain ⟨i', rfl⟩ : ∃ i', i = i' + 1 := ⟨i - 1, by omega⟩
          rw [List.length_cons] at h
          have := p4 i' (by omega) (by omega)
          exact this
        · obtain ⟨i', rfl⟩ : ∃ i', i = i' + 1 := ⟨i - 1, by omega⟩
          rw [List.length_cons] at h
          exact p5 i' (by omega) (by omega)
    · have gq : ¬ gdB (GDM n B fg sy cd len (-1)) q = true := fun g => z (b3.mpr (gdB_iff.mp g))
      rw [List.filter_cons_of_neg gq] at ha
      rw [List.filter_cons_of_neg gq]
      obtain ⟨r, τ, p1, p2, p3⟩ := ih μ2 a S2 A2 hn ha
      refine ⟨r, τ, fun d o1 o2 o4 o5 => ?_, chg_tr cc p2, p3⟩
      rw [st, b241_43, if_neg (by omega), b241_46]
      exact p1 d _ _ _ _
end SEE
