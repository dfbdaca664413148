/-! COULD, in the model: seekCould's rows -/
def bitI (x : Int) (p : Nat) : Int := xand (xshr x (p : Int)) 1
section WST
variable {X : Nat × (Nat → Int)} {μ τ : xM} {n : Nat}
theorem bitI_01 {x : Int} (h0 : 0 ≤ x) (h1 : x < 128) {p : Nat} (hp : p < 7) : bitI x p = 0 ∨ bitI x p = 1 := by
  unfold bitI
  have := bit_v (V := x.toNat) (p := p) (by omega) hp
  rw [Int.toNat_of_nonneg h0] at this
  rw [this]
  split
  · exact Or.inr rfl
  · exact Or.inl rfl
/-- the sticks of a row are counted -/
theorem it284 (hn : n ≤ 11) (e16 : μ 100 16 = (n : Int)) (hb : ∀ c, c < n → 0 ≤ μ 125 c ∧ μ 125 c < 128) (hw : ∀ c p : Nat, c < n → p < 7 → 0 ≤ μ 137 (7 * c + p) ∧ μ 137 (7 * c + p) < 2000000000) {a2 a5 : Int} : ∃ τ, (∀ d o1 o3 o4 o7, ∃ q6 q7, Ev X d 284 108 [some (vr 100), o1, some (vi a2), o3, o4, some (vi a5), some (vi 0), o7] [] SH μ = Ev X d 284 72 [some (vr 100), o1, some (vi a2), o3, o4, some (vi a5), q6, q7] [] SH τ) ∧ chs [137] [] μ τ ∧ ∀ c p : Nat, c < n → p < 7 → τ 137 (7 * c + p) = μ 137 (7 * c + p) + bitI (μ 125 c) p := by
  have lpP : ∀ (c : Nat), c < n → ∀ (m p : Nat) (τ : xM), p + m = 7 → chs [137] [] μ τ → (∀ c' p' : Nat, c' < n → p' < 7 → τ 137 (7 * c' + p') = μ 137 (7 * c' + p') + (if c' < c ∨ (c' = c ∧ p' < p) then bitI (μ 125 c') p' else 0)) → ∃ τ', (∀ d o1 o3 o4, Ev X d 284 120 [some (vr 100), o1, some (vi a2), o3, o4, some (vi a5), some (vi c), some (vi p)] [] SH τ = Ev X d 284 161 [some (vr 100), o1, some (vi a2), o3, o4, some (vi a5), some (vi c), some (vi 7)] [] SH τ') ∧ chs [137] [] μ τ' ∧ (∀ c' p' : Nat, c' < n → p' < 7 → τ' 137 (7 * c' + p') = μ 137 (7 * c' + p') + (if c' < c + 1 then bitI (μ 125 c') p' else 0)) := by
    intro c hc m
    induction m with
    | zero =>
      intro p τ e1 e2 e3
      have e1 : p = 7 := by omega
      subst e1
      refine ⟨τ, fun d o1 o3 o4 => ?_, e2, fun c' p' h1 h2 => ?_⟩
      · rw [b284_120, if_pos (by omega)]
        rfl
      · rw [e3 c' p' h1 h2]
        by_cases y : c' < c + 1
        · rw [if_pos (by omega), if_pos y]
        · rw [if_neg (by omega), if_neg y]
    | succ m ih =>
      intro p τ e1 e2 e3
      have e125 : τ 125 c = μ 125 c := e2 125 c rfl
      have v := e3 c p hc (by omega)
      rw [if_neg (by omega)] at v
      have w := hw c p hc (by omega)
      have b := bitI_01 (hb c hc).1 (hb c hc).2 (p := p) (by omega)
      have xo : xadd (xmul 7 (c : Int)) (p : Int) = ((7 * c + p : Nat) : Int) := by
        rw [xmul_eq (by omega) (by omega), show (7 : Int) * (c : Int) = ((7 * c : Nat) : Int) by omega, xad (by omega)]
      have xs : xadd (τ 137 (7 * c + p)) (xand (xshr (τ 125 c) (p : Int)) 1) = μ 137 (7 * c + p) + bitI (μ 125 c) p := by
        rw [e125, show xand (xshr (μ 125 c) (p : Int)) 1 = bitI (μ 125 c) p from rfl, v, xadd_eq (by omega) (by omega)]
        omega
      obtain ⟨τ', p1, p2, p3⟩ := ih (p + 1) (xwr τ 137 (7 * c + p) (μ 137 (7 * c + p) + bitI (μ 125 c) p)) (by omega) (chs_wr rfl e2) (fun c' p' h1 h2 => by
        by_cases y : 7 * c' + p' = 7 * c + p
        · have y1 : c' = c := by omega
          have y2 : p' = p := by omega
          subst y1 y2
          rw [xwr_eq, if_pos (by omega)]
        · rw [xwr_nj y, e3 c' p' h1 h2]
          by_cases z : c' < c ∨ (c' = c ∧ p' < p)
          · rw [if_pos z, if_pos (by omega)]
          · rw [if_neg z, if_neg (by omega)])
      refine ⟨τ', fun d o1 o3 o4 => ?_, p2, p3⟩
      rw [b284_120, if_neg (by omega), b284_127 (by rw [xo]; omega) (by omega), xo, Int.toNat_natCast, Int.toNat_natCast, xs, xad1 (by omega)]
      exact p1 d o1 o3 o4
  have lpC : ∀ (m c : Nat) (τ : xM), c + m = n → chs [137] [] μ τ → (∀ c' p' : Nat, c' < n → p' < 7 → τ 137 (7 * c' + p') = μ 137 (7 * c' + p') + (if c' < c then bitI (μ 125 c') p' else 0)) → ∃ τ', (∀ d o1 o3 o4 o7, ∃ q6 q7, Ev X d 284 108 [some (vr 100), o1, some (vi a2), o3, o4, some (vi a5), some (vi c), o7] [] SH τ = Ev X d 284 72 [some (vr 100), o1, some (vi a2), o3, o4, some (vi a5), q6, q7] [] SH τ') ∧ chs [137] [] μ τ' ∧ ∀ c p : Nat, c < n → p < 7 → τ' 137 (7 * c + p) = μ 137 (7 * c + p) + bitI (μ 125 c) p := by
    intro m
    induction m with
    | zero =>
      intro c τ e1 e2 e3
      refine ⟨τ, fun d o1 o3 o4 o7 => ⟨some (vi c), o7, ?_⟩, e2, fun c' p' h1 h2 => by rw [e3 c' p' h1 h2, if_pos (by omega)]⟩
      rw [b284_108, if_pos (by rw [e2 100 16 rfl, e16]; omega), b284_167]
    | succ m ih =>
      intro c τ e1 e2 e3
      obtain ⟨τ1, q1, q2, q3⟩ := lpP c (by omega) 7 0 τ (by omega) e2 (fun c' p' h1 h2 => by
        rw [e3 c' p' h1 h2]
        by_cases y : c' < c
        · rw [if_pos y, if_pos (Or.inl y)]
        · rw [if_neg y, if_neg (by omega)])
      obtain ⟨τ', p1, p2, p3⟩ := ih (c + 1) τ1 (by omega) q2 q3
      refine ⟨τ', fun d o1 o3 o4 o7 => ?_, p2, p3⟩
      obtain ⟨q6, q7, hq⟩ := p1 d o1 o3 o4 (some (vi 7))
      refine ⟨q6, q7, ?_⟩
      rw [b284_108, if_neg (by rw [e2 100 16 rfl, e16]; omega), b284_117]
      refine Eq.trans (q1 d o1 o3 o4) ?_
      rw [b284_161, xad1 (by omega)]
      exact hq
  obtain ⟨τ, p1, p2, p3⟩ := lpC n 0 μ (by omega) chs_rf (fun c' p' h1 h2 => by rw [if_neg (by omega)]; omega)
  exact ⟨τ, p1, p2, p3⟩
/-- all counts are nothing -/
theorem it284z {a2 : Int} {o1 o3 o6 o7 : Option xV} : ∀ (m i : Nat) (τ : xM) (o4 : Option xV), i + m = 77 → ∃ τ' o4', (∀ d, Ev X d 284 48 [some (vr 100), o1, some (vi a2), o3, o4, some (vi i), o6, o7] [] SH τ = Ev X d 284 69 [some (vr 100), o1, some (vi a2), o3, o4', some (vi 77), o6, o7] [] SH τ') ∧ chs [137] [] τ τ' ∧ (∀ j, i ≤ j → j < 77 → τ' 137 j = 0) ∧ ∀ j, j < i → τ' 137 j = τ 137 j := by
  intro m
  induction m with
  | zero =>
    intro i τ o4 e
    have e : i = 77 := by omega
    subst e
    refine ⟨τ, o4, fun d => ?_, chs_rf, fun j h1 h2 => by omega, fun j hj => rfl⟩
    rw [b284_48, if_pos (by omega)]
    rfl
  | succ m ih =>
    intro i τ o4 e
    obtain ⟨τ', o4', p1, p2, p3, p4⟩ := ih (i + 1) (xwr τ 137 i 0) (xkill o4) (by omega)
    refine ⟨τ', o4', fun d => ?_, chs_tr (chs_wr rfl chs_rf) p2, fun j h1 h2 => ?_, fun j hj => ?_⟩
    · rw [b284_48, if_neg (by omega), b284_55 (by omega), Int.toNat_natCast, xad1 (by omega)]
      exact p1 d
    · by_cases z : j = i
      · rw [z, p4 i (by omega), xwr_eq]
      · exact p3 j (by omega) h2
    · rw [p4 j (by omega), xwr_nj (by omega)]
/-- how many of them have a stick there -/
def sumB (B : Nat → Nat → Int) (c p : Nat) : List (Nat → Nat) → Int
  | [] => 0
  | q :: L => bitI (B c (q c)) p + sumB B c p L
/-- seekCould's loop -/
theorem it284l {len : Nat} {mo : Nat → List Nat} {ct cl : Nat → Nat → Nat} {B : Nat → Nat → Int} {fg w : Nat → Int} {sy : Nat → Nat → Int} {cd : Nat → Int} {G : (Nat → Nat) → Bool} (hG : ∀ q, G q = true ↔ fit (-1) (-1) (nsum (fun c => ct c (q c)) n) (nsum (fun c => cl c (q c)) n)) {nth : Int} : ∀ (Q : List (Nat → Nat)) (μ : xM) (a : Nat), SCN n mo ct cl B (-1) (-1) fg w sy cd len μ → ADVB X n mo ct cl B G Q μ → (nth < 0 ∨ (a : Int) ≤ nth) → a + (Q.filter (gdB (GDM n B fg sy cd len (-1)))).length < 1500000000 → (∀ c p : Nat, c < n → p < 7 → 0 ≤ μ 137 (7 * c + p) ∧ μ 137 (7 * c + p) ≤ (a : Int)) → ∃ (r : Int) (τ : xM), (∀ d o1 o3 o4 o6 o7, Ev X (d + 5) 284 72 [some (vr 100), o1, some (vi nth), o3, o4, some (vi a), o6, o7] [] SH μ = some (some (vi r), SH, τ)) ∧ chg [113, 114, 115, 121, 124, 125, 127, 128, 137] [(100, 47)] μ τ ∧ (nth < 0 → r = (a : Int) + (Q.filter (gdB (GDM n B fg sy cd len (-1)))).length ∧ ∀ c p : Nat, c < n → p < 7 → τ 137 (7 * c + p) = μ 137 (7 * c + p) + sumB B c p (Q.filter (gdB (GDM n B fg sy cd len (-1))))) ∧ (∀ i : Nat, nth = ((a + i : Nat) : Int) → ∀ h : i < (Q.filter (gdB (GDM n B fg sy cd len (-1)))).length, r = nth ∧ ∀ c, c < n → τ 125 c = B c ((Q.filter (gdB (GDM n B fg sy cd len (-1))))[i] c)) ∧ (∀ i : Nat, nth = ((a + i : Nat) : Int) → (Q.filter (gdB (GDM n B fg sy cd len (-1)))).length ≤ i → r = -1) := by
  intro Q
  induction Q with
  | nil =>
    intro μ a hS hA hn ha hz
    obtain ⟨μ1, a1, a2⟩ := hA.1 rfl
    have st : ∀ d o1 o3 o4 o6 o7, Ev X (d + 5) 284 72 [some (vr 100), o1, some (vi nth), o3, o4, some (vi a), o6, o7] [] SH μ = Ev X (d + 5) 284 170 [some (vr 100), o1, some (vi nth), o3, o4, some (vi a), o6, o7] [] SH μ1 := by
      intro d o1 o3 o4 o6 o7
      refine Eq.trans b284_72 ?_
      refine x_bind (a1 _ _ _ _) ?_
      dsimp only
      refine Eq.trans b284_76 ?_
      rw [if_pos rfl]
    by_cases y : nth < 0
    · refine ⟨(a : Int), μ1, fun d o1 o3 o4 o6 o7 => ?_, chg_mo (by decide) (chsA_g a2), fun _ => ⟨by simp, fun c p hc hp => by rw [a2 137 _ rfl, List.filter_nil, sumB]; omega⟩, fun i hi => by omega, fun i hi => by omega⟩
      rw [st, b284_170, if_neg (by omega), b284_174, b284_180]
    · refine ⟨-1, μ1, fun d o1 o3 o4 o6 o7 => ?_, chg_mo (by decide) (chsA_g a2), fun z => absurd z y, fun i hi h => absurd h (by simp), fun _ _ _ => rfl⟩
      rw [st, b284_170, if_pos (by omega), b284_179, b284_180]
  | cons q Q ih =>
    intro μ a hS hA hn ha hz
    obtain ⟨μ1, nx1, a1, a2, a3, a4⟩ := hA.2 q Q rfl
    have S1 := SCN_chg hS (chsA_g a2) rfl
    obtain ⟨b, μ2, b1, b2, b3, b4⟩ := row_gd (X := X) S1 a3
    have S2 := SCN_chg S1 b4 rfl
    have D2 := DNE_chg a3 b4 rfl
    have cc : chg [113, 114, 115, 121, 124, 125, 127, 128, 137] [(100, 47)] μ μ2 := chg_tr (chg_mo (by decide) (chsA_g a2)) (chg_mo (by decide) b4)
    have e137 : μ2 137 = μ 137 := by
      rw [show μ2 137 = μ1 137 from chg_row b4 (fun _ => rfl) rfl]
      exact funext (fun j => a2 137 j rfl)
    have st : ∀ d o1 o3 o4 o6 o7, Ev X (d + 5) 284 72 [some (vr 100), o1, some (vi nth), o3, o4, some (vi a), o6, o7] [] SH μ = Ev X (d + 5) 284 87 [some (vr 100), o1, some (vi nth), o3, o4, some (vi a), o6, o7] [vi b] SH μ2 := by
      intro d o1 o3 o4 o6 o7
      refine Eq.trans b284_72 ?_
      refine x_bind (a1 _ _ _ _) ?_
      dsimp only
      refine Eq.trans b284_76 ?_
      rw [if_neg (by decide)]
      refine Eq.trans b284_79 ?_
      refine x_bind (b2 d) ?_
      rfl
    by_cases z : b = 1
    · have gq : gdB (GDM n B fg sy cd len (-1)) q = true := gdB_iff.mpr (b3.mp z)
      rw [List.filter_cons_of_pos gq, List.length_cons] at ha
      rw [List.filter_cons_of_pos gq]
      by_cases e : (a : Int) = nth
      · refine ⟨(a : Int), μ2, fun d o1 o3 o4 o6 o7 => ?_, cc, fun y => by omega, fun i hi h => ?_, fun i hi h => ?_⟩
        · rw [st, b284_87, if_pos (by omega), b284_93, if_neg (fun w => w e), b284_99]
        · have : i = 0 := by omega
          subst this
          exact ⟨e, fun c hc => D2.2.1 c hc⟩
        · rw [List.length_cons] at h
          omega
      · have rg : ∀ c, c < n → 0 ≤ μ2 125 c ∧ μ2 125 c < 128 := by
          intro c hc
          rw [D2.2.1 c hc]
          obtain ⟨e, he, hh⟩ := List.getElem_of_mem (D2.2.2.1 c hc)
          rw [← hh]
          exact ((S2.1.2.2.2.2 c hc).2.2.2 e he).2.1
        have S2' := S2
        obtain ⟨⟨o1', o2', _⟩, _⟩ := S2'
        obtain ⟨μ3, c1, c2, c3⟩ := it284 (X := X) (μ := μ2) (n := n) (a2 := nth) (a5 := ((a + 1 : Nat) : Int)) o2' o1' rg (fun c p hc hp => by
          rw [e137]
          have := hz c p hc hp
          omega)
        have c2g := chs_g c2
        have S3 := SCN_chg S2 c2g rfl
        have D3 := DNE_chg D2 c2g rfl
        have vz : ∀ c p : Nat, c < n → p < 7 → μ3 137 (7 * c + p) = μ 137 (7 * c + p) + bitI (B c (q c)) p := fun c p hc hp => by
          rw [c3 c p hc hp, e137, D2.2.1 c hc]
        obtain ⟨r, τ, p1, p2, p3, p4, p5⟩ := ih μ3 (a + 1) S3 (ADVB_dn (X := X) S3 hG D3 a4) (by omega) (by omega) (fun c p hc hp => by
          have h1 := hz c p hc hp
          have h2 := bitI_01 (rg c hc).1 (rg c hc).2 (p := p) hp
          rw [c3 c p hc hp, e137]
          omega)
        refine ⟨r, τ, fun d o1 o3 o4 o6 o7 => ?_, chg_tr cc (chg_tr (chg_mo (by decide) c2g) p2), fun y => ?_, fun i hi h => ?_, fun i hi h => ?_⟩
        · have xa : xadd (a : Int) 1 = ((a + 1 : Nat) : Int) := xadd_eq (by omega) (by omega)
          rw [st, b284_87, if_pos (by omega), b284_93, if_pos e, b284_102, xa]
          obtain ⟨q6, q7, hq⟩ := c1 (d + 5) o1 o3 (xkill o4) o7
          exact hq.trans (p1 d _ _ _ _ _)
        · obtain ⟨q1, q2⟩ := p3 y
          refine ⟨by rw [q1, List.length_cons]; omega, fun c p hc hp => ?_⟩
          rw [q2 c p hc hp, vz c p hc hp, sumB]
          omega
        · obtain ⟨i', rfl⟩ : ∃ i', i = i' + 1 := ⟨i - 1, by omega⟩
          rw [List.length_cons] at h
          exact p4 i' (by omega) (by omega)
        · obtain ⟨i', rfl⟩ : ∃ i', i = i' + 1 := ⟨i - 1, by omega⟩
          rw [List.length_cons] at h
          exact p5 i' (by omega) (by omega)
    · have gq : ¬ gdB (GDM n B fg sy cd len (-1)) q = true := fun g => z (b3.mpr (gdB_iff.mp g))
      rw [List.filter_cons_of_neg gq] at ha
      rw [List.filter_cons_of_neg gq]
      obtain ⟨r, τ, p1, p2, p3, p4, p5⟩ := ih μ2 a S2 (ADVB_dn (X := X) S2 hG D2 a4) hn ha (by rw [e137]; exact hz)
      rw [e137] at p3
      refine ⟨r, τ, fun d o1 o3 o4 o6 o7 => ?_, chg_tr cc p2, p3, p4, p5⟩
      rw [st, b284_87, if_neg (by omega), b284_90]
      exact p1 d _ _ _ _ _
end WST
