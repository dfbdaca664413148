/-! WALKS, in the model: advance -/
def subL (mo : Nat → List Nat) (n : Nat) (p nx : Nat → Nat) (j : Nat) : List (Nat → Nat) := ((mo j).drop (nx j)).flatMap (fun i => enumF mo (n - 1 - j) (j + 1) (upN p j i))
/-- what is still to come at the levels lo .. lo + t - 1, the deepest first -/
def rstL (mo : Nat → List Nat) (n : Nat) (p nx : Nat → Nat) (lo : Nat) : Nat → List (Nat → Nat)
  | 0 => []
  | t + 1 => subL mo n p nx (lo + t) ++ rstL mo n p nx lo t
section ADW
variable {X : Nat × (Nat → Int)} {μ0 μ : xM} {n l : Nat} {mo : Nat → List Nat} {ct cl : Nat → Nat → Nat} {B : Nat → Nat → Int} {mg ml : Int} {p q nx nx' : Nat → Nat}
theorem enumF_cg {op : Nat → List Nat} : ∀ m c (p q : Nat → Nat), (∀ j, j < c → p j = q j) → (∀ j, c + m ≤ j → p j = q j) → enumF op m c p = enumF op m c q
  | 0, c, p, q, h1, h2 => by
    rw [enumF, enumF, show p = q from funext (fun j => by
      by_cases y : j < c
      · exact h1 j y
      · exact h2 j (by omega))]
  | m + 1, c, p, q, h1, h2 => by
    rw [enumF, enumF]
    congr 1
    funext i
    refine enumF_cg m (c + 1) _ _ (fun j hj => ?_) (fun j hj => ?_)
    · by_cases y : j = c
      · rw [y, upN_at, upN_at]
      · rw [upN_ne y, upN_ne y]
        exact h1 j (by omega)
    · rw [upN_ne (by omega), upN_ne (by omega)]
      exact h2 j (by omega)
theorem enumF_out {op : Nat → List Nat} : ∀ m c (p q : Nat → Nat), q ∈ enumF op m c p → ∀ j, c + m ≤ j → q j = p j
  | 0, c, p, q, h, j, _ => by
    rw [enumF, List.mem_singleton] at h
    rw [h]
  | m + 1, c, p, q, h, j, hj => by
    rw [enumF, List.mem_flatMap] at h
    obtain ⟨i, _, h⟩ := h
    rw [enumF_out m (c + 1) _ q h j (by omega), upN_ne (by omega)]
theorem subL_cg {j : Nat} (hj : j < n) (h : ∀ i, i < j → p i = q i) (h2 : ∀ i, n ≤ i → p i = q i) (hx : nx j = nx' j) : subL mo n p nx j = subL mo n q nx' j := by
  unfold subL
  rw [hx]
  congr 1
  funext i
  refine enumF_cg _ _ _ _ (fun a ha => ?_) (fun a ha => ?_)
  · by_cases y : a = j
    · rw [y, upN_at, upN_at]
    · rw [upN_ne y, upN_ne y]
      exact h a (by omega)
  · rw [upN_ne (by omega), upN_ne (by omega)]
    exact h2 a (by omega)
theorem rstL_cg : ∀ t lo, lo + t ≤ n → (∀ i, i + 1 < lo + t → p i = q i) → (∀ i, n ≤ i → p i = q i) → (∀ i, i < lo + t → nx i = nx' i) → rstL mo n p nx lo t = rstL mo n q nx' lo t
  | 0, _, _, _, _, _ => rfl
  | t + 1, lo, h, h1, h2, h3 => by
    rw [rstL, rstL, subL_cg (by omega) (fun i hi => h1 i (by omega)) h2 (h3 _ (by omega)), rstL_cg t lo (by omega) (fun i hi => h1 i (by omega)) h2 (fun i hi => h3 i (by omega))]
theorem rstL_sp (p nx : Nat → Nat) (lo : Nat) : ∀ t s, rstL mo n p nx lo (s + t) = rstL mo n p nx (lo + s) t ++ rstL mo n p nx lo s
  | 0, s => rfl
  | t + 1, s => by
    rw [show s + (t + 1) = s + t + 1 by omega, rstL, rstL_sp p nx lo t s, rstL, ← List.append_assoc, show lo + (s + t) = lo + s + t by omega]
/-- a whole row is there -/
def DNE (n : Nat) (mo : Nat → List Nat) (ct cl : Nat → Nat → Nat) (B : Nat → Nat → Int) (q nx : Nat → Nat) (μ : xM) : Prop := MST ct cl B (n - 1) q nx μ ∧ (∀ j, j < n → μ 125 j = B j (q j)) ∧ (∀ j, j < n → q j ∈ mo j) ∧ (∀ j, j < n → nx j ≤ (mo j).length) ∧ ∀ j, n ≤ j → q j = 0
theorem MST_cg {nx2 : Nat → Nat} {μ1 : xM} (hM : MST ct cl B l p nx μ) (h47 : μ1 100 47 = (l : Int)) (h4 : ∀ j, j < l → μ1 124 j = μ 124 j ∧ μ1 125 j = μ 125 j) (h4l : μ1 124 l = (nx2 l : Int) - 1) (hx : ∀ j, j < l → nx2 j = nx j) (h7 : ∀ j, j ≤ l → μ1 127 j = μ 127 j ∧ μ1 128 j = μ 128 j) : MST ct cl B l p nx2 μ1 := by
  obtain ⟨m1, m2, m3, m4⟩ := hM
  refine ⟨h47, fun j hj => ?_, fun j hj => ((h4 j hj).2).trans (m3 j hj), fun j hj => ?_⟩
  · by_cases y : j = l
    · rw [y]
      exact h4l
    · rw [(h4 j (by omega)).1, hx j (by omega)]
      exact m2 j hj
  · rw [(h7 j hj).1, (h7 j hj).2]
    exact m4 j hj
theorem fit_no {t l t' l' : Nat} (h : ovr mg ml t l) (h1 : t ≤ t') (h2 : l ≤ l') : ¬ fit mg ml t' l' := by
  unfold ovr at h
  unfold fit
  omega
theorem adv_dn (hO : ODO n mo ct cl B mg ml μ0) (G : (Nat → Nat) → Bool) (hG : ∀ q, G q = true ↔ fit mg ml (nsum (fun c => ct c (q c)) n) (nsum (fun c => cl c (q c)) n)) (h7 : ∀ c, c < n → ∀ i, i ∈ mo c → ct c i ≤ 7 ∧ cl c i ≤ 7) : ∀ (m l : Nat), l + m + 1 = n → ∀ (w : Nat) (p nx : Nat → Nat) (μ : xM), nx l + w = (mo l).length → MST ct cl B l p nx μ → chs [124, 125, 127, 128] AC μ0 μ → (∀ j, n ≤ j → p j = 0) → (∀ j, j < l → p j ∈ mo j) → (∀ j, j < l → nx j ≤ (mo j).length) → ((subL mo n p nx l).filter G = [] → ∃ μ', (∀ d o1 o2 o3, ∃ q1 q2 q3, Ev X (d + 1) 246 0 [some (vr 100), o1, o2, o3] [] SH μ = Ev X (d + 1) 246 0 [some (vr 100), q1, q2, q3] [] SH μ') ∧ chs [124, 125, 127, 128] AC μ0 μ' ∧ μ' 100 47 = (l : Int) - 1 ∧ (∀ j, j < l → μ' 124 j = μ 124 j ∧ μ' 125 j = μ 125 j) ∧ (∀ j, j ≤ l → μ' 127 j = μ 127 j ∧ μ' 128 j = μ 128 j)) ∧ (∀ q S', (subL mo n p nx l).filter G = q :: S' → ∃ μ' nx', (∀ d o1 o2 o3, Ev X (d + 1) 246 0 [some (vr 100), o1, o2, o3] [] SH μ = some (some (vi 1), SH, μ')) ∧ chs [124, 125, 127, 128] AC μ0 μ' ∧ DNE n mo ct cl B q nx' μ' ∧ (∀ j, j < l → nx' j = nx j ∧ q j = p j) ∧ S' = (rstL mo n q nx' l (m + 1)).filter G) := by
  intro m
  induction m with
  | zero =>
    intro l hl w
    induction w with
    | zero =>
      intro p nx μ hw hM hs hp0 hpm hnx
      obtain ⟨a2, a5⟩ : n ≤ 11 ∧ (mo l).length ≤ 20 := ⟨hO.2.1, (hO.2.2.2.2 l (by omega)).1⟩
      have S0 : subL mo n p nx l = [] := by
        unfold subL
        rw [show nx l = (mo l).length by omega, List.drop_length, List.flatMap_nil]
      refine ⟨fun _ => ?_, fun q S' h => ?_⟩
      · obtain ⟨μ1, u1, u2, u3, u4, u5, u6, u7⟩ := adv_up (X := X) hO hs hM.1 (hM.2.1 l (Nat.le_refl _)) (by omega) (by omega) (by omega)
        exact ⟨μ1, fun d o1 o2 o3 => ⟨o1, o2, o3, u1 _ o1 o2 o3⟩, u2, u3, fun j hj => ⟨u4 j hj, by rw [u5]⟩, fun j hj => ⟨by rw [u6], by rw [u7]⟩⟩
      · rw [S0, List.filter_nil] at h
        cases h
    | succ w ihw =>
      intro p nx μ hw hM hs hp0 hpm hnx
      have a2 := hO.2.1
      have he : nx l < (mo l).length := by omega
      have mem : (mo l)[nx l] ∈ mo l := List.getElem_mem he
      generalize hi : (mo l)[nx l] = i at mem
      have nb : nsum (fun c => ct c (p c)) l ≤ 7 * l ∧ nsum (fun c => cl c (p c)) l ≤ 7 * l := ⟨nsum_le l (fun j hj => (h7 j (by omega) _ (hpm j hj)).1), nsum_le l (fun j hj => (h7 j (by omega) _ (hpm j hj)).2)⟩
      obtain ⟨μ1, s1, s2, s3, s4, s5, s6⟩ := adv_st (X := X) hO hs hM (by omega) ⟨by omega, by omega⟩ he hi
      have Sc : subL mo n p nx l = upN p l i :: subL mo n p (upN nx l (nx l + 1)) l := by
        unfold subL
        rw [upN_at, List.drop_eq_getElem_cons he, List.flatMap_cons, hi, show n - 1 - l = 0 by omega, enumF, List.singleton_append]
      have gi : G (upN p l i) = true ↔ fit mg ml (nsum (fun c => ct c (p c)) l + ct l i) (nsum (fun c => cl c (p c)) l + cl l i) := by
        rw [hG, show n = l + 1 by omega, nsum_up, nsum_up]
      have nxt : μ1 100 47 = (l : Int) → MST ct cl B l p (upN nx l (nx l + 1)) μ1 := fun h47 => MST_cg hM h47 s2 (by rw [upN_at, s3]; omega) (fun j hj => upN_ne (by omega)) s5
      have cont : μ1 100 47 = (l : Int) → (∀ d o1 o2 o3, ∃ q1 q2 q3, Ev X (d + 1) 246 0 [some (vr 100), o1, o2, o3] [] SH μ = Ev X (d + 1) 246 0 [some (vr 100), q1, q2, q3] [] SH μ1) → G (upN p l i) = false → ((subL mo n p nx l).filter G = [] → ∃ μ', (∀ d o1 o2 o3, ∃ q1 q2 q3, Ev X (d + 1) 246 0 [some (vr 100), o1, o2, o3] [] SH μ = Ev X (d + 1) 246 0 [some (vr 100), q1, q2, q3] [] SH μ') ∧ chs [124, 125, 127, 128] AC μ0 μ' ∧ μ' 100 47 = (l : Int) - 1 ∧ (∀ j, j < l → μ' 124 j = μ 124 j ∧ μ' 125 j = μ 125 j) ∧ (∀ j, j ≤ l → μ' 127 j = μ 127 j ∧ μ' 128 j = μ 128 j)) ∧ (∀ q S', (subL mo n p nx l).filter G = q :: S' → ∃ μ' nx', (∀ d o1 o2 o3, Ev X (d + 1) 246 0 [some (vr 100), o1, o2, o3] [] SH μ = some (some (vi 1), SH, μ')) ∧ chs [124, 125, 127, 128] AC μ0 μ' ∧ DNE n mo ct cl B q nx' μ' ∧ (∀ j, j < l → nx' j = nx j ∧ q j = p j) ∧ S' = (rstL mo n q nx' l (0 + 1)).filter G) := by
        intro h47 run gf
        obtain ⟨i1, i2⟩ := ihw p (upN nx l (nx l + 1)) μ1 (by rw [upN_at]; omega) (nxt h47) s1 hp0 hpm (fun j hj => by rw [upN_ne (by omega)]; exact hnx j hj)
        rw [Sc, List.filter_cons_of_neg (by rw [gf]; decide)]
        refine ⟨fun h => ?_, fun q S' h => ?_⟩
        · obtain ⟨μ', v1, v2, v3, v4, v5⟩ := i1 h
          refine ⟨μ', fun d o1 o2 o3 => ?_, v2, v3, fun j hj => ⟨(v4 j hj).1.trans (s2 j hj).1, (v4 j hj).2.trans (s2 j hj).2⟩, fun j hj => ⟨(v5 j hj).1.trans (s5 j hj).1, (v5 j hj).2.trans (s5 j hj).2⟩⟩
          obtain ⟨q1, q2, q3, hq⟩ := run d o1 o2 o3
          obtain ⟨r1, r2, r3, hr⟩ := v1 d q1 q2 q3
          exact ⟨r1, r2, r3, hq.trans hr⟩
        · obtain ⟨μ', nx', v1, v2, v3, v4, v5⟩ := i2 q S' h
          refine ⟨μ', nx', fun d o1 o2 o3 => ?_, v2, v3, fun j hj => ⟨(v4 j hj).1.trans (upN_ne (by omega)), (v4 j hj).2⟩, v5⟩
          obtain ⟨q1, q2, q3, hq⟩ := run d o1 o2 o3
          exact hq.trans (v1 d q1 q2 q3)
      rcases s6 with ⟨ov, h47, run⟩ | ⟨nov, d7, d8, s6⟩
      · refine cont h47 run ?_
        rw [Bool.eq_false_iff]
        intro z
        exact fit_no ov (Nat.le_refl _) (Nat.le_refl _) (gi.mp z)
      · rcases s6 with ⟨ln, ft, h47, run⟩ | ⟨ln, ft, h47, run⟩ | ⟨ln, _⟩
        · rw [Sc, List.filter_cons_of_pos (gi.mpr ft)]
          refine ⟨fun h => (by cases h), fun q S' h => ?_⟩
          injection h with h1 h2
          subst h1
          refine ⟨μ1, upN nx l (nx l + 1), run, s1, ⟨?_, fun j hj => ?_, fun j hj => ?_, fun j hj => ?_, fun j hj => ?_⟩, fun j hj => ⟨upN_ne (by omega), upN_ne (by omega)⟩, ?_⟩
          · have M := nxt h47
            rw [show n - 1 = l by omega]
            obtain ⟨m1, m2, m3, m4⟩ := M
            refine ⟨m1, m2, fun j hj => ?_, fun j hj => ?_⟩
            · rw [m3 j hj, upN_ne (by omega)]
            · rw [(m4 j hj).1, (m4 j hj).2, nsum_cg (f := fun c => ct c (p c)) (g := fun c => ct c (upN p l i c)) j (fun a ha => by show ct a (p a) = ct a (upN p l i a); rw [upN_ne (by omega)]), nsum_cg (f := fun c => cl c (p c)) (g := fun c => cl c (upN p l i c)) j (fun a ha => by show cl a (p a) = cl a (upN p l i a); rw [upN_ne (by omega)])]
              exact ⟨rfl, rfl⟩
          · by_cases y : j = l
            · rw [y, upN_at]
              exact s4
            · rw [upN_ne y, (s2 j (by omega)).2]
              exact hM.2.2.1 j (by omega)
          · by_cases y : j = l
            · rw [y, upN_at]
              exact mem
            · rw [upN_ne y]
              exact hpm j (by omega)
          · by_cases y : j = l
            · rw [y, upN_at]
              omega
            · rw [upN_ne y]
              exact hnx j (by omega)
          · rw [upN_ne (by omega)]
            exact hp0 j hj
          · rw [← h2, rstL, rstL, List.append_nil, Nat.add_zero]
            exact congrArg (List.filter G) (subL_cg (by omega) (fun a ha => (upN_ne (by omega)).symm) (fun a ha => (upN_ne (by omega)).symm) rfl)
        · refine cont h47 run ?_
          rw [Bool.eq_false_iff]
          intro z
          exact ft (gi.mp z)
        · omega
  | succ m ih =>
    intro l hl w
    induction w with
    | zero =>
      intro p nx μ hw hM hs hp0 hpm hnx
      obtain ⟨a2, a5⟩ : n ≤ 11 ∧ (mo l).length ≤ 20 := ⟨hO.2.1, (hO.2.2.2.2 l (by omega)).1⟩
      have S0 : subL mo n p nx l = [] := by
        unfold subL
        rw [show nx l = (mo l).length by omega, List.drop_length, List.flatMap_nil]
      refine ⟨fun _ => ?_, fun q S' h => ?_⟩
      · obtain ⟨μ1, u1, u2, u3, u4, u5, u6, u7⟩ := adv_up (X := X) hO hs hM.1 (hM.2.1 l (Nat.le_refl _)) (by omega) (by omega) (by omega)
        exact ⟨μ1, fun d o1 o2 o3 => ⟨o1, o2, o3, u1 _ o1 o2 o3⟩, u2, u3, fun j hj => ⟨u4 j hj, by rw [u5]⟩, fun j hj => ⟨by rw [u6], by rw [u7]⟩⟩
      · rw [S0, List.filter_nil] at h
        cases h
    | succ w ihw =>
      intro p nx μ hw hM hs hp0 hpm hnx
      have a2 := hO.2.1
      have he : nx l < (mo l).length := by omega
      have mem : (mo l)[nx l] ∈ mo l := List.getElem_mem he
      generalize hi : (mo l)[nx l] = i at mem
      have nb : nsum (fun c => ct c (p c)) l ≤ 7 * l ∧ nsum (fun c => cl c (p c)) l ≤ 7 * l := ⟨nsum_le l (fun j hj => (h7 j (by omega) _ (hpm j hj)).1), nsum_le l (fun j hj => (h7 j (by omega) _ (hpm j hj)).2)⟩
      obtain ⟨μ1, s1, s2, s3, s4, s5, s6⟩ := adv_st (X := X) hO hs hM (by omega) ⟨by omega, by omega⟩ he hi
      have Sc : subL mo n p nx l = enumF mo (m + 1) (l + 1) (upN p l i) ++ subL mo n p (upN nx l (nx l + 1)) l := by
        unfold subL
        rw [upN_at, List.drop_eq_getElem_cons he, List.flatMap_cons, hi, show n - 1 - l = m + 1 by omega]
      -- on at this level, from a memory that stands there
      have cont : ∀ μ2 : xM, μ2 100 47 = (l : Int) → chs [124, 125, 127, 128] AC μ0 μ2 → (∀ j, j < l → μ2 124 j = μ 124 j ∧ μ2 125 j = μ 125 j) → μ2 124 l = (nx l : Int) → (∀ j, j ≤ l → μ2 127 j = μ 127 j ∧ μ2 128 j = μ 128 j) → (∀ d o1 o2 o3, ∃ q1 q2 q3, Ev X (d + 1) 246 0 [some (vr 100), o1, o2, o3] [] SH μ = Ev X (d + 1) 246 0 [some (vr 100), q1, q2, q3] [] SH μ2) → (enumF mo (m + 1) (l + 1) (upN p l i)).filter G = [] → ((subL mo n p nx l).filter G = [] → ∃ μ', (∀ d o1 o2 o3, ∃ q1 q2 q3, Ev X (d + 1) 246 0 [some (vr 100), o1, o2, o3] [] SH μ = Ev X (d + 1) 246 0 [some (vr 100), q1, q2, q3] [] SH μ') ∧ chs [124, 125, 127, 128] AC μ0 μ' ∧ μ' 100 47 = (l : Int) - 1 ∧ (∀ j, j < l → μ' 124 j = μ 124 j ∧ μ' 125 j = μ 125 j) ∧ (∀ j, j ≤ l → μ' 127 j = μ 127 j ∧ μ' 128 j = μ 128 j)) ∧ (∀ q S', (subL mo n p nx l).filter G = q :: S' → ∃ μ' nx', (∀ d o1 o2 o3, Ev X (d + 1) 246 0 [some (vr 100), o1, o2, o3] [] SH μ = some (some (vi 1), SH, μ')) ∧ chs [124, 125, 127, 128] AC μ0 μ' ∧ DNE n mo ct cl B q nx' μ' ∧ (∀ j, j < l → nx' j = nx j ∧ q j = p j) ∧ S' = (rstL mo n q nx' l (m + 1 + 1)).filter G) := by
        intro μ2 h47 z1 z2 z3 z5 run gf
        obtain ⟨i1, i2⟩ := ihw p (upN nx l (nx l + 1)) μ2 (by rw [upN_at]; omega) (MST_cg hM h47 z2 (by rw [upN_at, z3]; omega) (fun j hj => upN_ne (by omega)) z5) z1 hp0 hpm (fun j hj => by rw [upN_ne (by omega)]; exact hnx j hj)
        rw [Sc, List.filter_append, gf, List.nil_append]
        refine ⟨fun h => ?_, fun q S' h => ?_⟩
        · obtain ⟨μ', v1, v2, v3, v4, v5⟩ := i1 h
          refine ⟨μ', fun d o1 o2 o3 => ?_, v2, v3, fun j hj => ⟨(v4 j hj).1.trans (z2 j hj).1, (v4 j hj).2.trans (z2 j hj).2⟩, fun j hj => ⟨(v5 j hj).1.trans (z5 j hj).1, (v5 j hj).2.trans (z5 j hj).2⟩⟩
          obtain ⟨q1, q2, q3, hq⟩ := run d o1 o2 o3
          obtain ⟨r1, r2, r3, hr⟩ := v1 d q1 q2 q3
          exact ⟨r1, r2, r3, hq.trans hr⟩
        · obtain ⟨μ', nx', v1, v2, v3, v4, v5⟩ := i2 q S' h
          refine ⟨μ', nx', fun d o1 o2 o3 => ?_, v2, v3, fun j hj => ⟨(v4 j hj).1.trans (upN_ne (by omega)), (v4 j hj).2⟩, v5⟩
          obtain ⟨q1, q2, q3, hq⟩ := run d o1 o2 o3
          exact hq.trans (v1 d q1 q2 q3)
      rcases s6 with ⟨ov, h47, run⟩ | ⟨nov, d7, d8, s6⟩
      · refine cont μ1 h47 s1 s2 s3 s5 run ?_
        rw [List.filter_eq_nil_iff]
        intro q hq z
        obtain ⟨u1, u2⟩ := mem_enumF _ _ _ _ hq
        rw [hG] at z
        refine fit_no ov ?_ ?_ z
        · have := nsum_sfx (fun c => ct c (q c)) (m + 1) (l + 1)
          rw [show l + 1 + (m + 1) = n by omega, nsum_cg (f := fun c => ct c (q c)) (g := fun c => ct c (upN p l i c)) (l + 1) (fun a ha => by show ct a (q a) = ct a (upN p l i a); rw [u1 a ha]), nsum_up] at this
          omega
        · have := nsum_sfx (fun c => cl c (q c)) (m + 1) (l + 1)
          rw [show l + 1 + (m + 1) = n by omega, nsum_cg (f := fun c => cl c (q c)) (g := fun c => cl c (upN p l i c)) (l + 1) (fun a ha => by show cl a (q a) = cl a (upN p l i a); rw [u1 a ha]), nsum_up] at this
          omega
      · rcases s6 with ⟨ln, _⟩ | ⟨ln, _⟩ | ⟨ln, h47, h124, run⟩
        · omega
        · omega
        · -- one level down
          have M1 : MST ct cl B (l + 1) (upN p l i) (upN (upN nx l (nx l + 1)) (l + 1) 0) μ1 := by
            refine ⟨h47, fun j hj => ?_, fun j hj => ?_, fun j hj => ?_⟩
            · by_cases y : j = l + 1
              · rw [y, h124, upN_at]
                rfl
              · rw [upN_ne y]
                by_cases y2 : j = l
                · rw [y2, upN_at, s3]
                  omega
                · rw [upN_ne y2, (s2 j (by omega)).1]
                  exact hM.2.1 j (by omega)
            · by_cases y2 : j = l
              · rw [y2, upN_at]
                exact s4
              · rw [upN_ne y2, (s2 j (by omega)).2]
                exact hM.2.2.1 j (by omega)
            · by_cases y : j = l + 1
              · rw [y, d7, d8, nsum_up, nsum_up]
                exact ⟨rfl, rfl⟩
              · rw [(s5 j (by omega)).1, (s5 j (by omega)).2, (hM.2.2.2 j (by omega)).1, (hM.2.2.2 j (by omega)).2, nsum_cg (f := fun c => ct c (p c)) (g := fun c => ct c (upN p l i c)) j (fun a ha => by show ct a (p a) = ct a (upN p l i a); rw [upN_ne (by omega)]), nsum_cg (f := fun c => cl c (p c)) (g := fun c => cl c (upN p l i c)) j (fun a ha => by show cl a (p a) = cl a (upN p l i a); rw [upN_ne (by omega)])]
                exact ⟨rfl, rfl⟩
          have Se : subL mo n (upN p l i) (upN (upN nx l (nx l + 1)) (l + 1) 0) (l + 1) = enumF mo (m + 1) (l + 1) (upN p l i) := by
            unfold subL
            rw [upN_at, List.drop_zero, enumF, show n - 1 - (l + 1) = m by omega]
          obtain ⟨i1, i2⟩ := ih (l + 1) (by omega) (mo (l + 1)).length (upN p l i) (upN (upN nx l (nx l + 1)) (l + 1) 0) μ1 (by rw [upN_at]; omega) M1 s1 (fun j hj => by rw [upN_ne (by omega)]; exact hp0 j hj) (fun j hj => by
            by_cases y : j = l
            · rw [y, upN_at]
              exact mem
            · rw [upN_ne y]
              exact hpm j (by omega)) (fun j hj => by
            rw [upN_ne (by omega)]
            by_cases y : j = l
            · rw [y, upN_at]
              omega
            · rw [upN_ne y]
              exact hnx j (by omega))
          rw [Se] at i1 i2
          cases hA : (enumF mo (m + 1) (l + 1) (upN p l i)).filter G with
          | nil =>
            obtain ⟨μ2, v1, v2, v3, v4, v5⟩ := i1 hA
            refine cont μ2 (by rw [v3]; omega) v2 (fun j hj => ⟨(v4 j (by omega)).1.trans (s2 j hj).1, (v4 j (by omega)).2.trans (s2 j hj).2⟩) ((v4 l (by omega)).1.trans s3) (fun j hj => ⟨(v5 j (by omega)).1.trans (s5 j hj).1, (v5 j (by omega)).2.trans (s5 j hj).2⟩) (fun d o1 o2 o3 => ?_) hA
            obtain ⟨q1, q2, q3, hq⟩ := run d o1 o2 o3
            obtain ⟨r1, r2, r3, hr⟩ := v1 d q1 q2 q3
            exact ⟨r1, r2, r3, hq.trans hr⟩
          | cons q S2 =>
            obtain ⟨μ2, nx2, v1, v2, v3, v4, v5⟩ := i2 q S2 hA
            rw [Sc, List.filter_append, hA, List.cons_append]
            refine ⟨fun h => (by cases h), fun q' S' h => ?_⟩
            injection h with h1 h2
            subst h1
            refine ⟨μ2, nx2, fun d o1 o2 o3 => ?_, v2, v3, fun j hj => ⟨?_, ?_⟩, ?_⟩
            · obtain ⟨q1, q2, q3, hq⟩ := run d o1 o2 o3
              exact hq.trans (v1 d q1 q2 q3)
            · rw [(v4 j (by omega)).1, upN_ne (by omega), upN_ne (by omega)]
            · rw [(v4 j (by omega)).2, upN_ne (by omega)]
            · rw [← h2, v5, show m + 1 + 1 = 1 + (m + 1) by omega, rstL_sp q nx2 l (m + 1) 1, List.filter_append]
              congr 2
              rw [rstL, rstL, List.append_nil, Nat.add_zero]
              refine subL_cg (by omega) (fun a ha => ?_) (fun a ha => ?_) ?_
              · rw [(v4 a (by omega)).2, upN_ne (by omega)]
              · rw [hp0 a ha, v3.2.2.2.2 a ha]
              · exact ((v4 l (by omega)).1.trans (upN_ne (by omega))).symm
/-- from a level up -/
theorem adv_go (hO : ODO n mo ct cl B mg ml μ0) (G : (Nat → Nat) → Bool) (hG : ∀ q, G q = true ↔ fit mg ml (nsum (fun c => ct c (q c)) n) (nsum (fun c => cl c (q c)) n)) (h7 : ∀ c, c < n → ∀ i, i ∈ mo c → ct c i ≤ 7 ∧ cl c i ≤ 7) : ∀ (t : Nat), t ≤ n → ∀ (p nx : Nat → Nat) (μ : xM), μ 100 47 = (t : Int) - 1 → (0 < t → MST ct cl B (t - 1) p nx μ) → chs [124, 125, 127, 128] AC μ0 μ → (∀ j, n ≤ j → p j = 0) → (∀ j, j + 1 < t → p j ∈ mo j) → (∀ j, j < t → nx j ≤ (mo j).length) → ((rstL mo n p nx 0 t).filter G = [] → ∃ μ', (∀ d o1 o2 o3, Ev X (d + 1) 246 0 [some (vr 100), o1, o2, o3] [] SH μ = some (some (vi 0), SH, μ')) ∧ chs [124, 125, 127, 128] AC μ0 μ') ∧ (∀ q S', (rstL mo n p nx 0 t).filter G = q :: S' → ∃ μ' nx', (∀ d o1 o2 o3, Ev X (d + 1) 246 0 [some (vr 100), o1, o2, o3] [] SH μ = some (some (vi 1), SH, μ')) ∧ chs [124, 125, 127, 128] AC μ0 μ' ∧ DNE n mo ct cl B q nx' μ' ∧ S' = (rstL mo n q nx' 0 n).filter G) := by
  intro t
  induction t with
  | zero =>
    intro _ p nx μ h47 _ hs _ _ _
    refine ⟨fun _ => ⟨μ, fun d o1 o2 o3 => ?_, hs⟩, fun q S' h => ?_⟩
    · rw [b246_0', if_pos (by omega), b246_252]
    · rw [rstL, List.filter_nil] at h
      cases h
  | succ t ih =>
    intro ht p nx μ h47 hM hs hp0 hpm hnx
    have M := hM (by omega)
    rw [show t + 1 - 1 = t by omega] at M
    obtain ⟨i1, i2⟩ := adv_dn (X := X) hO G hG h7 (n - 1 - t) t (by omega) ((mo t).length - nx t) p nx μ (by have := hnx t (by omega); omega) M hs hp0 (fun j hj => hpm j (by omega)) (fun j hj => hnx j (by omega))
    rw [rstL, Nat.zero_add, List.filter_append]
    cases hA : (subL mo n p nx t).filter G with
    | nil =>
      obtain ⟨μ1, v1, v2, v3, v4, v5⟩ := i1 hA
      obtain ⟨j1, j2⟩ := ih (by omega) p nx μ1 v3 (fun h0 => by
        obtain ⟨m1, m2, m3, m4⟩ := M
        refine ⟨by rw [v3]; omega, fun j hj => ?_, fun j hj => ?_, fun j hj => ?_⟩
        · rw [(v4 j (by omega)).1]
          exact m2 j (by omega)
        · rw [(v4 j (by omega)).2]
          exact m3 j (by omega)
        · rw [(v5 j (by omega)).1, (v5 j (by omega)).2]
          exact m4 j (by omega)) v2 hp0 (fun j hj => hpm j (by omega)) (fun j hj => hnx j (by omega))
      rw [List.nil_append]
      refine ⟨fun h => ?_, fun q S' h => ?_⟩
      · obtain ⟨μ', w1, w2⟩ := j1 h
        refine ⟨μ', fun d o1 o2 o3 => ?_, w2⟩
        obtain ⟨q1, q2, q3, hq⟩ := v1 d o1 o2 o3
        exact hq.trans (w1 d q1 q2 q3)
      · obtain ⟨μ', nx', w1, w2⟩ := j2 q S' h
        refine ⟨μ', nx', fun d o1 o2 o3 => ?_, w2⟩
        obtain ⟨q1, q2, q3, hq⟩ := v1 d o1 o2 o3
        exact hq.trans (w1 d q1 q2 q3)
    | cons q S2 =>
      obtain ⟨μ2, nx2, v1, v2, v3, v4, v5⟩ := i2 q S2 hA
      rw [List.cons_append]
      refine ⟨fun h => (by cases h), fun q' S' h => ?_⟩
      injection h with h1 h2
      subst h1
      refine ⟨μ2, nx2, v1, v2, v3, ?_⟩
      have sp := rstL_sp (mo := mo) (n := n) q nx2 0 (n - 1 - t + 1) t
      rw [show t + (n - 1 - t + 1) = n by omega, Nat.zero_add] at sp
      rw [← h2, v5, sp, List.filter_append]
      congr 2
      exact rstL_cg t 0 (by omega) (fun i hi => ((v4 i (by omega)).2).symm) (fun i hi => by rw [hp0 i hi, v3.2.2.2.2 i hi]) (fun i hi => ((v4 i (by omega)).1).symm)
/-- advance, as one who calls it sees it -/
theorem adv_nx (hO : ODO n mo ct cl B mg ml μ0) (G : (Nat → Nat) → Bool) (hG : ∀ q, G q = true ↔ fit mg ml (nsum (fun c => ct c (q c)) n) (nsum (fun c => cl c (q c)) n)) (h7 : ∀ c, c < n → ∀ i, i ∈ mo c → ct c i ≤ 7 ∧ cl c i ≤ 7) (hn : 0 < n) (hD : DNE n mo ct cl B p nx μ) (hs : chs [124, 125, 127, 128] AC μ0 μ) : ((rstL mo n p nx 0 n).filter G = [] → ∃ μ', (∀ d o1 o2 o3, Ev X (d + 1) 246 0 [some (vr 100), o1, o2, o3] [] SH μ = some (some (vi 0), SH, μ')) ∧ chs [124, 125, 127, 128] AC μ0 μ') ∧ (∀ q S', (rstL mo n p nx 0 n).filter G = q :: S' → ∃ μ' nx', (∀ d o1 o2 o3, Ev X (d + 1) 246 0 [some (vr 100), o1, o2, o3] [] SH μ = some (some (vi 1), SH, μ')) ∧ chs [124, 125, 127, 128] AC μ0 μ' ∧ DNE n mo ct cl B q nx' μ' ∧ S' = (rstL mo n q nx' 0 n).filter G) := by
  obtain ⟨d1, d2, d3, d4, d5⟩ := hD
  exact adv_go hO G hG h7 n (Nat.le_refl _) p nx μ (by rw [d1.1]; omega) (fun _ => d1) hs d5 (fun j hj => d3 j (by omega)) d4
/-- the first time, behind begin -/
theorem adv_1st (hO : ODO n mo ct cl B mg ml μ0) (G : (Nat → Nat) → Bool) (hG : ∀ q, G q = true ↔ fit mg ml (nsum (fun c => ct c (q c)) n) (nsum (fun c => cl c (q c)) n)) (h7 : ∀ c, c < n → ∀ i, i ∈ mo c → ct c i ≤ 7 ∧ cl c i ≤ 7) (hn : 0 < n) (e47 : μ 100 47 = 0) (e124 : μ 124 0 = -1) (e127 : μ 127 0 = 0) (e128 : μ 128 0 = 0) (hs : chs [124, 125, 127, 128] AC μ0 μ) : ((enumF mo n 0 (fun _ => 0)).filter G = [] → ∃ μ', (∀ d o1 o2 o3, Ev X (d + 1) 246 0 [some (vr 100), o1, o2, o3] [] SH μ = some (some (vi 0), SH, μ')) ∧ chs [124, 125, 127, 128] AC μ0 μ') ∧ (∀ q S', (enumF mo n 0 (fun _ => 0)).filter G = q :: S' → ∃ μ' nx', (∀ d o1 o2 o3, Ev X (d + 1) 246 0 [some (vr 100), o1, o2, o3] [] SH μ = some (some (vi 1), SH, μ')) ∧ chs [124, 125, 127, 128] AC μ0 μ' ∧ DNE n mo ct cl B q nx' μ' ∧ S' = (rstL mo n q nx' 0 n).filter G) := by
  have g := adv_go (X := X) hO G hG h7 1 (by omega) (fun _ => 0) (fun _ => 0) μ (by rw [e47]; decide) (fun _ => ⟨e47, fun j hj => by rw [show j = 0 by omega, e124]; rfl, fun j hj => absurd hj (by omega), fun j hj => by rw [show j = 0 by omega, e127, e128]; exact ⟨rfl, rfl⟩⟩) hs (fun _ _ => rfl) (fun j hj => absurd hj (by omega)) (fun j hj => Nat.zero_le _)
  have e : rstL mo n (fun _ => 0) (fun _ => 0) 0 1 = enumF mo n 0 (fun _ => 0) := by
    obtain ⟨m, rfl⟩ : ∃ m, n = m + 1 := ⟨n - 1, by omega⟩
    rw [rstL, rstL, List.append_nil]
    unfold subL
    rw [enumF]
    rfl
  rw [e] at g
  exact g
end ADW
