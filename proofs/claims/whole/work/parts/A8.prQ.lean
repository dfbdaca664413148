/-! SHAPED: the pair -/
section PRQ
variable {X : Nat × (Nat → Int)} {σ τ : xM}
/-- codeOf, of any search -/
theorem cod_G {i kd a b : Int} {L : List (Nat → Nat)} {sp : Prop} (h : Core σ) (hL : CacheL σ) (lt : L.length < 1000000000) (h0 : 0 ≤ i) (h1 : i < 2147483648) (known : σ 49 3 = kd → σ 49 4 = a → σ 49 5 = b → 0 ≤ σ 50 16 ∧ ((σ 49 6 = -2 ∧ sp) ∨ (σ 49 6 = (L.length : Int) ∧ REs σ L ∧ ¬ sp))) (find : ∀ fr : Int, 0 ≤ fr → fr < 2147483648 → ∃ τ, (∀ d, Ev X (d + 20) 95 0 [some (vr 49), some (vi kd), some (vi a), some (vi b), some (vi fr)] [] SH σ = some (none, SH, τ)) ∧ chg CAf CSf σ τ ∧ Core τ ∧ CacheL τ ∧ τ 50 16 = fr ∧ ((τ 49 6 = -2 ∧ sp) ∨ (τ 49 6 = (L.length : Int) ∧ REs τ L ∧ ¬ sp))) : ∃ (v : Int) (τ : xM), (∀ d, Ev X (d + 22) 97 0 [some (vr 49), some (vi kd), some (vi a), some (vi b), some (vi i)] [] SH σ = some (some (vl v), SH, τ)) ∧ chg CAf CSf σ τ ∧ Core τ ∧ CacheL τ ∧ (sp → v = -1) ∧ (¬ sp → (∀ hi : i.toNat < L.length, v = (cdN L[i.toNat] (nM σ) : Int)) ∧ (L.length ≤ i.toNat → v = -1)) := by
  obtain ⟨i, rfl⟩ : ∃ k : Nat, i = k := ⟨i.toNat, by omega⟩
  rw [Int.toNat_natCast]
  have tail : ∀ τ : xM, chg CAf CSf σ τ → ((τ 49 6 = -2 ∧ sp) ∨ (τ 49 6 = (L.length : Int) ∧ REs τ L ∧ ¬ sp)) → 0 ≤ τ 50 16 → (¬ sp → i < L.length → τ 50 16 ≤ (i : Int) ∧ (i : Int) - τ 50 16 < 256) → ∃ v : Int, (∀ d (o1 o2 o3 : Option xV), Ev X (d + 2) 97 61 [some (vr 49), o1, o2, o3, some (vi i)] [] SH τ = some (some (vl v), SH, τ)) ∧ (sp → v = -1) ∧ (¬ sp → (∀ hi : i < L.length, v = (cdN L[i] (nM σ) : Int)) ∧ (L.length ≤ i → v = -1)) := by
    intro τ c e6 h16 hk
    have en : nM τ = nM σ := (LM_cg (t := 0) (l := 0) c rfl).2.1
    rcases e6 with ⟨e6, s⟩ | ⟨e6, hR, s⟩
    · refine ⟨-1, fun d o1 o2 o3 => ?_, fun _ => rfl, fun z => absurd s z⟩
      rw [b97_61, if_pos (by omega), b97_82, b97_85]
    · by_cases y : i < L.length
      · refine ⟨(cdN L[i] (nM σ) : Int), fun d o1 o2 o3 => ?_, fun z => absurd z s, fun _ => ⟨fun _ => rfl, fun z => by omega⟩⟩
        rw [b97_61, if_neg (by omega)]
        refine Eq.trans b97_70 ?_
        have := s188' (X := X) hR h16 y lt (hk s y) d
        rw [en] at this
        refine x_bind this ?_
        dsimp only
        refine Eq.trans b97_79 ?_
        exact b97_85
      · refine ⟨-1, fun d o1 o2 o3 => ?_, fun _ => rfl, fun _ => ⟨fun z => absurd z y, fun _ => rfl⟩⟩
        rw [b97_61, if_pos (by omega), b97_82, b97_85]
  have srch : (∀ d, Ev X (d + 22) 97 0 [some (vr 49), some (vi kd), some (vi a), some (vi b), some (vi i)] [] SH σ = Ev X (d + 22) 97 40 [some (vr 49), some (vi kd), some (vi a), some (vi b), some (vi i)] [] SH σ) → ∃ (v : Int) (τ : xM), (∀ d, Ev X (d + 22) 97 0 [some (vr 49), some (vi kd), some (vi a), some (vi b), some (vi i)] [] SH σ = some (some (vl v), SH, τ)) ∧ chg CAf CSf σ τ ∧ Core τ ∧ CacheL τ ∧ (sp → v = -1) ∧ (¬ sp → (∀ hi : i < L.length, v = (cdN L[i] (nM σ) : Int)) ∧ (L.length ≤ i → v = -1)) := by
    intro run
    obtain ⟨τ, a1, a2, a3, a4, a9, a10⟩ := find (if 256 ≤ (i : Int) then (i : Int) else 0) (by split <;> omega) (by split <;> omega)
    obtain ⟨v, b1, b2⟩ := tail τ a2 a10 (by rw [a9]; split <;> omega) (fun _ _ => by rw [a9]; split <;> omega)
    refine ⟨v, τ, fun d => ?_, a2, a3, a4, b2⟩
    rw [run, b97_40]
    by_cases y : 256 ≤ (i : Int)
    · rw [if_pos y] at a1
      rw [if_pos y, b97_56]
      refine Eq.trans (b97_58 (t4 := (i : Int)) (t3 := b) (t2 := a) (t1 := kd)) ?_
      refine x_bind (a1 (d + 1)) ?_
      exact b1 _ _ _ _
    · rw [if_neg y] at a1
      rw [if_neg y, b97_52]
      refine Eq.trans (b97_58 (t4 := 0) (t3 := b) (t2 := a) (t1 := kd)) ?_
      refine x_bind (a1 (d + 1)) ?_
      exact b1 _ _ _ _
  by_cases kn : σ 49 3 = kd ∧ σ 49 4 = a ∧ σ 49 5 = b
  · obtain ⟨k1, k2, k3⟩ := kn
    obtain ⟨c16, cnt⟩ := known k1 k2 k3
    have st : ∀ d, Ev X (d + 22) 97 0 [some (vr 49), some (vi kd), some (vi a), some (vi b), some (vi i)] [] SH σ = Ev X (d + 22) 97 19 [some (vr 49), some (vi kd), some (vi a), some (vi b), some (vi i)] [] SH σ := by
      intro d
      rw [b97_0, if_pos (by omega)]
      refine Eq.trans b97_9 ?_
      have r94 : Ev X (d + 21) 94 0 [some (vr 49), some (vi kd), some (vi a), some (vi b)] [] SH σ = some (some (vi 1), SH, σ) := by
        rw [b94_0, if_neg (fun z => z k1), b94_8, if_neg (fun z => z k2), b94_16, if_neg (fun z => z k3), b94_24, b94_29 (Or.inr rfl)]
      refine x_bind r94 ?_
      dsimp only
      refine Eq.trans b97_16 ?_
      rw [if_neg (by decide)]
    have rest : (¬ sp → i < L.length → σ 50 16 ≤ (i : Int) ∧ (i : Int) - σ 50 16 < 256) → (∀ d, Ev X (d + 22) 97 0 [some (vr 49), some (vi kd), some (vi a), some (vi b), some (vi i)] [] SH σ = Ev X (d + 22) 97 61 [some (vr 49), some (vi kd), some (vi a), some (vi b), some (vi i)] [] SH σ) → ∃ (v : Int) (τ : xM), (∀ d, Ev X (d + 22) 97 0 [some (vr 49), some (vi kd), some (vi a), some (vi b), some (vi i)] [] SH σ = some (some (vl v), SH, τ)) ∧ chg CAf CSf σ τ ∧ Core τ ∧ CacheL τ ∧ (sp → v = -1) ∧ (¬ sp → (∀ hi : i < L.length, v = (cdN L[i] (nM σ) : Int)) ∧ (L.length ≤ i → v = -1)) := by
      intro hk run
      obtain ⟨v, b1, b2⟩ := tail σ chg_rf cnt c16 hk
      exact ⟨v, σ, fun d => (run d).trans (b1 _ _ _ _), chg_rf, h, hL, b2⟩
    rcases cnt with ⟨e6, s⟩ | ⟨e6, cR, s⟩
    · refine rest (fun z => absurd s z) (fun d => ?_)
      rw [st, b97_19, if_pos (by omega)]
    · by_cases y : i < L.length
      · have st2 : ∀ d, Ev X (d + 22) 97 0 [some (vr 49), some (vi kd), some (vi a), some (vi b), some (vi i)] [] SH σ = Ev X (d + 22) 97 37 [some (vr 49), some (vi kd), some (vi a), some (vi b), some (vi i)] [vi (f187 σ 50 (i : Int))] SH σ := by
          intro d
          rw [st, b97_19, if_neg (by omega)]
          refine Eq.trans b97_28 ?_
          refine x_bind (s187 (Or.inl rfl)) ?_
          rfl
        by_cases kp : σ 50 16 ≤ (i : Int) ∧ (i : Int) - σ 50 16 < 256
        · have f : f187 σ 50 (i : Int) = 1 := by
            unfold f187
            rw [if_neg (by omega), if_neg (by rw [cR.1]; omega), xsub_eq (by omega) (by omega), if_neg (by omega)]
          refine rest (fun _ _ => kp) (fun d => ?_)
          rw [st2, f, b97_37, if_pos (by decide)]
        · have f : f187 σ 50 (i : Int) = 0 := by
            unfold f187
            by_cases z : (i : Int) < σ 50 16
            · rw [if_pos z]
            · rw [if_neg z, if_neg (by rw [cR.1]; omega), xsub_eq (by omega) (by omega), if_pos (by omega)]
          refine srch (fun d => ?_)
          rw [st2, f, b97_37, if_neg (by decide)]
      · refine rest (fun _ z => absurd z y) (fun d => ?_)
        rw [st, b97_19, if_pos (by omega)]
  · refine srch (fun d => ?_)
    rw [b97_0, if_pos (by omega)]
    refine Eq.trans b97_9 ?_
    have r94 : Ev X (d + 21) 94 0 [some (vr 49), some (vi kd), some (vi a), some (vi b)] [] SH σ = some (some (vi 0), SH, σ) := by
      rw [b94_0]
      by_cases y1 : σ 49 3 = kd
      · rw [if_neg (fun z => z y1), b94_8]
        by_cases y2 : σ 49 4 = a
        · rw [if_neg (fun z => z y2), b94_16, if_pos (fun y3 => kn ⟨y1, y2, y3⟩), b94_28, b94_29 (Or.inl rfl)]
        · rw [if_pos y2, b94_28, b94_29 (Or.inl rfl)]
      · rw [if_pos y1, b94_28, b94_29 (Or.inl rfl)]
    refine x_bind r94 ?_
    dsimp only
    refine Eq.trans b97_16 ?_
    rw [if_pos rfl]
theorem LG_mem {F : Nat → Nat → Bool} {on : Int} {i : Nat} (hi : i < (LG σ F on).length) : ∀ c, c < nM σ → (LG σ F on)[i] c ∈ moW (σ 102) (σ 107) c := by
  have hp := List.getElem_mem hi
  generalize (LG σ F on)[i] = p at hp
  unfold LG lgW at hp
  obtain ⟨_, qm⟩ := mem_enumF _ _ _ p (List.mem_filter.mp hp).1
  exact fun c hc => (List.mem_filter.mp (qm c (by omega) (by omega))).1
theorem LG_20 (h : Core σ) (hn : 0 < σ 100 16) {F : Nat → Nat → Bool} {on : Int} (hp : prW (σ 102) (nM σ) (σ 107) F ≤ 200000) : (LG σ F on).length < 1000000000 := by
  have := lgW_le (w := σ 102) (n := nM σ) (fg := σ 107) (cd := cdM σ) (len := (σ 100 35).toNat) (F := F) (on := on)
  unfold LG
  omega
/-- the model's shaped, up to its search -/
theorem m259 {a i c : Int} (h : Core σ) (d : Nat) : Ev X (d + 1) 259 0 [some (vr 100), some (vi a), some (vi i), some (vi c)] [] SH σ = if ¬ (0 ≤ a ∧ a ≤ 77) ∨ f136 σ 23 c = 0 ∨ i < 0 then some (some (vi (-1)), SH, σ) else Ev X (d + 1) 259 26 [some (vr 100), some (vi a), some (vi i), some (vi c)] [] SH σ := by
  obtain ⟨e16, n0, n1⟩ := n_row h
  have no : Ev X (d + 1) 259 35 [some (vr 100), some (vi a), some (vi i), some (vi c)] [] SH σ = some (some (vi (-1)), SH, σ) := by
    rw [b259_35, b259_55]
  have i1 : ¬ ((1 : Int) = 0) := by decide
  have f257e : f257 σ a = if 0 ≤ a ∧ a ≤ 77 then 1 else 0 := by
    unfold f257
    repeat' split
    all_goals omega
  rw [b259_0]
  by_cases y0 : σ 100 16 = 0
  · have z : f136 σ 23 c = 0 := by
      unfold f136
      repeat' split
      all_goals omega
    rw [if_pos y0, no, if_pos (Or.inr (Or.inl z))]
  rw [if_neg y0]
  refine Eq.trans b259_7 ?_
  refine x_bind s257 ?_
  dsimp only
  refine Eq.trans b259_11 ?_
  rw [f257e]
  by_cases ya : 0 ≤ a ∧ a ≤ 77
  · rw [if_pos ya, if_neg i1, b259_14]
    by_cases yi : i < 0
    · rw [if_pos yi, no, if_pos (Or.inr (Or.inr yi))]
    · rw [if_neg yi]
      refine Eq.trans b259_18 ?_
      refine x_bind s220 ?_
      dsimp only
      refine Eq.trans b259_23 ?_
      rw [← f136_e h]
      by_cases yc : f136 σ 23 c = 0
      · rw [if_pos yc, no, if_pos (Or.inr (Or.inl yc))]
      · have nn : ¬ (¬ (0 ≤ a ∧ a ≤ 77) ∨ f136 σ 23 c = 0 ∨ i < 0) := by
          rintro (z | z | z)
          · exact z ya
          · exact yc z
          · exact yi z
        rw [if_neg yc, if_neg nn]
  · rw [if_neg ya, if_pos rfl, no, if_pos (Or.inl ya)]
theorem pr_shaped {a i c : Int} (hi31 : i < 2147483648) (h : Core σ) (hL : CacheL σ) : Pair X 25 259 [some (vr 0), some (vi a), some (vi i), some (vi c)] [some (vr 100), some (vi a), some (vi i), some (vi c)] σ (PostC σ) := by
  obtain ⟨e16, n0, n1⟩ := n_row h
  by_cases bad : ¬ (0 ≤ a ∧ a ≤ 77) ∨ f136 σ 23 c = 0
  · refine ⟨-1, σ, σ, fun d => ?_, fun d => ?_, PostC_rf h hL⟩
    · rw [b25_0]
      by_cases y : a < 0
      · rw [if_pos y, b25_21]
      · rw [if_neg y, b25_4]
        by_cases z : 77 < a
        · rw [if_pos z, b25_21]
        · rw [if_neg z]
          refine Eq.trans b25_10 ?_
          refine x_bind (s136 (Or.inl rfl)) ?_
          dsimp only
          refine Eq.trans b25_18 ?_
          rw [if_neg (fun w => w (bad.resolve_left (fun v => v ⟨by omega, by omega⟩))), b25_21]
    · rw [m259 h, if_pos (bad.elim Or.inl (fun z => Or.inr (Or.inl z)))]
  · have y1 : 0 ≤ a ∧ a ≤ 77 := Classical.byContradiction (fun z => bad (Or.inl z))
    have y2 : f136 σ 23 c ≠ 0 := fun z => bad (Or.inr z)
    obtain ⟨s, rfl⟩ : ∃ s : Nat, a = s := ⟨a.toNat, by omega⟩
    have c1 : 0 ≤ c ∧ c < σ 23 0 := by
      unfold f136 at y2
      repeat' split at y2
      all_goals omega
    obtain ⟨c, rfl⟩ : ∃ k : Nat, c = k := ⟨c.toNat, by omega⟩
    have hn : 0 < σ 100 16 := by omega
    have st : ∀ d, Ev X (d + 100) 25 0 [some (vr 0), some (vi s), some (vi i), some (vi c)] [] SH σ = Ev X (d + 100) 25 23 [some (vr 0), some (vi s), some (vi i), some (vi c)] [] SH σ := by
      intro d
      rw [b25_0, if_neg (by omega), b25_4, if_neg (by omega)]
      refine Eq.trans b25_10 ?_
      refine x_bind (s136 (Or.inl rfl)) ?_
      dsimp only
      refine Eq.trans b25_18 ?_
      rw [if_pos y2]
    by_cases yi : i < 0
    · refine ⟨-1, σ, σ, fun d => ?_, fun d => ?_, PostC_rf h hL⟩
      · rw [st]
        refine Eq.trans b25_23 ?_
        have r97 : Ev X (d + 99) 97 0 [some (vr 49), some (vi 1), some (vi s), some (vi 0), some (vi i)] [] SH σ = some (some (vl (-1)), SH, σ) := by
          rw [b97_0, if_neg (by omega), b97_5]
        refine x_bind r97 ?_
        dsimp only
        refine Eq.trans (b25_35 (t1 := -1)) ?_
        refine x_bind (s22n (d + 93)) ?_
        exact b25_39
      · rw [m259 h, if_pos (Or.inr (Or.inr yi))]
    · obtain ⟨i, rfl⟩ : ∃ k : Nat, i = k := ⟨i.toNat, by omega⟩
      have lenb : ¬ 200000 < prW (σ 102) (nM σ) (σ 107) Fall → (LG σ Fall (s : Int)).length < 1000000000 := fun z => LG_20 h hn (by omega)
      have lt : ((if 200000 < prW (σ 102) (nM σ) (σ 107) Fall then [] else LG σ Fall (s : Int)) : List (Nat → Nat)).length < 1000000000 := by
        split
        · simp
        · rename_i z
          exact lenb z
      obtain ⟨v, σ1, a1, a2, a3, a4, a5, a6⟩ := cod_G (X := X) (i := (i : Int)) (kd := 1) (a := (s : Int)) (b := 0) (L := if 200000 < prW (σ 102) (nM σ) (σ 107) Fall then [] else LG σ Fall (s : Int)) (sp := 200000 < prW (σ 102) (nM σ) (σ 107) Fall) h hL lt (by omega) hi31 (fun k1 k2 k3 => by
        rcases hL.1 with z | ⟨_, z16, z⟩
        · omega
        · refine ⟨z16, ?_⟩
          rcases z with ⟨z, _⟩ | ⟨_, _, z⟩ | ⟨z, _⟩
          · omega
          · unfold SPN at z
            rw [k2] at z
            rcases z with ⟨z1, z2⟩ | ⟨z1, z2, z3⟩
            · exact Or.inl ⟨z2, z1⟩
            · have nz : ¬ 200000 < prW (σ 102) (nM σ) (σ 107) Fall := by omega
              rw [if_neg nz]
              exact Or.inr ⟨z2, z3, nz⟩
          · omega) (fun fr f0 f1 => by
        obtain ⟨τ, q1, q2, q3, q4, _, _, _, q8, q9⟩ := find_S (X := X) (a := (s : Int)) (fr := fr) h hL hn ⟨f0, f1⟩
        refine ⟨τ, q1, q2, q3, q4, q8, ?_⟩
        rcases q9 with ⟨z1, z2⟩ | ⟨z1, z2, z3⟩
        · exact Or.inl ⟨z2, z1⟩
        · have nz : ¬ 200000 < prW (σ 102) (nM σ) (σ 107) Fall := by omega
          rw [if_neg nz]
          exact Or.inr ⟨z2, z3, nz⟩)
      rw [Int.toNat_natCast] at a6
      obtain ⟨_, g2, g3, g4, _, _, g7, _⟩ := LM_cg (t := 0) (l := 0) a2 rfl
      obtain ⟨eG, eP⟩ := LG_cg a2 rfl
      have n6 : 0 < σ1 100 16 := by rw [g7]; exact hn
      obtain ⟨r, σ2, b1, b2, b3, b4, b5⟩ := mod_S (X := X) (σ := σ1) (nth := (i : Int)) (my := (s : Int)) (on := (s : Int)) a3 n6 (Or.inr ⟨by omega, rfl⟩)
      rw [eP] at b4 b5
      rw [eG] at b5
      have hc : c < nM σ1 := by
        rw [g2]
        unfold nM
        omega
      have cl : ∀ d, Ev X (d + 100) 25 0 [some (vr 0), some (vi s), some (vi i), some (vi c)] [] SH σ = (Ev X (d + 99) 22 0 [some (vr 0), some (vl v), none, some (vi c)] [] SH σ1).bind (fun q => Ev X (d + 100) 25 39 [some (vr 0), some (vi s), some (vi i), some (vi c)] (q.1.toList ++ []) q.2.1 q.2.2) := by
        intro d
        rw [st]
        refine Eq.trans b25_23 ?_
        refine x_bind (a1 (d + 77)) ?_
        exact b25_35
      have md : ∀ d, Ev X (d + 100) 259 0 [some (vr 100), some (vi s), some (vi i), some (vi c)] [] SH σ1 = Ev X (d + 100) 259 32 [some (vr 100), some (vi s), some (vi i), some (vi c)] [vi r] SH σ2 := by
        intro d
        have nn : ¬ (¬ (0 ≤ (s : Int) ∧ (s : Int) ≤ 77) ∨ f136 σ1 23 (c : Int) = 0 ∨ (i : Int) < 0) := by
          have e23 : σ1 23 0 = σ 23 0 := chg_at a2 rfl rfl
          rintro (z | z | z)
          · exact z y1
          · unfold f136 at z y2
            rw [e23] at z
            exact y2 z
          · omega
        rw [m259 a3, if_neg nn]
        refine Eq.trans b259_26 ?_
        refine x_bind (b1 (d + 93)) ?_
        rfl
      have post : PostC σ σ2 := by
        refine ⟨b3, CacheL_eqp (eqp_ok rfl b2) a4, Or.inl (fun k j hk => ?_)⟩
        rw [eqp_ok (A := [70, 93, 94, 102, 107, 108, 110, 111]) (S := [(100, 16), (100, 17)]) rfl b2 k j hk, eqp_ok (A := [70, 93, 94, 102, 107, 108, 110, 111]) (S := [(100, 16), (100, 17)]) rfl a2 k j hk]
      have neg : v = -1 → r < 0 → Pair X 25 259 [some (vr 0), some (vi (s : Int)), some (vi (i : Int)), some (vi (c : Int))] [some (vr 100), some (vi (s : Int)), some (vi (i : Int)), some (vi (c : Int))] σ (PostC σ) := by
        intro v1 r1
        refine ⟨-1, σ1, σ2, fun d => ?_, fun d => ?_, post⟩
        · rw [cl, v1]
          refine x_bind (s22n (d + 93)) ?_
          exact b25_39
        · rw [md, b259_32, if_neg (by omega), b259_35, b259_55]
      by_cases sp : 200000 < prW (σ 102) (nM σ) (σ 107) Fall
      · exact neg (a5 sp) (by rw [b4 sp]; decide)
      · obtain ⟨_, p4, p5⟩ := b5 (by omega)
        obtain ⟨v4, v5⟩ := a6 sp
        rw [if_neg sp] at v4 v5
        by_cases yl : i < (LG σ Fall (s : Int)).length
        · obtain ⟨r1, r2⟩ := p4 i rfl yl
          have mem := LG_mem yl
          rw [← g3, ← g4, ← g2] at mem
          have v1 := v4 yl
          rw [← g2] at v1
          have e107 : σ2 107 = σ1 107 := chg_row b2 (fun _ => rfl) rfl
          have e102 : σ2 102 = σ1 102 := chg_row b2 (fun _ => rfl) rfl
          have hf : σ1 107 c = 0 ∨ σ1 107 c = 1 := by
            obtain ⟨hw, hrow, _⟩ := WST_of a3 n6
            rw [(hrow c hc).1]
            exact hw.2.2.2.2.2.2.2.1 c hc
          refine ⟨rdB (σ1 102) (σ1 107 c) (BW (σ1 102) (σ1 107) c ((LG σ Fall (s : Int))[i] c)), σ1, σ2, fun d => ?_, fun d => ?_, post⟩
          · rw [cl, v1]
            refine x_bind (s22y a3 n6 hc mem (d + 93)) ?_
            exact b25_39
          · rw [md, b259_32, if_pos (by omega)]
            refine Eq.trans (b259_39 (by omega)) ?_
            rw [Int.toNat_natCast, r2 c hc, e107]
            refine x_bind (s222 hf) ?_
            rw [e102]
            exact b259_55
        · exact neg (v5 (by omega)) (by rw [p5 i rfl (by omega)]; decide)
end PRQ
