/-! SEARCHES: the list, told by the model's cells alone -/
def decS (s v : Int) : Int := if s = 0 then v else if s = 1 then -1 else if s = 2 then -2 else if s = 3 then -3 else if s = 4 then -4 else if s = 22 then -5 else if s = 20 then -6 else if s = 21 then -7 else if s = 24 then -1060 else if s = 25 then -1062 else if s = 23 then -1061 else if s = 26 then -1043 else if s = 27 then -1045 else -1042
def wayAt (w : Nat → Int) (i : Nat) : Nat → Int
  | 0 => 0
  | k + 1 => if nz w k = i ∧ w k ≠ 0 then w k else wayAt w i k
def BW (w : Nat → Int) (fg : Nat → Int) (c i : Nat) : Int := if fg c = 0 then xcv 1 i else wayAt w i 20
def moW (w fg : Nat → Int) (c : Nat) : List Nat := List.range (nz (wF (fg c) w) 20)
def ctW (w fg bt : Nat → Int) (c i : Nat) : Nat := dfN (bt c) (BW w fg c i)
def clW (w fg bt : Nat → Int) (c i : Nat) : Nat := dfN (BW w fg c i) (bt c)
def syW (w fg : Nat → Int) (c i : Nat) : Int := rdB w (fg c) (BW w fg c i)
noncomputable def lmW (w : Nat → Int) (n : Nat) (fg bt cd : Nat → Int) (len t l : Nat) : List (Nat → Nat) := (enumF (moW w fg) n 0 (fun _ => 0)).filter (gdB (GD n (ctW w fg bt) (clW w fg bt) (syW w fg) (wtB (BW w fg)) 0 (-1) (isum (fun c => if fg c = 0 then 0 else 1) n) cd len t l))
section CNG
variable {σ : xM} {n len t l : Nat} {fg fg' bt bt' cd cd' w : Nat → Int}
theorem enc_dec {c s v : Int} (h : enc c s v) : c = decS s v := by
  unfold enc at h
  unfold decS
  rcases h with ⟨_, _, h1, h2⟩ | h | h | h | h | h | h | h | h | h | h | h | h | h
  · rw [h1, if_pos rfl, h2]
  all_goals (rw [h.1, h.2]; rfl)
theorem lst_cg {a b s f : Int} : ∀ m, (∀ i, i < m → cd i = cd' i) → lst cd a b s f m = lst cd' a b s f m
  | 0, _ => rfl
  | m + 1, h => by
    have ih := lst_cg (a := a) (b := b) (s := s) (f := f) m (fun i hi => h i (by omega))
    rw [lst, lst, ih, h m (by omega), dp_cg m (fun i hi => h i (by omega))]
theorem lawV_cg {a b s f : Int} (h : ∀ i, i < len → cd i = cd' i) : lawV cd len a b s f = lawV cd' len a b s f := by
  unfold lawV
  rw [lst_cg len h]
theorem LK_cg {so on f s : Int} {cs cs' : Nat → Int} (h : ∀ j, j < n → cs j = cs' j) (hc : ∀ i, i < len → cd i = cd' i) (g : LK so on n cd len f cs s) : LK so on n cd' len f cs' s := by
  obtain ⟨g1, g2, g3, g4⟩ := g
  have e : rdSt r0 cs' n = rdSt r0 cs n := rdSt_cs n (fun j hj => (h j hj).symm)
  refine ⟨g1, okW_cs h g2, by rw [e]; exact g3, ?_⟩
  rw [e, ← lawV_cg hc]
  exact g4
theorem enumF_op {op op' : Nat → List Nat} : ∀ m c (p : Nat → Nat), (∀ j, c ≤ j → j < c + m → op j = op' j) → enumF op m c p = enumF op' m c p
  | 0, _, _, _ => rfl
  | m + 1, c, p, h => by
    rw [enumF, enumF, h c (by omega) (by omega)]
    congr 1
    funext i
    exact enumF_op m (c + 1) _ (fun j h1 h2 => h j (by omega) (by omega))
theorem GD_cg {ct ct' cl cl' wt wt' : Nat → Nat → Nat} {sy sy' : Nat → Nat → Int} {so on f f' : Int} {q : Nat → Nat} (h1 : ∀ c, c < n → ct c (q c) = ct' c (q c) ∧ cl c (q c) = cl' c (q c) ∧ sy c (q c) = sy' c (q c) ∧ wt c (q c) = wt' c (q c)) (hf : f = f') (hc : ∀ i, i < len → cd i = cd' i) (g : GD n ct cl sy wt so on f cd len t l q) : GD n ct' cl' sy' wt' so on f' cd' len t l q := by
  obtain ⟨g1, g2, g3⟩ := g
  refine ⟨?_, ?_, ?_⟩
  · rw [← g1]
    exact nsum_cg n (fun c hc => (h1 c hc).1.symm)
  · rw [← g2]
    exact nsum_cg n (fun c hc => (h1 c hc).2.1.symm)
  · rw [nsum_cg (f := fun c => wt c (q c)) (g := fun c => wt' c (q c)) n (fun c hc => (h1 c hc).2.2.2), hf] at g3
    exact LK_cg (fun j hj => (h1 j hj).2.2.1) hc g3
theorem way_at {i k : Nat} (hw : w k ≠ 0) (hi : nz w k = i) : ∀ N, k < N → wayAt w i N = w k
  | 0, h => absurd h (by omega)
  | N + 1, h => by
    rw [wayAt]
    by_cases y : nz w N = i ∧ w N ≠ 0
    · rw [if_pos y, nz_inj y.2 hw (y.1.trans hi.symm)]
    · rw [if_neg y]
      have : k ≠ N := fun z => y (by rw [← z]; exact ⟨hi, hw⟩)
      exact way_at hw hi N (by omega)
/-- the class's forms, by the model's ways -/
theorem BW_f71 (hF : FC (σ 102) (σ 3 5) (σ 6) (σ 7) (σ 8)) {c : Nat} (hf : fg c = 0 ∨ fg c = 1) {i : Nat} (hi : (i : Int) < f72 σ (fg c)) : BW (σ 102) fg c i = f71 σ (fg c) (i : Int) := by
  unfold BW
  rcases hf with z | z
  · rw [z] at hi ⊢
    rw [f72_0] at hi
    rw [if_pos rfl, f71_0 (by omega)]
  · rw [z] at hi ⊢
    rw [f72_1] at hi
    rw [if_neg (by decide), f71_1 hi]
    obtain ⟨f1, f2, f3⟩ := hF
    obtain ⟨k, k1, k2, k3⟩ := nz_sur (w := σ 102) 20 i (by omega)
    have q := (f2 k k1 k2).1
    rw [k3] at q
    rw [q, way_at k2 k3 20 k1]
/-- the class's list is the model's -/
theorem lsM_W (hW : WF (σ 102)) (hF : FC (σ 102) (σ 3 5) (σ 6) (σ 7) (σ 8)) (hf : ∀ c, c < n → fg c = 0 ∨ fg c = 1) (e1 : ∀ c, c < n → fg' c = fg c ∧ bt' c = bt c) (e2 : ∀ i, i < len → cd i = cd' i) : lsM σ n fg bt cd len t l = lmW (σ 102) n fg' bt' cd' len t l := by
  unfold lsM lmW
  have h : (enumF (opF σ fg (fun c i => decide (ctF σ fg bt c i ≤ t ∧ clF σ fg bt c i ≤ l))) n 0 (fun _ => 0)).filter (gdB (GD n (ctF σ fg bt) (clF σ fg bt) (syF σ fg) (wtF σ fg) 0 (-1) (isum (fun c => if fg c = 0 then 0 else 1) n) cd len t l)) = (enumF (moF σ fg) n 0 (fun _ => 0)).filter (gdB (GD n (ctF σ fg bt) (clF σ fg bt) (syF σ fg) (wtF σ fg) 0 (-1) (isum (fun c => if fg c = 0 then 0 else 1) n) cd len t l)) := by
    refine enumF_flt (mo := moF σ fg) (F := fun c i => decide (ctF σ fg bt c i ≤ t ∧ clF σ fg bt c i ≤ l)) n 0 (fun _ => 0) (fun q _ hP j _ hj => ?_)
    rw [gdB_iff] at hP
    have a := nsum_ge (f := fun c => ctF σ fg bt c (q c)) n j (by omega)
    have b := nsum_ge (f := fun c => clF σ fg bt c (q c)) n j (by omega)
    rw [hP.1] at a
    rw [hP.2.1] at b
    exact decide_eq_true ⟨a, b⟩
  rw [h, enumF_op (op := moF σ fg) (op' := moW (σ 102) fg') n 0 (fun _ => 0) (fun j _ hj => by
    rw [moF_nz hF (hf j (by omega))]
    unfold moW
    rw [(e1 j (by omega)).1])]
  refine List.filter_congr (fun q hq => ?_)
  obtain ⟨_, qm⟩ := mem_enumF n 0 _ q hq
  have nb : ∀ c, c < n → ctF σ fg bt c (q c) = ctW (σ 102) fg' bt' c (q c) ∧ clF σ fg bt c (q c) = clW (σ 102) fg' bt' c (q c) ∧ syF σ fg c (q c) = syW (σ 102) fg' c (q c) ∧ wtF σ fg c (q c) = wtB (BW (σ 102) fg') c (q c) := by
    intro c hc
    have qc := qm c (by omega) (by omega)
    unfold moW at qc
    rw [(e1 c hc).1] at qc
    have qc := List.mem_range.mp qc
    have fb := (frm_B hF (hf c hc)).1
    have hq72 : ((q c : Nat) : Int) < f72 σ (fg c) := by omega
    have b := BW_f71 hF (hf c hc) hq72
    have b' : BW (σ 102) fg' c (q c) = f71 σ (fg c) (q c : Int) := by
      rw [← b]
      unfold BW
      rw [(e1 c hc).1]
    refine ⟨?_, ?_, ?_, ?_⟩
    · unfold ctF ctW
      rw [b', (e1 c hc).2]
    · unfold clF clW
      rw [b', (e1 c hc).2]
    · unfold syF syW
      rw [b', (e1 c hc).1, (frm_S hW hF (hf c hc) hq72).1]
    · unfold wtF wtB
      rw [b']
  have fe : isum (fun c => if fg c = 0 then (0 : Int) else 1) n = isum (fun c => if fg' c = 0 then 0 else 1) n := isum_congr n (fun c hc => by rw [(e1 c hc).1])
  rw [Bool.eq_iff_iff, gdB_iff, gdB_iff]
  exact ⟨GD_cg nb fe e2, GD_cg (fun c hc => ⟨(nb c hc).1.symm, (nb c hc).2.1.symm, (nb c hc).2.2.1.symm, (nb c hc).2.2.2.symm⟩) fe.symm (fun i hi => (e2 i hi).symm)⟩
/-- as the model finds it -/
theorem lmW_eq : lmW w n fg bt cd len t l = ((enumF (moW w fg) n 0 (fun _ => 0)).filter (gdB (fun q => fit (t : Int) (l : Int) (nsum (fun c => ctW w fg bt c (q c)) n) (nsum (fun c => clW w fg bt c (q c)) n)))).filter (gdB (GDM n (BW w fg) fg (syW w fg) cd len (-1))) := by
  unfold lmW
  rw [List.filter_filter]
  refine List.filter_congr (fun q _ => ?_)
  rw [Bool.eq_iff_iff, Bool.and_eq_true, gdB_iff, gdB_iff, gdB_iff]
  unfold GD GDM fit
  constructor
  · intro ⟨h1, h2, h3⟩
    exact ⟨h3, Or.inr ⟨by omega, by omega⟩⟩
  · intro ⟨h3, h4⟩
    exact ⟨by omega, by omega, h3⟩
end CNG
