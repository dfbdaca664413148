/-! THE START: a run that never looks at the script, and never writes to the tapes -/
abbrev X0 : Nat × (Nat → Int) := (0, fun _ => 0)
def bad2 (v : xV) : Bool := match v with
  | .inr (.inl (some k)) => k == 2 || k == 101
  | _ => false
def is99 (v : xV) : Bool := match v with
  | .inr (.inr c) => c == 99
  | _ => false
def gTri : List xV → Bool
  | [] => true
  | [a] => !is99 a
  | [a, b] => (!is99 a && !is99 b) && !bad2 b
  | a :: b :: c :: _ => (!is99 a && !is99 b) && (!bad2 b && !bad2 c)
def gN (mi pc : Nat) (sh : List xSh) : Bool := match tb mi pc with
  | some (.new _, _, _, _) => !(sh.length == 2 || sh.length == 101)
  | _ => true
def TP (σ : xM) : Prop := ∀ j, σ 2 j = 0 ∧ σ 101 j = 0
section GVM
variable {X : Nat × (Nat → Int)} {σ : xM} {mi pc : Nat} {L : List (Option xV)} {st : List xV} {sh : List xSh}
theorem gTri1 {a : xV} {r : List xV} (h : gTri (a :: r) = true) : is99 a = false := by
  rcases r with _ | ⟨b, _ | ⟨c, r⟩⟩ <;> simp [gTri] at h <;> simp [h]
theorem gTri2 {a b : xV} {r : List xV} (h : gTri (a :: b :: r) = true) : is99 b = false ∧ bad2 b = false := by
  rcases r with _ | ⟨c, r⟩ <;> simp [gTri] at h <;> simp [h]
theorem gTri3 {a b c : xV} {r : List xV} (h : gTri (a :: b :: c :: r) = true) : bad2 c = false := by
  simp [gTri] at h
  simp [h]
theorem bad2_n {k : Nat} (h : bad2 (.inr (.inl (some k))) = false) : k ≠ 2 ∧ k ≠ 101 := by
  unfold bad2 at h
  simp at h
  exact h
theorem is99_n {c : Nat} (h : is99 (.inr (.inr c)) = false) : c ≠ 99 := by
  unfold is99 at h
  simp at h
  exact h
theorem TP_wr {k j : Nat} {x : Int} (h : TP σ) (hk : k ≠ 2 ∧ k ≠ 101) : TP (xwr σ k j x) := by
  intro i
  rw [xwr_nk (by omega), xwr_nk (by omega)]
  exact h i
theorem TP_nw {k : Nat} {f : Nat → Int} (h : TP σ) (hk : (∀ j, f j = 0) ∨ (k ≠ 2 ∧ k ≠ 101)) : TP (xnew σ k f) := by
  intro i
  unfold xnew
  rcases hk with z | ⟨z1, z2⟩
  · refine ⟨?_, ?_⟩
    · split
      · exact z i
      · exact (h i).1
    · split
      · exact z i
      · exact (h i).2
  · rw [if_neg (fun e => z1 e.symm), if_neg (fun e => z2 e.symm)]
    exact h i
theorem xca_ne {c : Nat} (h : c ≠ 99) : xca X c = xca X0 c := by
  unfold xca
  split <;> first | rfl | (exact absurd rfl h)
theorem xto_s {o : Option (List xV)} {c : xN} (h : xto o pc L sh σ = some c) : c.2.2.2.2 = σ := by
  unfold xto at h
  split at h
  · cases h
    rfl
  · cases h
theorem xbr_s {cn : ClassFile.Cond} {x y : Int} {p1 p2 : Nat} {c : xN} (h : xbr cn x y (p1, L, st, sh, σ) (p2, L, st, sh, σ) = some c) : c.2.2.2.2 = σ := by
  unfold xbr at h
  split at h <;> split at h <;> cases h <;> rfl
theorem xs_g (hg : gTri st = true) : xstep X mi pc L st sh σ = xstep X0 mi pc L st sh σ := by
  unfold xstep
  cases ht : tb mi pc with
  | none => rfl
  | some q =>
    obtain ⟨ins, a, b, n⟩ := q
    dsimp only
    cases ins with
    | arraylength =>
      rcases st with _ | ⟨(x | x) | (q | c), r⟩
      · rfl
      · rfl
      · rfl
      · rfl
      · dsimp only
        rw [xca_ne (X := X) (is99_n (gTri1 hg))]
    | iaload =>
      rcases st with _ | ⟨(x | x) | (q | c), _ | ⟨(y | y) | ((_ | q2) | c2), r⟩⟩ <;> first | rfl | (dsimp only; rw [xca_ne (X := X) (is99_n (gTri2 hg).1)])
    | baload =>
      rcases st with _ | ⟨(x | x) | (q | c), _ | ⟨(y | y) | ((_ | q2) | c2), r⟩⟩ <;> first | rfl | (dsimp only; rw [xca_ne (X := X) (is99_n (gTri2 hg).1)])
    | _ => rfl
theorem xs_T (hg : gTri st = true) (hn : gN mi pc sh = true) (hP : TP σ) {c : xN} (h : xstep X mi pc L st sh σ = some c) : TP c.2.2.2.2 := by
  unfold xstep at h
  unfold gN at hn
  cases ht : tb mi pc with
  | none =>
    rw [ht] at h
    cases h
  | some q =>
    obtain ⟨ins, a, b, n⟩ := q
    rw [ht] at h hn
    dsimp only at h hn
    cases ins with
    | putfield w =>
      dsimp only at h
      split at h
      · rename_i v k r
        have hk := bad2_n (gTri2 hg).2
        split at h
        · split at h
          · split at h
            · split at h
              · split at h
                · cases h
                  exact hP
                · cases h
              · cases h
            · split at h
              · cases h
                exact TP_wr hP hk
              · cases h
          · cases h
        · cases h
      · cases h
    | iastore =>
      dsimp only at h
      split at h
      · have hk := bad2_n (gTri3 hg)
        split at h
        · split at h
          · cases h
            exact TP_wr hP hk
          · cases h
        · cases h
      · cases h
    | bastore =>
      dsimp only at h
      split at h
      · have hk := bad2_n (gTri3 hg)
        split at h
        · split at h
          · cases h
            exact TP_wr hP hk
          · cases h
        · cases h
      · cases h
    | lastore =>
      dsimp only at h
      split at h
      · have hk := bad2_n (gTri3 hg)
        split at h
        · split at h
          · cases h
            exact TP_wr hP hk
          · cases h
        · cases h
      · cases h
    | new w =>
      dsimp only at h hn
      split at h
      · cases h
        refine TP_nw hP (Or.inr ?_)
        simp at hn
        exact hn
      · cases h
    | newarray t =>
      dsimp only at h
      split at h
      · split at h
        · split at h
          · cases h
            exact TP_nw hP (Or.inl (fun _ => rfl))
          · cases h
        · cases h
      · cases h
    | _ =>
      dsimp only at h
      first
        | (cases h; done)
        | (cases h; exact hP)
        | (rw [xto_s h]; exact hP)
        | (split at h <;> first | (cases h; done) | (cases h; exact hP) | (rw [xbr_s h]; exact hP) | (split at h <;> first | (cases h; done) | (cases h; exact hP) | (split at h <;> first | (cases h; done) | (cases h; exact hP) | (split at h <;> first | (cases h; done) | (cases h; exact hP) | (split at h <;> first | (cases h; done) | (cases h; exact hP))))))
/-- the machine, watched -/
def xgv : Nat → Nat → Nat → Nat → List (Option xV) → List xV → List xSh → xM → Option (Option xV × List xSh × xM)
  | 0, _, _, _, _, _, _, _ => none
  | f + 1, d, mi, pc, L, st, sh, σ => cond (gTri st && gN mi pc sh) (match xret mi pc st with
    | some v => some (v, sh, σ)
    | none => match xcall mi pc st sh with
      | some (mj, As, pc', r) => match d with
        | 0 => none
        | d + 1 => match xgv f d mj 0 (xent mj As) [] sh σ with
          | some (v, sh', σ') => xgv f (d + 1) mi pc' L (v.toList ++ r) sh' σ'
          | none => none
      | none => match xstep X0 mi pc L st sh σ with
        | some (pc', L', st', sh', σ') => xgv f d mi pc' L' st' sh' σ'
        | none => none) none
theorem xgv_ev : ∀ (f d mi pc : Nat) (L : List (Option xV)) (st : List xV) (sh : List xSh) (σ : xM) (r : Option xV × List xSh × xM), xgv f d mi pc L st sh σ = some r → (∀ X, xev X f d mi pc L st sh σ = some r) ∧ (TP σ → TP r.2.2)
  | 0, d, mi, pc, L, st, sh, σ, r, h => by
    rw [xgv] at h
    cases h
  | f + 1, d, mi, pc, L, st, sh, σ, r, h => by
    rw [xgv] at h
    cases hg : (gTri st && gN mi pc sh) with
    | false =>
      rw [hg] at h
      cases h
    | true =>
      rw [hg] at h
      dsimp only [cond] at h
      obtain ⟨hg1, hg2⟩ := Bool.and_eq_true_iff.mp hg
      cases h1 : xret mi pc st with
      | some v =>
        rw [h1] at h
        cases h
        exact ⟨fun X => by rw [xev, h1], fun p => p⟩
      | none =>
        rw [h1] at h
        dsimp only at h
        cases h2 : xcall mi pc st sh with
        | some q =>
          obtain ⟨mj, As, pc', r'⟩ := q
          rw [h2] at h
          dsimp only at h
          cases d with
          | zero => cases h
          | succ d =>
            dsimp only at h
            cases h3 : xgv f d mj 0 (xent mj As) [] sh σ with
            | none =>
              rw [h3] at h
              cases h
            | some q =>
              obtain ⟨v, sh', σ'⟩ := q
              rw [h3] at h
              dsimp only at h
              obtain ⟨a1, a2⟩ := xgv_ev f d mj 0 _ _ sh σ _ h3
              obtain ⟨b1, b2⟩ := xgv_ev f (d + 1) mi pc' L _ sh' σ' _ h
              refine ⟨fun X => ?_, fun p => b2 (a2 p)⟩
              rw [xev, h1]
              dsimp only
              rw [h2]
              dsimp only
              rw [a1 X]
              exact b1 X
        | none =>
          rw [h2] at h
          dsimp only at h
          cases h3 : xstep X0 mi pc L st sh σ with
          | none =>
            rw [h3] at h
            cases h
          | some q =>
            obtain ⟨pc', L', st', sh', σ'⟩ := q
            rw [h3] at h
            dsimp only at h
            obtain ⟨b1, b2⟩ := xgv_ev f d mi pc' L' st' sh' σ' _ h
            refine ⟨fun X => ?_, fun p => b2 (xs_T hg1 hg2 p h3)⟩
            rw [xev, h1]
            dsimp only
            rw [h2]
            dsimp only
            rw [xs_g hg1, h3]
            exact b1 X
end GVM
