/-! the shape of the cells behind the law's two constructors; rows for straight stretches -/
def SH : List xSh := [.inl (11, [1, 3, 10, 14, 23, 26, 29, 32, 35, 38, 41, 47, 49, 70, 96]), .inl (9, [2, -1, -1, -1, -1, -1, -1, -1, -1]), .inr (0, 300), .inl (1, [1, 4, 5, 6, 7, -1, 8, 9]), .inr (0, 20), .inr (0, 20), .inr (0, 20), .inr (0, 20), .inr (0, 128), .inr (0, 128), .inl (2, [1, 11, -1, -1, 12, -1, -1, 13, -1]), .inr (0, 256), .inr (0, 256), .inr (2, 64), .inl (6, [15, 16, 17, 18, 19, 20, 21, 22]), .inr (0, 12), .inr (0, 12), .inr (0, 12), .inr (0, 12), .inr (0, 12), .inr (0, 12), .inr (0, 12), .inr (0, 12), .inl (7, [-1, 24, 25]), .inr (1, 11), .inr (0, 11), .inl (7, [-1, 27, 28]), .inr (1, 11), .inr (0, 11), .inl (7, [-1, 30, 31]), .inr (1, 11), .inr (0, 11), .inl (7, [-1, 33, 34]), .inr (1, 11), .inr (0, 11), .inl (7, [-1, 36, 37]), .inr (1, 11), .inr (0, 11), .inl (7, [-1, 39, 40]), .inr (1, 11), .inr (0, 11), .inl (8, [-1, -1, 42, 43, 44, 45, 46]), .inr (0, 60), .inr (0, 60), .inr (1, 60), .inr (0, 60), .inr (0, 60), .inl (0, [48, -1, -1]), .inr (0, 100), .inl (3, [23, 41, 50, -1, -1, -1, -1, -1, -1, 69]), .inl (10, [3, 10, 51, 60, 61, 62, 63, 64, 65, -1, -1, -1, -1, -1, -1, -1, -1, 66, 67, 68]), .inl (6, [52, 53, 54, 55, 56, 57, 58, 59]), .inr (0, 12), .inr (0, 12), .inr (0, 12), .inr (0, 12), .inr (0, 12), .inr (0, 12), .inr (0, 12), .inr (0, 12), .inr (0, 220), .inr (0, 220), .inr (0, 220), .inr (0, 220), .inr (0, 11), .inr (0, 12), .inr (2, 256), .inr (0, 78), .inr (0, 220), .inr (0, 78), .inl (4, [3, 71, 90, 93, 94, -1, -1, -1, 95, -1, -1]), .inl (10, [3, 10, 72, 81, 82, 83, 84, 85, 86, -1, -1, -1, -1, -1, -1, -1, -1, 87, 88, 89]), .inl (6, [73, 74, 75, 76, 77, 78, 79, 80]), .inr (0, 12), .inr (0, 12), .inr (0, 12), .inr (0, 12), .inr (0, 12), .inr (0, 12), .inr (0, 12), .inr (0, 12), .inr (0, 220), .inr (0, 220), .inr (0, 220), .inr (0, 220), .inr (0, 11), .inr (0, 12), .inr (2, 256), .inr (0, 78), .inr (0, 220), .inl (7, [-1, 91, 92]), .inr (1, 11), .inr (0, 11), .inr (2, 151), .inr (0, 151), .inr (2, 200), .inl (5, [3, 97, 98, 99, -1]), .inr (2, 6), .inr (0, 10), .inr (0, 10), .inl (12, [101, -1, -1, -1, -1, -1, -1, -1, -1, -1, -1, 102, 103, 104, 105, 106, -1, -1, 107, 108, 109, 110, 111, 112, -1, 113, 114, 115, 116, 117, 118, 119, 120, 121, -1, -1, -1, -1, -1, -1, 122, 123, 124, 125, 126, 127, 128, -1, -1, -1, -1, -1, -1, -1, 129, 130, -1, -1, 131, -1, -1, 132, 133, 134, 135, 136, 137, 138, 139, -1, -1, 140, 141, 142]), .inr (0, 300), .inr (0, 20), .inr (0, 20), .inr (0, 10), .inr (1, 10), .inr (1, 128), .inr (1, 11), .inr (1, 11), .inr (1, 11), .inr (0, 11), .inr (0, 11), .inr (0, 11), .inr (0, 11), .inr (0, 2), .inr (1, 2), .inr (0, 200), .inr (0, 200), .inr (0, 200), .inr (0, 200), .inr (0, 210), .inr (2, 60), .inr (0, 220), .inr (0, 11), .inr (0, 12), .inr (0, 11), .inr (0, 11), .inr (0, 12), .inr (0, 12), .inr (0, 1661), .inr (0, 151), .inr (0, 2200), .inr (0, 60), .inr (0, 60), .inr (0, 60), .inr (0, 60), .inr (1, 60), .inr (0, 77), .inr (0, 128), .inr (0, 100), .inr (0, 3), .inr (0, 33), .inr (1, 33)]
def isRow (k : Nat) : Prop := k = 23 ∨ k = 26 ∨ k = 29 ∨ k = 32 ∨ k = 35 ∨ k = 38 ∨ k = 90
def isRdg (k : Nat) : Prop := k = 14 ∨ k = 51 ∨ k = 72
def isWlk (k : Nat) : Prop := k = 50 ∨ k = 71
def isArr (k : Nat) : Prop := SH[k]? = some (.inr (0, 11))
theorem isRow.s0 {k : Nat} (h : isRow k) : SH[k]? = some (.inl (7, [-1, ((k + 1 : Nat) : Int), ((k + 2 : Nat) : Int)])) := by rcases h with rfl | rfl | rfl | rfl | rfl | rfl | rfl <;> rfl
theorem isRow.s1 {k : Nat} (h : isRow k) : SH[k + 1]? = some (.inr (1, 11)) := by rcases h with rfl | rfl | rfl | rfl | rfl | rfl | rfl <;> rfl
theorem isRow.s2 {k : Nat} (h : isRow k) : SH[k + 2]? = some (.inr (0, 11)) := by rcases h with rfl | rfl | rfl | rfl | rfl | rfl | rfl <;> rfl
theorem isRdg.s0 {k : Nat} (h : isRdg k) : SH[k]? = some (.inl (6, [((k + 1 : Nat) : Int), ((k + 2 : Nat) : Int), ((k + 3 : Nat) : Int), ((k + 4 : Nat) : Int), ((k + 5 : Nat) : Int), ((k + 6 : Nat) : Int), ((k + 7 : Nat) : Int), ((k + 8 : Nat) : Int)])) := by rcases h with rfl | rfl | rfl <;> rfl
theorem isRdg.s1 {k : Nat} (h : isRdg k) : SH[k + 1]? = some (.inr (0, 12)) := by rcases h with rfl | rfl | rfl <;> rfl
theorem isRdg.s2 {k : Nat} (h : isRdg k) : SH[k + 2]? = some (.inr (0, 12)) := by rcases h with rfl | rfl | rfl <;> rfl
theorem isRdg.s3 {k : Nat} (h : isRdg k) : SH[k + 3]? = some (.inr (0, 12)) := by rcases h with rfl | rfl | rfl <;> rfl
theorem isRdg.s4 {k : Nat} (h : isRdg k) : SH[k + 4]? = some (.inr (0, 12)) := by rcases h with rfl | rfl | rfl <;> rfl
theorem isRdg.s5 {k : Nat} (h : isRdg k) : SH[k + 5]? = some (.inr (0, 12)) := by rcases h with rfl | rfl | rfl <;> rfl
theorem isRdg.s6 {k : Nat} (h : isRdg k) : SH[k + 6]? = some (.inr (0, 12)) := by rcases h with rfl | rfl | rfl <;> rfl
theorem isRdg.s7 {k : Nat} (h : isRdg k) : SH[k + 7]? = some (.inr (0, 12)) := by rcases h with rfl | rfl | rfl <;> rfl
theorem isRdg.s8 {k : Nat} (h : isRdg k) : SH[k + 8]? = some (.inr (0, 12)) := by rcases h with rfl | rfl | rfl <;> rfl
theorem isWlk.s0 {k : Nat} (h : isWlk k) : SH[k]? = some (.inl (10, [3, 10, ((k + 1 : Nat) : Int), ((k + 10 : Nat) : Int), ((k + 11 : Nat) : Int), ((k + 12 : Nat) : Int), ((k + 13 : Nat) : Int), ((k + 14 : Nat) : Int), ((k + 15 : Nat) : Int), -1, -1, -1, -1, -1, -1, -1, -1, ((k + 16 : Nat) : Int), ((k + 17 : Nat) : Int), ((k + 18 : Nat) : Int)])) := by rcases h with rfl | rfl <;> rfl
theorem isWlk.s1 {k : Nat} (h : isWlk k) : SH[k + 1]? = some (.inl (6, [((k + 2 : Nat) : Int), ((k + 3 : Nat) : Int), ((k + 4 : Nat) : Int), ((k + 5 : Nat) : Int), ((k + 6 : Nat) : Int), ((k + 7 : Nat) : Int), ((k + 8 : Nat) : Int), ((k + 9 : Nat) : Int)])) := by rcases h with rfl | rfl <;> rfl
theorem isWlk.s10 {k : Nat} (h : isWlk k) : SH[k + 10]? = some (.inr (0, 220)) := by rcases h with rfl | rfl <;> rfl
theorem isWlk.s11 {k : Nat} (h : isWlk k) : SH[k + 11]? = some (.inr (0, 220)) := by rcases h with rfl | rfl <;> rfl
theorem isWlk.s12 {k : Nat} (h : isWlk k) : SH[k + 12]? = some (.inr (0, 220)) := by rcases h with rfl | rfl <;> rfl
theorem isWlk.s13 {k : Nat} (h : isWlk k) : SH[k + 13]? = some (.inr (0, 220)) := by rcases h with rfl | rfl <;> rfl
theorem isWlk.s14 {k : Nat} (h : isWlk k) : SH[k + 14]? = some (.inr (0, 11)) := by rcases h with rfl | rfl <;> rfl
theorem isWlk.s15 {k : Nat} (h : isWlk k) : SH[k + 15]? = some (.inr (0, 12)) := by rcases h with rfl | rfl <;> rfl
theorem isWlk.s16 {k : Nat} (h : isWlk k) : SH[k + 16]? = some (.inr (2, 256)) := by rcases h with rfl | rfl <;> rfl
theorem isWlk.s17 {k : Nat} (h : isWlk k) : SH[k + 17]? = some (.inr (0, 78)) := by rcases h with rfl | rfl <;> rfl
theorem isWlk.s18 {k : Nat} (h : isWlk k) : SH[k + 18]? = some (.inr (0, 220)) := by rcases h with rfl | rfl <;> rfl
theorem isArr.s0 {k : Nat} (h : isArr k) : SH[k]? = some (.inr (0, 11)) := h
theorem isWlk.rdg {k : Nat} (h : isWlk k) : isRdg (k + 1) := by rcases h with rfl | rfl <;> simp [isRdg]
def xcv (c j : Nat) : Int := match xca (0, fun _ => 0) c with
  | some (_, _, f) => f j
  | none => 0
/-- instructions that neither call nor leave -/
def xpl (i : Instr) (a : Nat) : Bool := match i with
  | .ireturn => false
  | .lreturn => false
  | .areturn => false
  | .return_ => false
  | .invokestatic _ => Nat.ble 9000 a
  | .invokevirtual _ => false
  | .invokespecial _ => Nat.ble 9000 a
  | _ => true
theorem x_fit9 {a : Nat} {As : List xV} (h : 9000 ≤ a) : xfits a As = false := by
  unfold xfits
  have : MT a = none := by
    unfold MT
    rw [show Nat.ble 320 a = true from Nat.ble_eq_true_of_le (by omega)]
    rfl
  rw [this]
theorem x_plain {mi pc : Nat} {st : List xV} {sh : List xSh} {i : Instr} {a b n : Nat} (ht : tb mi pc = some (i, a, b, n)) (hp : xpl i a = true) : xret mi pc st = none ∧ xcall mi pc st sh = none := by
  constructor
  · unfold xret
    rw [ht]
    cases i <;> first | rfl | (cases hp; done)
  · unfold xcall
    rw [ht]
    cases i <;> first
      | rfl
      | (cases hp; done)
      | (have h9 := Nat.le_of_ble_eq_true hp
         dsimp only
         rw [if_neg (fun z => by rw [x_fit9 h9] at z; exact absurd z.2.2 (by simp))])
      | (have h9 := Nat.le_of_ble_eq_true hp
         dsimp only
         split
         · rw [if_neg (fun z => by rw [x_fit9 h9] at z; exact absurd z.2.2.2 (by simp))]
         · rfl)
def xrun (X : Nat × (Nat → Int)) (mi : Nat) : Nat → xN → Option xN
  | 0, c => some c
  | k + 1, (pc, L, st, sh, σ) => match tb mi pc with
    | none => none
    | some (i, a, _, _) => cond (xpl i a) (match xstep X mi pc L st sh σ with
      | some c => xrun X mi k c
      | none => none) none
section BLK
variable {X : Nat × (Nat → Int)} {d mi pc : Nat} {L : List (Option xV)} {st : List xV} {sh : List xSh} {σ : xM}
theorem Ev_run {k : Nat} {pc' : Nat} {L' : List (Option xV)} {st' : List xV} {sh' : List xSh} {σ' : xM} (h : xrun X mi k (pc, L, st, sh, σ) = some (pc', L', st', sh', σ')) : Ev X d mi pc L st sh σ = Ev X d mi pc' L' st' sh' σ' := by
  induction k generalizing pc L st sh σ with
  | zero => cases h; rfl
  | succ k ih =>
    unfold xrun at h
    cases ht : tb mi pc with
    | none => rw [ht] at h; cases h
    | some q =>
      obtain ⟨i, a, b, n⟩ := q
      rw [ht] at h
      dsimp only at h
      cases hp : xpl i a with
      | false => rw [hp] at h; cases h
      | true =>
        rw [hp] at h
        dsimp only [cond] at h
        cases hs : xstep X mi pc L st sh σ with
        | none => rw [hs] at h; cases h
        | some N =>
          obtain ⟨p2, L2, s2, h2, σ2⟩ := N
          rw [hs] at h
          obtain ⟨r1, r2⟩ := x_plain (st := st) (sh := sh) ht hp
          rw [Ev_step r1 r2 hs]
          exact ih h
theorem Ev_one {i : Instr} {a b n : Nat} (ht : tb mi pc = some (i, a, b, n)) (hp : xpl i a = true) {pc' : Nat} {L' : List (Option xV)} {st' : List xV} {sh' : List xSh} {σ' : xM} (hs : xstep X mi pc L st sh σ = some (pc', L', st', sh', σ')) : Ev X d mi pc L st sh σ = Ev X d mi pc' L' st' sh' σ' := by
  obtain ⟨r1, r2⟩ := x_plain (st := st) (sh := sh) ht hp
  exact Ev_step r1 r2 hs
theorem Ev_br {p : Prop} [Decidable p] {pa pb : Nat} {La Lb : List (Option xV)} {sa sb : List xV} {ha hb : List xSh} {σa σb : xM} (h1 : xret mi pc st = none) (h2 : xcall mi pc st sh = none) (hs : xstep X mi pc L st sh σ = if p then some (pa, La, sa, ha, σa) else some (pb, Lb, sb, hb, σb)) : Ev X d mi pc L st sh σ = if p then Ev X d mi pa La sa ha σa else Ev X d mi pb Lb sb hb σb := by
  by_cases h : p
  · rw [if_pos h] at hs ⊢
    exact Ev_step h1 h2 hs
  · rw [if_neg h] at hs ⊢
    exact Ev_step h1 h2 hs
theorem x_ite {α : Type} {p : Prop} [Decidable p] {a b c : α} (h1 : p → a = b) (h2 : ¬ p → a = c) : a = if p then b else c := by
  by_cases h : p
  · rw [if_pos h]; exact h1 h
  · rw [if_neg h]; exact h2 h
theorem xref_nat (q : Nat) : xref ((q : Nat) : Int) = vr q := by
  unfold xref
  rw [if_neg (by omega)]
  rfl
theorem Ev_getr {pc' w ci j n k q : Nat} {rs : List Int} (ht : tb mi pc = some (.getfield w, ci, j, n)) (hk : sh[k]? = some (.inl (ci, rs))) (h3 : xtc ci j = 3) (hj : rs[j]? = some ((q : Nat) : Int)) (hp : pc + n = pc') : Ev X d mi pc L (vr k :: st) sh σ = Ev X d mi pc' L (vr q :: st) sh σ := by
  subst hp
  refine Ev_one ht rfl ?_
  unfold xstep
  rw [ht]
  dsimp only
  rw [hk]
  dsimp only
  rw [if_pos rfl, if_pos h3, hj]
  dsimp only
  rw [xref_nat]
theorem Ev_get0 {pc' w ci j n k : Nat} {rs : List Int} (ht : tb mi pc = some (.getfield w, ci, j, n)) (hk : sh[k]? = some (.inl (ci, rs))) (h3 : xtc ci j = 0) (hp : pc + n = pc') : Ev X d mi pc L (vr k :: st) sh σ = Ev X d mi pc' L (vi (σ k j) :: st) sh σ := by
  subst hp
  refine Ev_one ht rfl ?_
  unfold xstep
  rw [ht]
  dsimp only
  rw [hk]
  dsimp only
  rw [if_pos rfl, if_neg (by omega), h3]
  rfl
theorem Ev_get1 {pc' w ci j n k : Nat} {rs : List Int} (ht : tb mi pc = some (.getfield w, ci, j, n)) (hk : sh[k]? = some (.inl (ci, rs))) (h3 : xtc ci j = 1) (hp : pc + n = pc') : Ev X d mi pc L (vr k :: st) sh σ = Ev X d mi pc' L (vi (σ k j) :: st) sh σ := by
  subst hp
  refine Ev_one ht rfl ?_
  unfold xstep
  rw [ht]
  dsimp only
  rw [hk]
  dsimp only
  rw [if_pos rfl, if_neg (by omega), h3]
  rfl
theorem Ev_get4 {pc' w ci j n k c4 : Nat} {rs : List Int} (ht : tb mi pc = some (.getfield w, ci, j, n)) (hk : sh[k]? = some (.inl (ci, rs))) (h3 : xtc ci j = 4) (hc : σ k j = ((c4 : Nat) : Int)) (hp : pc + n = pc') : Ev X d mi pc L (vr k :: st) sh σ = Ev X d mi pc' L (vc c4 :: st) sh σ := by
  subst hp
  refine Ev_one ht rfl ?_
  unfold xstep
  rw [ht]
  dsimp only
  rw [hk]
  dsimp only
  rw [if_pos rfl, if_neg (by omega), h3, hc]
  rw [show xdec 4 ((c4 : Nat) : Int) = some (vc c4) from congrArg some (if_neg (by omega))]
theorem Ev_put0 {pc' w ci j n k : Nat} {rs : List Int} {x : Int} (ht : tb mi pc = some (.putfield w, ci, j, n)) (hk : sh[k]? = some (.inl (ci, rs))) (h3 : xtc ci j = 0) (hp : pc + n = pc') : Ev X d mi pc L (vi x :: vr k :: st) sh σ = Ev X d mi pc' L st sh (xwr σ k j x) := by
  subst hp
  refine Ev_one ht rfl ?_
  unfold xstep
  rw [ht]
  dsimp only
  rw [hk]
  dsimp only
  rw [if_pos rfl, if_neg (by omega), h3]
  rfl
theorem Ev_put1 {pc' w ci j n k : Nat} {rs : List Int} {x : Int} (ht : tb mi pc = some (.putfield w, ci, j, n)) (hk : sh[k]? = some (.inl (ci, rs))) (h3 : xtc ci j = 1) (hx : x = 0 ∨ x = 1) (hp : pc + n = pc') : Ev X d mi pc L (vi x :: vr k :: st) sh σ = Ev X d mi pc' L st sh (xwr σ k j x) := by
  subst hp
  refine Ev_one ht rfl ?_
  unfold xstep
  rw [ht]
  dsimp only
  rw [hk]
  dsimp only
  rw [if_pos rfl, if_neg (by omega), h3]
  rcases hx with rfl | rfl <;> rfl
theorem Ev_iaload {pc' a b n k m : Nat} {i : Int} (ht : tb mi pc = some (.iaload, a, b, n)) (hk : sh[k]? = some (.inr (0, m))) (hi : 0 ≤ i ∧ i < (m : Int)) (hp : pc + n = pc') : Ev X d mi pc L (vi i :: vr k :: st) sh σ = Ev X d mi pc' L (vi (σ k i.toNat) :: st) sh σ := by
  subst hp
  refine Ev_one ht rfl ?_
  unfold xstep
  rw [ht]
  dsimp only
  rw [hk]
  exact if_pos hi
theorem Ev_baload {pc' a b n k m : Nat} {i : Int} (ht : tb mi pc = some (.baload, a, b, n)) (hk : sh[k]? = some (.inr (1, m))) (hi : 0 ≤ i ∧ i < (m : Int)) (hp : pc + n = pc') : Ev X d mi pc L (vi i :: vr k :: st) sh σ = Ev X d mi pc' L (vi (σ k i.toNat) :: st) sh σ := by
  subst hp
  refine Ev_one ht rfl ?_
  unfold xstep
  rw [ht]
  dsimp only
  rw [hk]
  exact if_pos hi
theorem Ev_laload {pc' a b n k m : Nat} {i : Int} (ht : tb mi pc = some (.laload, a, b, n)) (hk : sh[k]? = some (.inr (2, m))) (hi : 0 ≤ i ∧ i < (m : Int)) (hp : pc + n = pc') : Ev X d mi pc L (vi i :: vr k :: st) sh σ = Ev X d mi pc' L (vl (σ k i.toNat) :: st) sh σ := by
  subst hp
  refine Ev_one ht rfl ?_
  unfold xstep
  rw [ht]
  dsimp only
  rw [hk]
  exact if_pos hi
theorem Ev_iac {pc' a b n c m : Nat} {f : Nat → Int} {i : Int} (ht : tb mi pc = some (.iaload, a, b, n)) (hk : xca X c = some (0, m, f)) (hi : 0 ≤ i ∧ i < (m : Int)) (hp : pc + n = pc') : Ev X d mi pc L (vi i :: vc c :: st) sh σ = Ev X d mi pc' L (vi (f i.toNat) :: st) sh σ := by
  subst hp
  refine Ev_one ht rfl ?_
  unfold xstep
  rw [ht]
  dsimp only
  rw [hk]
  exact if_pos hi
theorem Ev_bac {pc' a b n c m : Nat} {f : Nat → Int} {i : Int} (ht : tb mi pc = some (.baload, a, b, n)) (hk : xca X c = some (3, m, f)) (hi : 0 ≤ i ∧ i < (m : Int)) (hp : pc + n = pc') : Ev X d mi pc L (vi i :: vc c :: st) sh σ = Ev X d mi pc' L (vi (f i.toNat) :: st) sh σ := by
  subst hp
  refine Ev_one ht rfl ?_
  unfold xstep
  rw [ht]
  dsimp only
  rw [hk]
  exact if_pos hi
theorem Ev_alen {pc' a b n c m ety : Nat} {f : Nat → Int} (ht : tb mi pc = some (.arraylength, a, b, n)) (hk : xca X c = some (ety, m, f)) (hp : pc + n = pc') : Ev X d mi pc L (vc c :: st) sh σ = Ev X d mi pc' L (vi (m : Int) :: st) sh σ := by
  subst hp
  refine Ev_one ht rfl ?_
  unfold xstep
  rw [ht]
  dsimp only
  rw [hk]
theorem Ev_iastore {pc' a b n k m : Nat} {i x : Int} (ht : tb mi pc = some (.iastore, a, b, n)) (hk : sh[k]? = some (.inr (0, m))) (hi : 0 ≤ i ∧ i < (m : Int)) (hp : pc + n = pc') : Ev X d mi pc L (vi x :: vi i :: vr k :: st) sh σ = Ev X d mi pc' L st sh (xwr σ k i.toNat x) := by
  subst hp
  refine Ev_one ht rfl ?_
  unfold xstep
  rw [ht]
  dsimp only
  rw [hk]
  exact if_pos hi
theorem Ev_lastore {pc' a b n k m : Nat} {i x : Int} (ht : tb mi pc = some (.lastore, a, b, n)) (hk : sh[k]? = some (.inr (2, m))) (hi : 0 ≤ i ∧ i < (m : Int)) (hp : pc + n = pc') : Ev X d mi pc L (vl x :: vi i :: vr k :: st) sh σ = Ev X d mi pc' L st sh (xwr σ k i.toNat x) := by
  subst hp
  refine Ev_one ht rfl ?_
  unfold xstep
  rw [ht]
  dsimp only
  rw [hk]
  exact if_pos hi
theorem Ev_bastore {pc' a b n k m : Nat} {i x : Int} (ht : tb mi pc = some (.bastore, a, b, n)) (hk : sh[k]? = some (.inr (1, m))) (hi : 0 ≤ i ∧ i < (m : Int)) (hx : x = 0 ∨ x = 1) (hp : pc + n = pc') : Ev X d mi pc L (vi x :: vi i :: vr k :: st) sh σ = Ev X d mi pc' L st sh (xwr σ k i.toNat x) := by
  subst hp
  refine Ev_one ht rfl ?_
  unfold xstep
  rw [ht]
  dsimp only
  rw [hk]
  exact if_pos ⟨hi, hx⟩
theorem Ev_idiv {pc' a b n : Nat} {x y : Int} (ht : tb mi pc = some (.idiv, a, b, n)) (hy : y ≠ 0) (hp : pc + n = pc') : Ev X d mi pc L (vi y :: vi x :: st) sh σ = Ev X d mi pc' L (vi (xdiv x y) :: st) sh σ := by
  subst hp
  refine Ev_one ht rfl ?_
  unfold xstep
  rw [ht]
  dsimp only
  rw [if_neg hy]
theorem Ev_irem {pc' a b n : Nat} {x y : Int} (ht : tb mi pc = some (.irem, a, b, n)) (hy : y ≠ 0) (hp : pc + n = pc') : Ev X d mi pc L (vi y :: vi x :: st) sh σ = Ev X d mi pc' L (vi (xrem x y) :: st) sh σ := by
  subst hp
  refine Ev_one ht rfl ?_
  unfold xstep
  rw [ht]
  dsimp only
  rw [if_neg hy]
theorem Ev_str0 {pc' w n c : Nat} (ht : tb mi pc = some (.getfield w, 13, 0, n)) (hc : 10 ≤ c ∧ c < 23) (hp : pc + n = pc') : Ev X d mi pc L (vc c :: st) sh σ = Ev X d mi pc' L (vi 0 :: st) sh σ := by
  subst hp
  refine Ev_one ht rfl ?_
  unfold xstep
  rw [ht]
  dsimp only
  rw [if_pos ⟨rfl, hc⟩]
  rfl
theorem Ev_str1 {pc' w n c : Nat} (ht : tb mi pc = some (.getfield w, 13, 1, n)) (hc : 10 ≤ c ∧ c < 23) (hp : pc + n = pc') : Ev X d mi pc L (vc c :: st) sh σ = Ev X d mi pc' L (vc (c + 30) :: st) sh σ := by
  subst hp
  refine Ev_one ht rfl ?_
  unfold xstep
  rw [ht]
  dsimp only
  rw [if_pos ⟨rfl, hc⟩]
  rfl
theorem Ev_retZ {a b n : Nat} {x : Int} (ht : tb mi pc = some (.ireturn, a, b, n)) (hr : xrt mi = some .boolean) (hx : x = 0 ∨ x = 1) : Ev X d mi pc L [vi x] sh σ = some (some (vi x), sh, σ) := by
  refine Ev_ret ?_
  unfold xret
  rw [ht]
  dsimp only
  rw [hr]
  rcases hx with rfl | rfl <;> rfl
theorem Ev_retC {a b n : Nat} {x : Int} (ht : tb mi pc = some (.ireturn, a, b, n)) (hr : xrt mi = some .char) (hx : 0 ≤ x ∧ x ≤ 65535) : Ev X d mi pc L [vi x] sh σ = some (some (vi x), sh, σ) := by
  refine Ev_ret ?_
  unfold xret
  rw [ht]
  dsimp only
  rw [hr]
  unfold xok
  rw [if_pos (decide_eq_true hx)]
theorem Ev_retB {a b n : Nat} {x : Int} (ht : tb mi pc = some (.ireturn, a, b, n)) (hr : xrt mi = some .byte) (hx : x = 0 ∧ x = 0) : Ev X d mi pc L [vi x] sh σ = some (some (vi x), sh, σ) := by
  refine Ev_ret ?_
  unfold xret
  rw [ht]
  dsimp only
  rw [hr]
  obtain ⟨rfl, -⟩ := hx
  rfl
theorem Ev_tbl {a b n : Nat} {dt lo hi x : Int} {ts : Array Int} (ht : tb mi pc = some (.tableswitch dt lo hi ts, a, b, n)) (h : x < lo ∨ hi < x) : Ev X d mi pc L (vi x :: st) sh σ = Ev X d mi dt.toNat L st sh σ := by
  refine Ev_one ht rfl ?_
  unfold xstep
  rw [ht]
  dsimp only
  rw [if_pos h]
theorem Ev_look {a b n : Nat} {dt x : Int} {ps : Array (Int × Int)} (ht : tb mi pc = some (.lookupswitch dt ps, a, b, n)) (h : xlook dt x ps.toList = dt) : Ev X d mi pc L (vi x :: st) sh σ = Ev X d mi dt.toNat L st sh σ := by
  refine Ev_one ht rfl ?_
  unfold xstep
  rw [ht]
  dsimp only
  rw [h]
theorem Ev_callE {mj pc' : Nat} {As r : List xV} {Lc : List (Option xV)} (h1 : xret mi pc st = none) (h2 : xcall mi pc st sh = some (mj, As, pc', r)) (h3 : xent mj As = Lc) : Ev X (d + 1) mi pc L st sh σ = (Ev X d mj 0 Lc [] sh σ).bind (fun q => Ev X (d + 1) mi pc' L (q.1.toList ++ r) q.2.1 q.2.2) := by
  subst h3
  exact Ev_call h1 h2
theorem xcall_v {w mj b n k : Nat} {rs : List Int} {r As : List xV} {pc' : Nat} (ht : tb mi pc = some (.invokevirtual w, mj, b, n)) (hd : st.drop (xnp mj) = vr k :: r) (hk : sh[k]? = some (.inl (xoc mj, rs))) (hc : xcats r ≤ 8) (hA : vr k :: (st.take (xnp mj)).reverse = As) (hp : pc + n = pc') (hf : xfits mj As = true) : xcall mi pc st sh = some (mj, As, pc', r) := by
  subst hA hp
  unfold xcall
  rw [ht]
  dsimp only
  rw [hd]
  dsimp only
  rw [if_pos ⟨by unfold xrc; dsimp only; rw [hk], hc, hf⟩]
theorem xcall_c {w mj b n c : Nat} {r As : List xV} {pc' : Nat} (ht : tb mi pc = some (.invokevirtual w, mj, b, n)) (hd : st.drop (xnp mj) = vc c :: r ∧ xoc mj = 13) (hk : 10 ≤ c ∧ c < 23) (hc : xcats r ≤ 8) (hA : vc c :: (st.take (xnp mj)).reverse = As) (hp : pc + n = pc') (hf : xfits mj As = true) : xcall mi pc st sh = some (mj, As, pc', r) := by
  subst hA hp
  unfold xcall
  rw [ht]
  dsimp only
  rw [hd.1]
  dsimp only
  rw [if_pos ⟨by unfold xrc; dsimp only; rw [if_pos hk, hd.2], hc, hf⟩]
end BLK
