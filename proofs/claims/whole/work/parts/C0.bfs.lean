/-! PATHS: the search, told once -/
def dig (x c : Nat) : Nat := x / 32 ^ c % 32
noncomputable def nbW (w : Nat → Int) (n : Nat) (fg : Nat → Int) (so : Int) (k x : Nat) : List (Nat → Nat) := (enumF (moW w fg) n 0 (fun _ => 0)).filter (gdB (GD n (ctW w fg (fun c => BW w fg c (dig x c))) (clW w fg (fun c => BW w fg c (dig x c))) (syW w fg) (wtB (BW w fg)) so (-1) (isum (fun c => if fg c = 0 then 0 else 1) n) (fun _ => 0) 0 k k))
noncomputable def nbC (w : Nat → Int) (n : Nat) (fg : Nat → Int) (so : Int) (k x : Nat) : List Nat := (nbW w n fg so k x).map (fun q => cdN q n)
abbrev PS : Type := List (Nat × Int) × Bool
/-- nothing more is looked for -/
def stp (S : PS) : Prop := S.2 = true ∨ 150 < S.1.length
def add1 (aim : Nat) (o : Int) (S : PS) (x : Nat) : PS := if S.2 = true ∨ 150 < S.1.length ∨ x ∈ S.1.map Prod.fst then S else (S.1 ++ [(x, o)], decide (x = aim))
def bfs (nb : Nat → List Nat) (aim : Nat) : Nat → Nat → PS → PS
  | 0, _, S => S
  | m + 1, i, S => if h : i < S.1.length then (if S.1.length ≤ 150 ∧ S.2 = false then bfs nb aim m (i + 1) ((nb (S.1[i]'h).1).foldl (add1 aim (i : Int)) S) else S) else S
section BFS
variable {aim : Nat} {o : Int} {S : PS}
theorem add1_s (h : stp S) {x : Nat} : add1 aim o S x = S := by
  unfold add1
  rw [if_pos (by
    rcases h with z | z
    · exact Or.inl z
    · exact Or.inr (Or.inl z))]
theorem fold_s (h : stp S) : ∀ L : List Nat, L.foldl (add1 aim o) S = S
  | [] => rfl
  | x :: L => by rw [List.foldl_cons, add1_s h, fold_s h L]
theorem add1_m {x y : Nat} (h : y ∈ S.1.map Prod.fst) : y ∈ (add1 aim o S x).1.map Prod.fst := by
  unfold add1
  split
  · exact h
  · rw [List.map_append]
    exact List.mem_append_left _ h
theorem foldp_m {y : Nat} : ∀ (L : List Nat) (S : PS), y ∈ S.1.map Prod.fst → y ∈ (L.foldl (add1 aim o) S).1.map Prod.fst
  | [], _, h => h
  | x :: L, S, h => by
    rw [List.foldl_cons]
    exact foldp_m L _ (add1_m h)
theorem add1_in {x : Nat} (h : ¬ stp S) : x ∈ (add1 aim o S x).1.map Prod.fst := by
  unfold add1
  split
  · rename_i z
    rcases z with z | z | z
    · exact absurd (Or.inl z) h
    · exact absurd (Or.inr z) h
    · exact z
  · rw [List.map_append]
    exact List.mem_append_right _ (by simp)
theorem fold_in : ∀ (L : List Nat) (S : PS), ¬ stp (L.foldl (add1 aim o) S) → ∀ y, y ∈ L → y ∈ (L.foldl (add1 aim o) S).1.map Prod.fst
  | [], _, _, y, hy => absurd hy (by simp)
  | x :: L, S, h, y, hy => by
    rw [List.foldl_cons] at h ⊢
    have ns : ¬ stp S := by
      intro z
      rw [add1_s z, fold_s z] at h
      exact h z
    rcases List.mem_cons.mp hy with rfl | hy
    · exact foldp_m L _ (add1_in ns)
    · exact fold_in L _ h y hy
theorem nd_le : ∀ (L R : List Nat), L.Nodup → (∀ x, x ∈ L → x ∈ R) → L.length ≤ R.length
  | [], R, _, _ => by simp
  | x :: L, R, h, s => by
    obtain ⟨h1, h2⟩ := List.nodup_cons.mp h
    have xr := s x (List.mem_cons_self ..)
    have := nd_le L (R.erase x) h2 (fun y hy => (List.mem_erase_of_ne (fun e => h1 (by rw [← e]; exact hy))).mpr (s y (List.mem_cons_of_mem _ hy)))
    rw [List.length_erase_of_mem xr] at this
    have : 0 < R.length := List.length_pos_of_mem xr
    rw [List.length_cons]
    omega
/-- no more than 256 need be seen -/
theorem fold_tk {L : List Nat} (h : L.Nodup) : (L.take 256).foldl (add1 aim o) S = L.foldl (add1 aim o) S := by
  by_cases y : stp ((L.take 256).foldl (add1 aim o) S)
  · have : L.foldl (add1 aim o) S = (L.drop 256).foldl (add1 aim o) ((L.take 256).foldl (add1 aim o) S) := by
      rw [← List.foldl_append, List.take_append_drop]
    rw [this, fold_s y]
  · have a := fold_in (L.take 256) S y
    have b := nd_le (L.take 256) _ (h.sublist (List.take_sublist 256 L)) a
    rw [List.length_map] at b
    have c : ¬ 150 < ((L.take 256).foldl (add1 aim o) S).1.length := fun z => y (Or.inr z)
    have : L.length < 256 := by
      rw [List.length_take] at b
      omega
    rw [List.take_of_length_le (by omega)]
/-- what a search's state is -/
def WPS (P : Nat → Prop) (S : PS) : Prop := 0 < S.1.length ∧ S.1.length ≤ 151 ∧ (∀ h : 0 < S.1.length, (S.1[0]'h).2 = -1) ∧ (∀ (j : Nat) (h : j < S.1.length), 0 < j → 0 ≤ (S.1[j]'h).2 ∧ (S.1[j]'h).2 < (j : Int)) ∧ ∀ e, e ∈ S.1 → P e.1
theorem WPS_add {P : Nat → Prop} {i x : Nat} (h : WPS P S) (hi : i < S.1.length) (hx : P x) : WPS P (add1 aim (i : Int) S x) := by
  unfold add1
  split
  · exact h
  · rename_i z
    obtain ⟨h1, h2, h3, h4, h5⟩ := h
    have l : ¬ 150 < S.1.length := fun y => z (Or.inr (Or.inl y))
    refine ⟨by simp, by simp; omega, fun hh => ?_, fun j hj h0 => ?_, fun e he => ?_⟩
    · dsimp only
      rw [List.getElem_append_left h1]
      exact h3 h1
    · dsimp only at hj ⊢
      by_cases y : j < S.1.length
      · rw [List.getElem_append_left y]
        exact h4 j y h0
      · have : j = S.1.length := by
          rw [List.length_append, List.length_singleton] at hj
          omega
        subst this
        rw [List.getElem_append_right (Nat.le_refl _)]
        simp
        omega
    · dsimp only at he
      rcases List.mem_append.mp he with he | he
      · exact h5 e he
      · rw [List.mem_singleton.mp he]
        exact hx
theorem add1_len {x : Nat} : S.1.length ≤ (add1 aim o S x).1.length := by
  unfold add1
  split
  · exact Nat.le_refl _
  · simp
theorem WPS_fold {P : Nat → Prop} {i : Nat} : ∀ (L : List Nat) (S : PS), WPS P S → i < S.1.length → (∀ x, x ∈ L → P x) → WPS P (L.foldl (add1 aim (i : Int)) S)
  | [], _, h, _, _ => h
  | x :: L, S, h, hi, hx => by
    rw [List.foldl_cons]
    exact WPS_fold L _ (WPS_add h hi (hx x (List.mem_cons_self ..))) (Nat.lt_of_lt_of_le hi add1_len) (fun y hy => hx y (List.mem_cons_of_mem _ hy))
theorem bfs_W {P : Nat → Prop} {nb : Nat → List Nat} (hn : ∀ x, P x → ∀ y, y ∈ nb x → P y) : ∀ (m i : Nat) (S : PS), WPS P S → WPS P (bfs nb aim m i S)
  | 0, _, _, h => h
  | m + 1, i, S, h => by
    rw [bfs]
    split
    · rename_i hi
      split
      · refine bfs_W hn m (i + 1) _ (WPS_fold _ _ h hi (fun x hx => hn _ (h.2.2.2.2 _ (List.getElem_mem hi)) x hx))
      · exact h
    · exact h
/-- distinct ways have distinct codes -/
theorem enum_nd {op : Nat → List Nat} (ho : ∀ c, (op c).Nodup) : ∀ m c (p : Nat → Nat), (enumF op m c p).Pairwise (fun q r => ∃ j, c ≤ j ∧ j < c + m ∧ q j ≠ r j)
  | 0, c, p => by
    rw [enumF]
    exact List.pairwise_singleton _ _
  | m + 1, c, p => by
    rw [enumF, List.pairwise_flatMap]
    refine ⟨fun i hi => ?_, ?_⟩
    · refine List.Pairwise.imp ?_ (enum_nd ho m (c + 1) (upN p c i))
      intro q r ⟨j, h1, h2, h3⟩
      exact ⟨j, by omega, by omega, h3⟩
    · refine List.Pairwise.imp ?_ (ho c)
      intro a b hab q hq r hr
      have e1 := (mem_enumF m (c + 1) _ q hq).1 c (by omega)
      have e2 := (mem_enumF m (c + 1) _ r hr).1 c (by omega)
      rw [upN_at] at e1 e2
      exact ⟨c, Nat.le_refl _, by omega, by rw [e1, e2]; exact hab⟩
theorem dig_cd {n c : Nat} {q : Nat → Nat} (hc : c < n) (h : ∀ i, i < n → q i < 32) : dig (cdN q n) c = q c := cdN_at n c hc h
theorem mo_32 {w fg : Nat → Int} {c i : Nat} (h : i ∈ moW w fg c) : i < 20 := by
  unfold moW at h
  have := List.mem_range.mp h
  have := nz_le (w := wF (fg c) w) 20
  omega
theorem nbC_nd {w fg : Nat → Int} {n k x : Nat} {so : Int} : (nbC w n fg so k x).Nodup := by
  unfold nbC nbW
  rw [List.Nodup, List.pairwise_map]
  have a := (enum_nd (op := moW w fg) (fun c => List.nodup_range) n 0 (fun _ => 0)).filter (gdB (GD n (ctW w fg (fun c => BW w fg c (dig x c))) (clW w fg (fun c => BW w fg c (dig x c))) (syW w fg) (wtB (BW w fg)) so (-1) (isum (fun c => if fg c = 0 then 0 else 1) n) (fun _ => 0) 0 k k))
  refine List.Pairwise.imp_of_mem ?_ a
  intro q r hq hr ⟨j, h1, h2, h3⟩ e
  have mq := (mem_enumF n 0 _ q (List.mem_filter.mp hq).1).2
  have mr := (mem_enumF n 0 _ r (List.mem_filter.mp hr).1).2
  have l1 : ∀ i, i < n → q i < 32 := fun i hi => by have := mo_32 (mq i (by omega) (by omega)); omega
  have l2 : ∀ i, i < n → r i < 32 := fun i hi => by have := mo_32 (mr i (by omega) (by omega)); omega
  have d1 := dig_cd (c := j) (by omega) l1
  have d2 := dig_cd (c := j) (by omega) l2
  rw [e] at d1
  exact h3 (d1.symm.trans d2)
/-- a row's code -/
def CD (w : Nat → Int) (n : Nat) (fg : Nat → Int) (x : Nat) : Prop := x < 32 ^ n ∧ ∀ c, c < n → dig x c ∈ moW w fg c
theorem nbC_CD {w fg : Nat → Int} {n k x : Nat} {so : Int} : ∀ y, y ∈ nbC w n fg so k x → CD w n fg y := by
  intro y hy
  unfold nbC nbW at hy
  obtain ⟨q, hq, rfl⟩ := List.mem_map.mp hy
  have mq := (mem_enumF n 0 _ q (List.mem_filter.mp hq).1).2
  have l1 : ∀ i, i < n → q i < 32 := fun i hi => by have := mo_32 (mq i (by omega) (by omega)); omega
  refine ⟨cdN_lt n l1, fun c hc => ?_⟩
  rw [dig_cd hc l1]
  exact mq c (by omega) (by omega)
theorem cd_dig {n : Nat} : ∀ x : Nat, x < 32 ^ n → cdN (dig x) n = x := by
  induction n with
  | zero =>
    intro x h
    rw [cdN]
    simp at h
    omega
  | succ n ih =>
    intro x h
    have p : 0 < 32 ^ n := Nat.pow_pos (by decide)
    have a := ih (x % 32 ^ n) (Nat.mod_lt _ p)
    have e : cdN (dig x) n = cdN (dig (x % 32 ^ n)) n := cdN_cg n (fun i hi => by
      unfold dig
      have : 32 ^ n = 32 ^ i * (32 * 32 ^ (n - i - 1)) := by
        rw [← Nat.pow_succ', ← Nat.pow_add]
        congr 1
        omega
      rw [this, Nat.mod_mul_right_div_self, Nat.mod_mul_right_mod])
    have t : dig x n = x / 32 ^ n := by
      unfold dig
      refine Nat.mod_eq_of_lt ?_
      rw [Nat.pow_succ] at h
      exact (Nat.div_lt_iff_lt_mul p).mpr (by rw [Nat.mul_comm]; exact h)
    rw [cdN, e, a, t, Nat.mul_comm]
    exact Nat.mod_add_div x (32 ^ n)
end BFS
