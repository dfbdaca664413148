/-! a text of symbols: the automaton both sides keep (digits so far, a zero leads, equals seen) -/
def isBl (c : Int) : Bool := decide (c = 32 ∨ c = 10)
def isSy (c : Int) : Bool := decide ((48 ≤ c ∧ c ≤ 57) ∨ c = 43 ∨ c = 45 ∨ c = 42 ∨ c = 47 ∨ c = 61)
def aOk (s : Int × Int × Int) (c : Int) : Bool := if 48 ≤ c ∧ c ≤ 57 then decide (s.1 ≠ 4 ∧ s.2.1 = 0) else decide (s.1 ≠ 0 ∧ (c = 61 → s.2.2 = 0))
def aN (s : Int × Int × Int) (c : Int) : Int × Int × Int := if 48 ≤ c ∧ c ≤ 57 then (s.1 + 1, if s.1 = 0 ∧ c = 48 then 1 else 0, s.2.2) else (0, 0, if c = 61 then 1 else s.2.2)
def auS (l : List Int) : Int × Int × Int := l.foldl aN (0, 0, 0)
def nbL (tx : Nat → Int) : Nat → List Int
  | 0 => []
  | i + 1 => if isBl (tx i) = true then nbL tx i else nbL tx i ++ [tx i]
/-- a place of the text that both sides pass -/
def gd (tx : Nat → Int) (i : Nat) : Bool := isBl (tx i) || (isSy (tx i) && (decide ((nbL tx i).length < 11) && aOk (auS (nbL tx i)) (tx i)))
section AUT
variable {tx : Nat → Int} {i n : Nat} {l : List Int} {c : Int}
theorem auS_snoc : auS (l ++ [c]) = aN (auS l) c := by
  unfold auS
  rw [List.foldl_append]
  rfl
theorem nbL_bl (h : isBl (tx i) = true) : nbL tx (i + 1) = nbL tx i := by
  rw [nbL, if_pos h]
theorem nbL_nb (h : isBl (tx i) = false) : nbL tx (i + 1) = nbL tx i ++ [tx i] := by
  rw [nbL, if_neg (by rw [h]; decide)]
theorem nbL_pre : ∀ (q i : Nat), ∃ r, nbL tx (i + q) = nbL tx i ++ r
  | 0, i => ⟨[], by rw [List.append_nil]; rfl⟩
  | q + 1, i => by
    obtain ⟨r, hr⟩ := nbL_pre q i
    by_cases h : isBl (tx (i + q)) = true
    · exact ⟨r, by rw [show i + (q + 1) = i + q + 1 from rfl, nbL_bl h, hr]⟩
    · exact ⟨r ++ [tx (i + q)], by rw [show i + (q + 1) = i + q + 1 from rfl, nbL_nb (by simpa using h), hr, List.append_assoc]⟩
theorem nbL_get (hi : i < n) (h : isBl (tx i) = false) : (nbL tx n).getD (nbL tx i).length 0 = tx i := by
  obtain ⟨r, hr⟩ := nbL_pre (tx := tx) (n - (i + 1)) (i + 1)
  rw [show i + 1 + (n - (i + 1)) = n by omega] at hr
  rw [hr, nbL_nb h, List.append_assoc]
  simp [List.getD]
/-- the least place that is not passed, or the end -/
theorem gd_stop (tx : Nat → Int) : ∀ n : Nat, ∃ p, p ≤ n ∧ (∀ i, i < p → gd tx i = true) ∧ (p < n → gd tx p = false)
  | 0 => ⟨0, by omega, fun i h => by omega, fun h => by omega⟩
  | n + 1 => by
    obtain ⟨p, h1, h2, h3⟩ := gd_stop tx n
    by_cases e : p = n
    · subst e
      by_cases g : gd tx p = true
      · exact ⟨p + 1, by omega, fun i h => by
          by_cases e : i = p
          · subst e; exact g
          · exact h2 i (by omega), fun h => by omega⟩
      · exact ⟨p, by omega, h2, fun _ => by simpa using g⟩
    · exact ⟨p, by omega, h2, fun _ => h3 (by omega)⟩
end AUT
