/-! COULD, in the model: allows -/
section ALS
variable {X : Nat × (Nat → Int)} {μ τ : xM}
/-- allows, by what was seen -/
theorem s243s {c : Nat} {v : Int} (h51 : μ 100 51 = 0) (hN : 0 ≤ μ 100 59 ∧ μ 100 59 ≤ 60) (hl : ∀ s : Nat, (s : Int) < μ 100 59 → μ 136 s = 0 ∨ μ 136 s = 1) : ∃ b : Int, (b = 0 ∨ b = 1) ∧ (b = 1 ↔ alS μ (μ 100 50) c v) ∧ ∀ d, Ev X d 243 0 [some (vr 100), some (vi c), some (vi v), none, none, none] [] SH μ = some (some (vi b), SH, μ) := by
  obtain ⟨N, hN'⟩ : ∃ N : Nat, μ 100 59 = N := ⟨(μ 100 59).toNat, by omega⟩
  have lp : ∀ (m s : Nat) (is : Int), s + m = N → (is = 0 ∨ is = 1) → ∃ b : Int, (b = 0 ∨ b = 1) ∧ (b = 1 ↔ is = 1 ∧ ∀ s' : Nat, s ≤ s' → s' < N → μ 134 s' ≤ μ 100 50 → (μ 135 s' < 0 ∨ μ 100 50 < μ 135 s') → μ 132 s' = (c : Int) → xand (xshr v (μ 133 s')) 1 = μ 136 s') ∧ ∀ d o5, Ev X d 243 5 [some (vr 100), some (vi c), some (vi v), some (vi is), some (vi s), o5] [] SH μ = some (some (vi b), SH, μ) := by
    intro m
    induction m with
    | zero =>
      intro s is e hi
      refine ⟨is, hi, ⟨fun z => ⟨z, fun s' h1 h2 => by omega⟩, fun z => z.1⟩, fun d o5 => ?_⟩
      rw [b243_5, if_pos (by omega), b243_127 hi]
    | succ m ih =>
      intro s is e hi
      have x1 : xadd (s : Int) 1 = ((s + 1 : Nat) : Int) := xad1 (by omega)
      have hl' := hl s (by omega)
      have st : ∀ d o5, Ev X d 243 5 [some (vr 100), some (vi c), some (vi v), some (vi is), some (vi s), o5] [] SH μ = Ev X d 243 21 [some (vr 100), some (vi c), some (vi v), some (vi is), some (vi s), o5] [] SH μ := by
        intro d o5
        rw [b243_5, if_neg (by omega), b243_14, if_neg (fun z => z h51)]
      by_cases cn : μ 134 s ≤ μ 100 50 ∧ (μ 135 s < 0 ∨ μ 100 50 < μ 135 s)
      · have s64 : ∀ d o5, Ev X d 243 21 [some (vr 100), some (vi c), some (vi v), some (vi is), some (vi s), o5] [] SH μ = Ev X d 243 71 [some (vr 100), some (vi c), some (vi v), some (vi is), some (vi s), some (vi 1)] [] SH μ := by
          intro d o5
          have t : Ev X d 243 59 [some (vr 100), some (vi c), some (vi v), some (vi is), some (vi s), o5] [] SH μ = Ev X d 243 71 [some (vr 100), some (vi c), some (vi v), some (vi is), some (vi s), some (vi 1)] [] SH μ := by
            rw [b243_59, b243_64, if_neg (by decide)]
          rw [b243_21 (by omega), Int.toNat_natCast, if_neg (by omega), b243_35 (by omega), Int.toNat_natCast]
          by_cases y : μ 135 s < 0
          · rw [if_pos y, t]
          · rw [if_neg y, b243_45 (by omega), Int.toNat_natCast, if_neg (by omega), t]
        by_cases ce : μ 132 s = (c : Int)
        · by_cases ok : is = 1 ∧ xand (xshr v (μ 133 s)) 1 = μ 136 s
          · obtain ⟨b, b1, b2, b3⟩ := ih (s + 1) 1 (by omega) (Or.inr rfl)
            refine ⟨b, b1, ?_, fun d o5 => ?_⟩
            · rw [b2]
              constructor
              · intro ⟨_, z⟩
                refine ⟨ok.1, fun s' h1 h2 h3 h4 h5 => ?_⟩
                by_cases w : s' = s
                · rw [w]
                  exact ok.2
                · exact z s' (by omega) h2 h3 h4 h5
              · intro ⟨_, z⟩
                exact ⟨rfl, fun s' h1 h2 h3 h4 h5 => z s' (by omega) h2 h3 h4 h5⟩
            · have t : Ev X d 243 115 [some (vr 100), some (vi c), some (vi v), some (vi is), some (vi s), some (vi 1)] [] SH μ = some (some (vi b), SH, μ) := by
                rw [b243_115, b243_120, b243_121, x1]
                exact b3 d _
              rw [st, s64, b243_71 (by omega), Int.toNat_natCast, if_neg (fun z => z ce), b243_82, if_neg (by omega), b243_86 (by omega), Int.toNat_natCast]
              rcases hl' with z | z
              · rw [if_pos z, b243_111, b243_112, if_neg (by rw [ok.2, z]; decide), t]
              · rw [if_neg (by omega), b243_107, b243_112, if_neg (by rw [ok.2, z]; decide), t]
          · obtain ⟨b, b1, b2, b3⟩ := ih (s + 1) 0 (by omega) (Or.inl rfl)
            have b0 : b = 0 := by
              rcases b1 with z | z
              · exact z
              · exact absurd (b2.mp z).1 (by decide)
            refine ⟨b, b1, ⟨fun z => by omega, fun ⟨z1, z2⟩ => absurd ⟨z1, z2 s (Nat.le_refl _) (by omega) cn.1 cn.2 ce⟩ ok⟩, fun d o5 => ?_⟩
            have t : ∀ o3, Ev X d 243 119 [some (vr 100), some (vi c), some (vi v), o3, some (vi s), some (vi 1)] [] SH μ = some (some (vi b), SH, μ) := by
              intro o3
              rw [b243_119, b243_120, b243_121, x1]
              exact b3 d _
            rw [st, s64, b243_71 (by omega), Int.toNat_natCast, if_neg (fun z => z ce), b243_82]
            by_cases z0 : is = 0
            · rw [if_pos z0, t]
            · have ne : ¬ xand (xshr v (μ 133 s)) 1 = μ 136 s := fun z => ok ⟨by omega, z⟩
              rw [if_neg z0, b243_86 (by omega), Int.toNat_natCast]
              rcases hl' with z | z
              · rw [if_pos z, b243_111, b243_112, if_pos (fun q => ne (q.trans z.symm)), t]
              · rw [if_neg (by omega), b243_107, b243_112, if_pos (fun q => ne (q.trans z.symm)), t]
        · obtain ⟨b, b1, b2, b3⟩ := ih (s + 1) is (by omega) hi
          refine ⟨b, b1, ?_, fun d o5 => ?_⟩
          · rw [b2]
            refine ⟨fun ⟨z1, z2⟩ => ⟨z1, fun s' h1 h2 h3 h4 h5 => ?_⟩, fun ⟨z1, z2⟩ => ⟨z1, fun s' h1 h2 h3 h4 h5 => z2 s' (by omega) h2 h3 h4 h5⟩⟩
            by_cases w : s' = s
            · rw [w] at h5
              exact absurd h5 ce
            · exact z2 s' (by omega) h2 h3 h4 h5
          · rw [st, s64, b243_71 (by omega), Int.toNat_natCast, if_pos ce, b243_121, x1]
            exact b3 d _
      · obtain ⟨b, b1, b2, b3⟩ := ih (s + 1) is (by omega) hi
        refine ⟨b, b1, ?_, fun d o5 => ?_⟩
        · rw [b2]
          refine ⟨fun ⟨z1, z2⟩ => ⟨z1, fun s' h1 h2 h3 h4 h5 => ?_⟩, fun ⟨z1, z2⟩ => ⟨z1, fun s' h1 h2 h3 h4 h5 => z2 s' (by omega) h2 h3 h4 h5⟩⟩
          by_cases w : s' = s
          · rw [w] at h3 h4
            exact absurd ⟨h3, h4⟩ cn
          · exact z2 s' (by omega) h2 h3 h4 h5
        · have t : Ev X d 243 63 [some (vr 100), some (vi c), some (vi v), some (vi is), some (vi s), o5] [] SH μ = some (some (vi b), SH, μ) := by
            rw [b243_63, b243_64, if_pos rfl, b243_121, x1]
            exact b3 d _
          rw [st, b243_21 (by omega), Int.toNat_natCast]
          by_cases y : μ 100 50 < μ 134 s
          · rw [if_pos y, t]
          · rw [if_neg y, b243_35 (by omega), Int.toNat_natCast, if_neg (by omega), b243_45 (by omega), Int.toNat_natCast, if_pos (by omega), t]
  obtain ⟨b, b1, b2, b3⟩ := lp N 0 1 (by omega) (Or.inr rfl)
  refine ⟨b, b1, ?_, fun d => ?_⟩
  · rw [b2]
    unfold alS
    exact ⟨fun z s hs => z.2 s (Nat.zero_le _) (by omega), fun z => ⟨rfl, fun s' _ h2 => z s' (by omega)⟩⟩
  · rw [b243_0]
    exact b3 d _
end ALS
