/-! MENDS: the lists of both sides are one -/
def BF (ω : xM) (fg : Nat → Int) (c i : Nat) : Int := f71 ω (fg c) (i : Int)
def moF (ω : xM) (fg : Nat → Int) (c : Nat) : List Nat := List.range (f72 ω (fg c)).toNat
section LST
variable {ω : xM} {n len t l : Nat} {fg bt cd : Nat → Int}
theorem nsum_ge {f : Nat → Nat} : ∀ n j, j < n → f j ≤ nsum f n
  | 0, j, h => absurd h (by omega)
  | n + 1, j, h => by
    rw [nsum]
    by_cases y : j = n
    · rw [y]
      omega
    · have := nsum_ge (f := f) n j (by omega)
      omega
theorem nsum_add {f g : Nat → Nat} : ∀ n, nsum f n + nsum g n = nsum (fun j => f j + g j) n
  | 0 => rfl
  | n + 1 => by
    rw [nsum, nsum, nsum, ← nsum_add n]
    omega
/-- the rows of mends -/
noncomputable def lsM (ω : xM) (n : Nat) (fg bt cd : Nat → Int) (len t l : Nat) : List (Nat → Nat) := (enumF (opF ω fg (fun c i => decide (ctF ω fg bt c i ≤ t ∧ clF ω fg bt c i ≤ l))) n 0 (fun _ => 0)).filter (gdB (GD n (ctF ω fg bt) (clF ω fg bt) (syF ω fg) (wtF ω fg) 0 (-1) (isum (fun c => if fg c = 0 then 0 else 1) n) cd len t l))
theorem lsM_eq : lsM ω n fg bt cd len t l = ((enumF (moF ω fg) n 0 (fun _ => 0)).filter (gdB (fun q => fit (t : Int) (l : Int) (nsum (fun c => ctF ω fg bt c (q c)) n) (nsum (fun c => clF ω fg bt c (q c)) n)))).filter (gdB (GDM n (BF ω fg) fg (syF ω fg) cd len (-1))) := by
  have h : lsM ω n fg bt cd len t l = (enumF (moF ω fg) n 0 (fun _ => 0)).filter (gdB (GD n (ctF ω fg bt) (clF ω fg bt) (syF ω fg) (wtF ω fg) 0 (-1) (isum (fun c => if fg c = 0 then 0 else 1) n) cd len t l)) := by
    refine enumF_flt (mo := moF ω fg) (F := fun c i => decide (ctF ω fg bt c i ≤ t ∧ clF ω fg bt c i ≤ l)) n 0 (fun _ => 0) (fun q _ hP j _ hj => ?_)
    rw [gdB_iff] at hP
    have a := nsum_ge (f := fun c => ctF ω fg bt c (q c)) n j (by omega)
    have b := nsum_ge (f := fun c => clF ω fg bt c (q c)) n j (by omega)
    rw [hP.1] at a
    rw [hP.2.1] at b
    exact decide_eq_true ⟨a, b⟩
  rw [h, List.filter_filter]
  refine List.filter_congr (fun q _ => ?_)
  rw [Bool.eq_iff_iff, Bool.and_eq_true, gdB_iff, gdB_iff, gdB_iff]
  unfold GD GDM fit
  constructor
  · intro ⟨h1, h2, h3⟩
    exact ⟨h3, Or.inr ⟨by omega, by omega⟩⟩
  · intro ⟨h3, h4⟩
    exact ⟨by omega, by omega, h3⟩
theorem moF_nz (hF : FC (ω 102) (ω 3 5) (ω 6) (ω 7) (ω 8)) {c : Nat} (hf : fg c = 0 ∨ fg c = 1) : moF ω fg c = List.range (nz (wF (fg c) (ω 102)) 20) := by
  unfold moF
  rw [← (frm_B hF hf).1, Int.toNat_natCast]
/-- different choices have different sticks -/
theorem BF_inj (hW : WF (ω 102)) (hF : FC (ω 102) (ω 3 5) (ω 6) (ω 7) (ω 8)) {c : Nat} (hf : fg c = 0 ∨ fg c = 1) {i j : Nat} (hi : (i : Int) < f72 ω (fg c)) (hj : (j : Int) < f72 ω (fg c)) (e : BF ω fg c i = BF ω fg c j) : i = j := by
  unfold BF at e
  rcases hf with z | z
  · rw [z] at e hi hj
    rw [f72_0] at hi hj
    rw [f71_0 (by omega), f71_0 (by omega)] at e
    have : ∀ a, a < 5 → ∀ b, b < 5 → xcv 1 a = xcv 1 b → a = b := by decide
    exact this i (by omega) j (by omega) e
  · rw [z] at e hi hj
    rw [f72_1] at hi hj
    rw [f71_1 hi, f71_1 hj] at e
    obtain ⟨f1, f2, f3⟩ := hF
    obtain ⟨a, a1, a2, a3⟩ := nz_sur (w := ω 102) 20 i (by omega)
    obtain ⟨b, b1, b2, b3⟩ := nz_sur (w := ω 102) 20 j (by omega)
    have qa := (f2 a a1 a2).1
    have qb := (f2 b b1 b2).1
    rw [a3] at qa
    rw [b3] at qb
    have := hW.2.2 a b a1 b1 (by rw [← qa, ← qb, e]) a2
    rw [← a3, ← b3, this]
/-- there are fewer than a thousand million -/
theorem lsM_lt (hW : WF (ω 102)) (hF : FC (ω 102) (ω 3 5) (ω 6) (ω 7) (ω 8)) (hn : n ≤ 11) (hf : ∀ c, c < n → fg c = 0 ∨ fg c = 1) (hb : ∀ c, c < n → 0 ≤ bt c ∧ bt c < 128) (ht : t ≤ 3) (hl : l ≤ 3) : (lsM ω n fg bt cd len t l).length < 1000000000 := by
  rw [lsM_eq]
  refine Nat.lt_of_le_of_lt (List.length_filter_le _ _) ?_
  have fr := frm_of hW hF
  refine Nat.lt_of_le_of_lt ?_ (TB_lt hn (s := t + l) (by omega))
  refine Nat.le_trans ?_ (enum_bd (mo := moF ω fg) (N := n) (D := fun c i => pcN ((bt c).toNat ^^^ (BF ω fg c i).toNat)) (fun c i => Nat.lt_succ_of_le (pcN_7 _)) (fun c j hc hj => ?_) n 0 (fun _ => 0) (t + l) (by omega))
  · rw [← List.countP_eq_length_filter, ← List.countP_eq_length_filter]
    refine List.countP_mono_left (fun q hq hG => ?_)
    rw [gdB_iff] at hG
    obtain ⟨_, qm⟩ := mem_enumF n 0 _ q hq
    refine decide_eq_true ?_
    have e : nsum (fun j => pcN ((bt j).toNat ^^^ (BF ω fg j (q j)).toNat)) n = nsum (fun c => ctF ω fg bt c (q c)) n + nsum (fun c => clF ω fg bt c (q c)) n := by
      rw [nsum_add]
      refine nsum_cg n (fun j hj => ?_)
      have rb := f71_rg fr (fg j) (q j : Int)
      have rt := hb j hj
      have := dst_x (bt j).toNat (by omega) (BF ω fg j (q j)).toNat (by unfold BF; omega)
      rw [Int.toNat_of_nonneg rt.1, Int.toNat_of_nonneg (show 0 ≤ BF ω fg j (q j) from rb.1)] at this
      exact this.symm
    have s := nsum_sfx (fun j => pcN ((bt j).toNat ^^^ (BF ω fg j (q j)).toNat)) n 0
    rw [Nat.zero_add, nsum, Nat.zero_add] at s
    rw [← s, e]
    unfold fit at hG
    omega
  · have nc := f72_rg fr (fg c)
    unfold moF
    have := cp_inj (f := fun i => (BF ω fg c i).toNat) (N := 128) (f72 ω (fg c)).toNat (fun v => decide (pcN ((bt c).toNat ^^^ v) = j)) (fun i hi => by
      have := f71_rg fr (fg c) (i : Int)
      show (BF ω fg c i).toNat < 128
      unfold BF
      omega) (fun a b ha hb' e => by
      have e : (BF ω fg c a).toNat = (BF ω fg c b).toNat := e
      have ra := f71_rg fr (fg c) (a : Int)
      have rb := f71_rg fr (fg c) (b : Int)
      refine BF_inj hW hF (hf c hc) (by omega) (by omega) ?_
      unfold BF at e ⊢
      omega)
    rw [dst_c (bt c).toNat (by have := hb c hc; omega) j hj] at this
    exact this
end LST
