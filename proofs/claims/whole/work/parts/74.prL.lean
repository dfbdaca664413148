/-! PAIRS: numbers -/
noncomputable def inS (w : Nat → Int) (S : Nat → Prop) (ds : List Nat) : Int := @ite Int (∃ t, S t ∧ Ly w ds t) (Classical.propDecidable _) 1 0
section PRL
variable {X : Nat × (Nat → Int)} {σ τ : xM} {w : Nat → Int} {S : Nat → Prop} {a : Int} {f s b : Nat}
theorem s114N (hF : Cform σ) (c : numC σ τ) {g m : Nat} (hg : g < 10) (hm : m < 2 ^ 43) : ∀ d, Ev X (d + 1) 114 0 [some (vr 96), some (vl m), none, some (vi g), none, none, none] [] SH τ = some (some (vl (rbM (σ 102) g m)), SH, τ) := by
  intro d
  obtain ⟨h4, hW, -, -⟩ := hF
  have t4 : τ 4 = σ 4 := chg_row c (fun _ => rfl) rfl
  have w1 := hW.1 (2 * g) (by omega)
  have w1' := hW.2.1 g hg
  have w2 := hW.1 (2 * g + 1) (by omega)
  have i1 : xmul 2 (g : Int) = ((2 * g : Nat) : Int) := by rw [xmul_eq (by omega) (by omega)]; omega
  have i2 : xadd ((2 * g : Nat) : Int) 0 = ((2 * g : Nat) : Int) := by rw [xadd_eq (by omega) (by omega)]; omega
  have i3 : xadd ((2 * g : Nat) : Int) 1 = ((2 * g + 1 : Nat) : Int) := by rw [xadd_eq (by omega) (by omega)]; omega
  have e0 : f70 τ g 0 = σ 102 (2 * g) := by
    unfold f70
    rw [if_neg (by omega), if_neg (by omega), if_neg (by decide), if_neg (by decide), i1, i2, Int.toNat_natCast, t4, h4 _ (by omega), if_pos (by omega)]
  have e1 : f70 τ g 1 = if σ 102 (2 * g + 1) ≠ 0 then σ 102 (2 * g + 1) else -1 := by
    unfold f70
    rw [if_neg (by omega), if_neg (by omega), if_neg (by decide), if_neg (by decide), i1, i3, Int.toNat_natCast, t4, h4 _ (by omega)]
  have p1 := pn_pc (σ 102 (2 * g))
  have p2 := pn_pc (σ 102 (2 * g + 1))
  have a : ∀ c, m / 2 ^ c < 2 ^ 43 := fun c => Nat.lt_of_le_of_lt (Nat.div_le_self _ _) hm
  refine Eq.trans s114 ?_
  have v : f114 τ m g = rbM (σ 102) g m := by
    unfold f114 rbM
    rw [e0, e1, f319_pc (a := σ 102 (2 * g)) (by omega) (by omega), p1.1]
    by_cases z : σ 102 (2 * g + 1) ≠ 0
    · rw [if_pos z, if_pos (by omega), if_pos z, f319_pc (a := σ 102 (2 * g + 1)) (by omega) (by omega), p2.1, lushr_nat (by omega) (by omega), lushr_nat (by omega) (by omega)]
      exact lor_nat (by have := a (pn (σ 102 (2 * g))); omega) (by have := a (pn (σ 102 (2 * g + 1))); omega)
    · rw [if_neg z, if_neg (by omega), if_neg z, lushr_nat (by omega) (by omega)]
  rw [v]
theorem isum_rn {f : Nat → Int} {B : Int} : ∀ n : Nat, (∀ i, i < n → 0 ≤ f i ∧ f i ≤ B) → 0 ≤ isum f n ∧ isum f n ≤ B * n
  | 0, _ => by simp [isum]
  | n + 1, h => by
    have h1 := isum_rn n (fun i hi => h i (by omega))
    have h2 := h n (by omega)
    unfold isum
    have e : B * ((n + 1 : Nat) : Int) = B * n + B := by
      rw [Int.natCast_add, Int.mul_add]
      simp
    rw [e]
    omega
theorem mul_rg {x y A B : Int} (h1 : 0 ≤ x) (h2 : x ≤ A) (h3 : 0 ≤ y) (h4 : y ≤ B) : 0 ≤ x * y ∧ x * y ≤ A * B := ⟨Int.mul_nonneg h1 h3, Int.mul_le_mul h2 h4 h3 (by omega)⟩
/-- countBehind -/
theorem s119 (hF : Cform σ) (c : numC σ τ) (ht : tlsOk (σ 102) τ 5) (hg : GI (σ 102) τ 10) : ∀ (b : Nat), b ≤ 4 → ∀ (S : Nat → Prop) (m : Nat), mkL S m → m < 2 ^ 43 → ∀ d, Ev X (d + b + 2) 119 0 [some (vr 96), some (vl m), none, some (vi b), none, none] [] SH τ = some (some (vi (ctB (σ 102) b S)), SH, τ) := by
  obtain ⟨G, g1, g2, g3, g4, g5⟩ := hg
  intro b
  induction b with
  | zero =>
    intro _ S m hS hm d
    have s1 := s115R (X := X) ht (b := 0) (by omega) hS hm
    have e : ceI (σ 102) 0 S = ctB (σ 102) 0 S := by
      unfold ceI ctB
      rw [TL_0]
      by_cases z : S 0
      · rw [if_pos z, if_pos ⟨0, z, rfl⟩]
      · rw [if_neg z, if_neg (fun ⟨t, a, b⟩ => z (by rw [← b]; exact a))]
    rw [e] at s1
    refine Eq.trans b119_0 ?_
    refine x_bind (s1 _) ?_
    dsimp only
    refine Eq.trans b119_6 ?_
    by_cases z : S 0
    · have v : ctB (σ 102) 0 S = 1 := if_pos z
      rw [v, if_pos (by decide)]
      refine Eq.trans b119_11 ?_
      rw [if_neg (by decide), b119_15]
    · have v : ctB (σ 102) 0 S = 0 := if_neg z
      rw [v, if_neg (by decide), b119_9]
  | succ b ih =>
    intro hb S m hS hm d
    have s1 := s115R (X := X) ht (b := b + 1) (by omega) hS hm
    refine Eq.trans b119_0 ?_
    refine x_bind (s1 _) ?_
    dsimp only
    refine Eq.trans b119_6 ?_
    by_cases z : ∃ t, S t ∧ TL (σ 102) (b + 1) t
    · have v : ceI (σ 102) (b + 1) S = 1 := if_pos z
      rw [v, if_pos (by decide)]
      refine Eq.trans b119_11 ?_
      rw [if_pos (by omega)]
      refine Eq.trans b119_17 ?_
      have p4 : 10 ^ b ≤ 100000 := p10 (by omega)
      have tot := g5 (fun g => ctB (σ 102) b (RB2 (σ 102) g S)) (fun g g' _ _ hk => by rw [KN_RB hk])
      have rg : ∀ i, i < G → 0 ≤ τ 99 i * ctB (σ 102) b (RB2 (σ 102) (τ 98 i).toNat S) ∧ τ 99 i * ctB (σ 102) b (RB2 (σ 102) (τ 98 i).toNat S) ≤ 1000000 := by
        intro i hi
        have q1 := g4 i hi
        have q2 := ctB_rg (w := σ 102) b (RB2 (σ 102) (τ 98 i).toNat S)
        have := mul_rg (A := 10) (B := 100000) q1.1 (by omega) q2.1 (by omega)
        omega
      have lp : ∀ (q i : Nat), i + q = G → ∀ d, Ev X (d + (b + 1) + 2) 119 23 [some (vr 96), some (vl m), none, some (vi ((b + 1 : Nat) : Int)), some (vi (isum (fun j => τ 99 j * ctB (σ 102) b (RB2 (σ 102) (τ 98 j).toNat S)) i)), some (vi i)] [] SH τ = some (some (vi (isum (fun j => τ 99 j * ctB (σ 102) b (RB2 (σ 102) (τ 98 j).toNat S)) G)), SH, τ) := by
        intro q
        induction q with
        | zero =>
          intro i e d
          obtain rfl : i = G := by omega
          rw [b119_23, if_pos (by omega), b119_70]
        | succ q ihq =>
          intro i e d
          obtain ⟨x, x1, x2⟩ := g3 i (by omega)
          have nx := ihq (i + 1) (by omega) d
          have r1 := rg i (by omega)
          have r2 := isum_rn (f := fun j => τ 99 j * ctB (σ 102) b (RB2 (σ 102) (τ 98 j).toNat S)) (B := 1000000) i (fun j hj => rg j (by omega))
          rw [isum] at nx
          rw [x2, Int.toNat_natCast] at r1 nx
          have c1 := s114N (X := X) hF c (g := x) x1 hm
          have c2 := ih (by omega) (RB2 (σ 102) x S) (rbM (σ 102) x m) (rbM_S hS) (rbM_lt hm) d
          have x3 : xsub ((b + 1 : Nat) : Int) 1 = (b : Int) := by rw [xsub_eq (by omega) (by omega)]; omega
          rw [b119_23, if_neg (by omega)]
          refine Eq.trans (b119_32 (d := d + b + 2) (by omega)) ?_
          rw [Int.toNat_natCast, x2]
          refine x_bind (c1 (d + b + 1)) ?_
          dsimp only
          refine Eq.trans (b119_54 (d := d + b + 2)) ?_
          rw [x3]
          refine x_bind c2 ?_
          dsimp only
          refine Eq.trans b119_60 ?_
          have m1 : xmul (τ 99 i) (ctB (σ 102) b (RB2 (σ 102) x S)) = τ 99 i * ctB (σ 102) b (RB2 (σ 102) x S) := xmul_eq (by omega) (by omega)
          rw [m1, xadd_eq (by omega) (by omega), xadd_eq (by omega) (by omega)]
          exact nx
      refine Eq.trans (lp G 0 (by omega) d) ?_
      rw [tot]
      rfl
    · have v : ceI (σ 102) (b + 1) S = 0 := if_neg z
      rw [v, if_neg (by decide), b119_9, ctB_no (b + 1) S z]
theorem isum_ad {f : Nat → Int} {m : Nat} : ∀ n, isum f (m + n) = isum f m + isum (fun i => f (m + i)) n
  | 0 => by simp [isum]
  | n + 1 => by
    rw [← Nat.add_assoc, isum, isum, isum_ad n]
    omega
theorem isum_sp {f : Nat → Int} {k : Nat} : ∀ n, isum f (n * k) = isum (fun i => isum (fun j => f (i * k + j)) k) n
  | 0 => by simp [isum]
  | n + 1 => by
    rw [Nat.add_mul, Nat.one_mul, isum_ad, isum_sp n, isum]
theorem dgl_mod {n n' b : Nat} (h : n % 10 ^ b = n' % 10 ^ b) : dgl n b = dgl n' b := by
  have := dgl_val (dgl n' b) (dgl_lt n' b) n (by rw [dgl_len, val_dgl]; exact h)
  rw [dgl_len] at this
  exact this
theorem dgl_blk {g n b : Nat} (hg : g < 10) (hn : n < 10 ^ b) : dgl (g * 10 ^ b + n) (b + 1) = g :: dgl n b := by
  have p : 0 < 10 ^ b := Nat.pow_pos (by decide)
  have e1 : (g * 10 ^ b + n) / 10 ^ b = g := by
    rw [Nat.mul_comm, Nat.mul_add_div p, Nat.div_eq_of_lt hn, Nat.add_zero]
  have e2 : (g * 10 ^ b + n) % 10 ^ b = n % 10 ^ b := by
    rw [Nat.mul_comm, Nat.mul_add_mod]
  rw [dgl, e1, Nat.mod_eq_of_lt hg, dgl_mod e2]
theorem inS_cons {g : Nat} {gs : List Nat} : inS w S (g :: gs) = inS w (RB2 w g S) gs := by
  have e : (∃ t, S t ∧ Ly w (g :: gs) t) ↔ ∃ t, RB2 w g S t ∧ Ly w gs t := by
    constructor
    · rintro ⟨t, h1, s, h2, h3, h4⟩
      exact ⟨t - s, ⟨s, h2, by rw [show t - s + s = t by omega]; exact h1⟩, h4⟩
    · rintro ⟨t, ⟨s, h2, h3⟩, h4⟩
      exact ⟨t + s, h3, s, h2, by omega, by rw [show t + s - s = t by omega]; exact h4⟩
  unfold inS
  by_cases z : ∃ t, S t ∧ Ly w (g :: gs) t
  · rw [if_pos z, if_pos (e.mp z)]
  · rw [if_neg z, if_neg (fun y => z (e.mpr y))]
theorem ct_blk {g : Nat} (hg : g < 10) : isum (fun n => inS w S (dgl (g * 10 ^ b + n) (b + 1))) (10 ^ b) = isum (fun n => inS w (RB2 w g S) (dgl n b)) (10 ^ b) := isum_congr _ (fun n hn => by rw [dgl_blk hg hn, inS_cons])
theorem ct_n : ∀ (b : Nat) (S : Nat → Prop), isum (fun n => inS w S (dgl n b)) (10 ^ b) = ctB w b S
  | 0, S => by
    show isum (fun n => inS w S (dgl n 0)) 1 = _
    unfold isum isum
    rw [Int.zero_add]
    unfold inS ctB
    by_cases z : S 0
    · rw [if_pos z, if_pos ⟨0, z, rfl⟩]
    · rw [if_neg z, if_neg (fun ⟨t, a, b⟩ => z (by have : t = 0 := b; rw [← this]; exact a))]
  | b + 1, S => by
    rw [Nat.pow_succ, Nat.mul_comm, isum_sp]
    unfold ctB
    exact isum_congr 10 (fun g hg => by rw [ct_blk hg, ct_n b])
theorem lyI_inS {ds : List Nat} : lyI w ds s = inS w (fun t => t = s) ds := by
  have e : (∃ t, t = s ∧ Ly w ds t) ↔ Ly w ds s := ⟨fun ⟨t, a, b⟩ => by rw [← a]; exact b, fun h => ⟨s, rfl, h⟩⟩
  unfold lyI inS
  by_cases z : Ly w ds s
  · rw [if_pos z, if_pos (e.mpr z)]
  · rw [if_neg z, if_neg (fun y => z (e.mp y))]
/-- how many numbers, by their first digits -/
noncomputable def nbrs (w : Nat → Int) (s f : Nat) : Int := isum (fun i => ctB w (f - 1) (RB2 w ((if f = 1 then 0 else 1) + i) (fun t => t = s))) (10 - (if f = 1 then 0 else 1))
theorem cnt_all (hf : 1 ≤ f) : isum (fun i => lyI w (dgl (loN f + i) f) s) (10 ^ f - loN f) = nbrs w s f := by
  obtain ⟨k, rfl⟩ : ∃ k, f = k + 1 := ⟨f - 1, by omega⟩
  have ei : ∀ n, lyI w (dgl n (k + 1)) s = inS w (fun t => t = s) (dgl n (k + 1)) := fun n => lyI_inS
  have al : isum (fun n => inS w (fun t => t = s) (dgl n (k + 1))) (10 ^ (k + 1)) = isum (fun g => ctB w k (RB2 w g (fun t => t = s))) 10 := ct_n (k + 1) _
  unfold nbrs loN
  rw [Nat.add_sub_cancel]
  by_cases z : k + 1 = 1
  · rw [if_pos z, if_pos z]
    simp only [Nat.zero_add, Nat.sub_zero]
    rw [← al]
    exact isum_congr _ (fun i _ => ei i)
  · rw [if_neg z, if_neg z]
    have le : 10 ^ k ≤ 10 ^ (k + 1) := Nat.pow_le_pow_right (by decide) (by omega)
    have e1 := isum_ad (f := fun n => inS w (fun t => t = s) (dgl n (k + 1))) (m := 10 ^ k) (10 ^ (k + 1) - 10 ^ k)
    rw [show 10 ^ k + (10 ^ (k + 1) - 10 ^ k) = 10 ^ (k + 1) by omega, al] at e1
    have e2 : isum (fun n => inS w (fun t => t = s) (dgl n (k + 1))) (10 ^ k) = ctB w k (RB2 w 0 (fun t => t = s)) := by
      rw [← ct_n k, ← ct_blk (g := 0) (by decide)]
      exact isum_congr _ (fun n _ => by rw [Nat.zero_mul, Nat.zero_add])
    have e3 := isum_ad (f := fun g => ctB w k (RB2 w g (fun t => t = s))) (m := 1) 9
    have e4 : isum (fun g => ctB w k (RB2 w g (fun t => t = s))) 1 = ctB w k (RB2 w 0 (fun t => t = s)) := by
      unfold isum isum
      rw [Int.zero_add]
    have e5 : isum (fun i => lyI w (dgl (10 ^ k + i) (k + 1)) s) (10 ^ (k + 1) - 10 ^ k) = isum (fun i => inS w (fun t => t = s) (dgl (10 ^ k + i) (k + 1))) (10 ^ (k + 1) - 10 ^ k) := isum_congr _ (fun i _ => ei _)
    rw [e5]
    show _ = isum (fun i => ctB w k (RB2 w (1 + i) (fun t => t = s))) 9
    rw [show (1 + 9 : Nat) = 10 from rfl] at e3
    omega
theorem nbr_rg (hf5 : f ≤ 5) : ∀ j, j ≤ 10 → 0 ≤ isum (fun i => ctB w (f - 1) (RB2 w ((if f = 1 then 0 else 1) + i) (fun t => t = s))) j ∧ isum (fun i => ctB w (f - 1) (RB2 w ((if f = 1 then 0 else 1) + i) (fun t => t = s))) j ≤ 1000000 := by
  intro j hj
  have p := p10 (k := f - 1) (by omega)
  have := isum_rn (f := fun i => ctB w (f - 1) (RB2 w ((if f = 1 then 0 else 1) + i) (fun t => t = s))) (B := 100000) j (fun i _ => by
    have := ctB_rg (w := w) (f - 1) (RB2 w ((if f = 1 then 0 else 1) + i) (fun t => t = s))
    omega)
  omega
/-- countNumbers -/
theorem s116 (hF : Cform σ) (hf : 1 ≤ f) (hf5 : f ≤ 5) (hs : 1 ≤ s) (hs2 : s ≤ 35) : ∃ τ, numC σ τ ∧ ∀ d, Ev X (d + 8) 116 0 [some (vr 96), some (vi s), some (vi f), none, none] [] SH σ = some (some (vi (nbrs (σ 102) s f)), SH, τ) := by
  obtain ⟨τ1, t1, c1, t3⟩ := s112 (X := X) hF
  obtain ⟨τ, c, c2, hgi, t5⟩ := s117 (X := X) (τ := τ1) hF (chg_mo rfl c1)
  have ht : tlsOk (σ 102) τ 5 := by
    intro j hj
    obtain ⟨m, h1, h2⟩ := t3 j hj
    exact ⟨m, by rw [chg_row c2 (k := 97) (fun _ => rfl) rfl]; exact h1, h2⟩
  have p35 : 2 ^ s < 2 ^ 43 := Nat.pow_lt_pow_right (by decide) (by omega)
  have l1 := lshl_nat (a := 1) (k := s) (by omega) (by omega)
  have l1 : lshl' 1 (s : Int) = _ := l1
  rw [Nat.one_mul] at l1
  have hS : mkL (fun t => t = s) (2 ^ s) := fun t => by rw [Nat.testBit_two_pow, decide_eq_true_eq]; exact eq_comm
  have xf1 : xsub (f : Int) 1 = ((f - 1 : Nat) : Int) := by rw [xsub_eq (by omega) (by omega)]; omega
  have lp : ∀ (q i : Nat), i + q = 10 - (if f = 1 then 0 else 1) → ∀ d, Ev X (d + 8) 116 32 [some (vr 96), some (vi s), some (vi f), some (vi (isum (fun i => ctB (σ 102) (f - 1) (RB2 (σ 102) ((if f = 1 then 0 else 1) + i) (fun t => t = s))) i)), some (vi (((if f = 1 then 0 else 1) + i : Nat) : Int))] [] SH τ = some (some (vi (nbrs (σ 102) s f)), SH, τ) := by
    intro q
    induction q with
    | zero =>
      intro i e d
      have ei : i = 10 - (if f = 1 then 0 else 1) := by omega
      subst ei
      rw [b116_32, if_pos (by split <;> omega), b116_64]
      rfl
    | succ q ih =>
      intro i e d
      have nx := ih (i + 1) (by omega) d
      have g10 : (if f = 1 then 0 else 1) + i < 10 := by
        revert e
        split <;> omega
      have r1 := nbr_rg (w := σ 102) (s := s) hf5 i (by omega)
      have r2 := nbr_rg (w := σ 102) (s := s) hf5 (i + 1) (by omega)
      rw [isum] at nx r2
      generalize hg : (if f = 1 then 0 else 1) + i = g at *
      have c3 := s114N (X := X) hF c (g := g) g10 p35
      have c4 := s119 (X := X) hF c ht hgi (f - 1) (by omega) (RB2 (σ 102) g (fun t => t = s)) (rbM (σ 102) g (2 ^ s)) (rbM_S hS) (rbM_lt p35) (d + 7 - (f - 1) - 2)
      rw [show d + 7 - (f - 1) - 2 + (f - 1) + 2 = d + 7 by omega] at c4
      rw [b116_32, if_neg (by omega)]
      refine Eq.trans (b116_39 (d := d + 7)) ?_
      rw [l1]
      refine x_bind (c3 (d + 6)) ?_
      dsimp only
      refine Eq.trans (b116_50 (d := d + 7)) ?_
      rw [xf1]
      refine x_bind c4 ?_
      dsimp only
      refine Eq.trans b116_56 ?_
      rw [xadd_eq (by omega) (by omega), xadd_eq (by omega) (by omega)]
      rw [show (if f = 1 then 0 else 1) + (i + 1) = g + 1 by omega] at nx
      exact nx
  refine ⟨τ, c, fun d => ?_⟩
  have s111' := fun d => s111 (X := X) (d := d) (σ := σ) (a0 := (s : Int)) (a1 := (f : Int))
  have v : f111 σ s f = 1 := by
    unfold f111
    rw [if_neg (by omega), if_neg (by omega), if_neg (by omega), if_neg (by omega)]
  rw [v] at s111'
  have l0 := lp (10 - (if f = 1 then 0 else 1)) 0 (by omega) d
  refine Eq.trans b116_0 ?_
  refine x_bind (s111' _) ?_
  dsimp only
  refine Eq.trans b116_5 ?_
  rw [if_pos (by decide)]
  refine Eq.trans b116_10 ?_
  refine x_bind (t1 (d + 5)) ?_
  dsimp only
  refine Eq.trans b116_14 ?_
  refine x_bind (t5 (d + 5)) ?_
  dsimp only
  refine Eq.trans b116_18 ?_
  by_cases z : f = 1
  · rw [if_pos z] at l0
    rw [if_pos (by omega), b116_29, b116_30]
    exact l0
  · rw [if_neg z] at l0
    rw [if_neg (by omega), b116_25, b116_30]
    exact l0
theorem it291 (hW : WF (σ 102)) (hf : 1 ≤ f) (hf5 : f ≤ 5) (hs2 : s ≤ 35) : ∀ (q i : Nat), i + q = 10 ^ f - loN f → ∀ d, Ev X (d + 2) 291 29 [some (vr 100), some (vi s), some (vi f), some (vi (isum (fun i => lyI (σ 102) (dgl (loN f + i) f) s) i)), some (vi ((loN f + i : Nat) : Int))] [] SH σ = some (some (vi (isum (fun i => lyI (σ 102) (dgl (loN f + i) f) s) (10 ^ f - loN f))), SH, σ) := by
  have pw := s289 (X := X) (σ := σ) hf5
  have p5 := p10 hf5
  have ll := loN_le hf
  intro q
  induction q with
  | zero =>
    intro i e d
    have ei : i = 10 ^ f - loN f := by omega
    subst ei
    refine Eq.trans b291_29 ?_
    refine x_bind (pw _) ?_
    dsimp only
    refine Eq.trans b291_35 ?_
    rw [if_pos (by omega), b291_63]
  | succ q ih =>
    intro i e d
    have nx := ih (i + 1) (by omega) d
    have s1 := s290 (X := X) (n := loN f + i) hW hf5 (by omega) hs2
    have l01 : ∀ n, 0 ≤ lyI (σ 102) (dgl n f) s ∧ lyI (σ 102) (dgl n f) s ≤ 1 := by
      intro n
      unfold lyI
      split <;> omega
    have r := isum_rn (f := fun i => lyI (σ 102) (dgl (loN f + i) f) s) (B := 1) i (fun j _ => l01 _)
    rw [isum] at nx
    refine Eq.trans b291_29 ?_
    refine x_bind (pw _) ?_
    dsimp only
    refine Eq.trans b291_35 ?_
    rw [if_neg (by omega)]
    refine Eq.trans b291_38 ?_
    refine x_bind (s1 d) ?_
    dsimp only
    refine Eq.trans b291_47 ?_
    have la := l01 (loN f + i)
    by_cases y : lyI (σ 102) (dgl (loN f + i) f) s = 0
    · rw [y] at nx
      rw [if_pos y, b291_54, b291_55, xadd_eq (by omega) (by omega), xadd_eq (by omega) (by omega)]
      exact nx
    · have y1 : lyI (σ 102) (dgl (loN f + i) f) s = 1 := by omega
      rw [y1] at nx
      rw [if_neg y, b291_50, b291_55, xadd_eq (by omega) (by omega), xadd_eq (by omega) (by omega)]
      exact nx
theorem s291 (hW : WF (σ 102)) (hf : 1 ≤ f) (hf5 : f ≤ 5) (hs : 1 ≤ s) (hs2 : s ≤ 35) : ∀ d, Ev X (d + 3) 291 0 [some (vr 100), some (vi s), some (vi f), none, none] [] SH σ = some (some (vi (nbrs (σ 102) s f)), SH, σ) := by
  have lp := it291 (X := X) (σ := σ) (s := s) hW hf hf5 hs2 (10 ^ f - loN f) 0 (by omega)
  rw [cnt_all hf, Nat.add_zero] at lp
  intro d
  have s288' := fun d => s288 (X := X) (d := d) (σ := σ) (a0 := (s : Int)) (a1 := (f : Int))
  have v : f288 σ s f = 1 := by
    unfold f288
    rw [if_neg (by omega), if_neg (by omega), if_neg (by omega), if_neg (by omega)]
  rw [v] at s288'
  refine Eq.trans b291_0 ?_
  refine x_bind (s288' (d + 2)) ?_
  dsimp only
  refine Eq.trans b291_5 ?_
  rw [if_pos (by decide), b291_10]
  by_cases z : f = 1
  · have l0 : loN f = 0 := if_pos z
    rw [l0] at lp
    rw [if_neg (by omega), b291_17, b291_27]
    exact lp (d + 1)
  · have l0 : loN f = 10 ^ (f - 1) := if_neg z
    rw [l0] at lp
    have pw := s289 (X := X) (σ := σ) (f := f - 1) (by omega)
    have x1 : xsub (f : Int) 1 = ((f - 1 : Nat) : Int) := by rw [xsub_eq (by omega) (by omega)]; omega
    rw [if_pos (by omega)]
    refine Eq.trans b291_21 ?_
    rw [x1]
    refine x_bind (pw _) ?_
    dsimp only
    refine Eq.trans b291_27 ?_
    exact lp (d + 1)
theorem pr_numbers {c : Int} (h : Core σ) : Pair X 41 291 [some (vr 0), some (vi a), some (vi c)] [some (vr 100), some (vi a), some (vi c), none, none] σ (Post σ) := by
  by_cases ok : 1 ≤ a ∧ a ≤ 35 ∧ 1 ≤ c ∧ c ≤ 5
  · obtain ⟨s, rfl⟩ : ∃ s : Nat, a = s := ⟨a.toNat, by omega⟩
    obtain ⟨f, rfl⟩ : ∃ f : Nat, c = f := ⟨c.toNat, by omega⟩
    obtain ⟨τ, cc, r⟩ := s116 (X := X) (s := s) (f := f) h.2.1 (by omega) (by omega) (by omega) (by omega)
    have t102 : τ 102 = σ 102 := chg_row cc (fun _ => rfl) rfl
    have r' := s291 (X := X) (σ := τ) (s := s) (f := f) (by rw [t102]; exact h.2.1.2.1) (by omega) (by omega) (by omega) (by omega)
    rw [t102] at r'
    refine ⟨_, τ, τ, fun d => ?_, fun d => r' (d + 97), Post_sc h (chg_mo rfl cc)⟩
    simp (disch := first | omega | assumption | (simp (disch := omega) only [ite_self, Int.reduceAdd, xadd_eq, xsub_eq, xmul_eq, xneg_eq, xwr_eq, xwr_nk, xwr_nj, Int.toNat_natCast, x_nc] <;> first | omega | assumption) | fail) only [↓if_pos, ↓if_neg, ↓b41_0, ↓b41_9, ↓r, x_bdi, x_bdn, ite_self, Int.reduceAdd, xadd_eq, xsub_eq, xmul_eq, xneg_eq, xwr_eq, xwr_nk, xwr_nj, Int.toNat_natCast, x_nc]
  · have v : f111 σ a c = 0 := by
      unfold f111
      repeat' split
      all_goals omega
    have v2 : f288 σ a c = 0 := by
      unfold f288
      repeat' split
      all_goals omega
    have s111' := fun d => s111 (X := X) (d := d) (σ := σ) (a0 := a) (a1 := c)
    have s288' := fun d => s288 (X := X) (d := d) (σ := σ) (a0 := a) (a1 := c)
    rw [v] at s111'
    rw [v2] at s288'
    refine Pair_q0 (r := -1) (r' := -1) h (fun d => ?_) (fun d => ?_) rfl
    · simp (disch := first | omega | assumption | (simp (disch := omega) only [ite_self, Int.reduceAdd, xadd_eq, xsub_eq, xmul_eq, xneg_eq, xwr_eq, xwr_nk, xwr_nj, Int.toNat_natCast, x_nc] <;> first | omega | assumption) | fail) only [↓if_pos, ↓if_neg, ↓b41_0, ↓b41_9, ↓b116_0, ↓b116_5, ↓b116_10, ↓b116_8, ↓b116_14, ↓b116_18, ↓b116_29, ↓b116_25, ↓b116_30, ↓b116_64, ↓b116_39, ↓b116_50, ↓b116_56, ↓s111', x_bdi, x_bdn, ite_self, Int.reduceAdd, xadd_eq, xsub_eq, xmul_eq, xneg_eq, xwr_eq, xwr_nk, xwr_nj, Int.toNat_natCast, x_nc]
    · simp (disch := first | omega | assumption | (simp (disch := omega) only [ite_self, Int.reduceAdd, xadd_eq, xsub_eq, xmul_eq, xneg_eq, xwr_eq, xwr_nk, xwr_nj, Int.toNat_natCast, x_nc] <;> first | omega | assumption) | fail) only [↓if_pos, ↓if_neg, ↓b291_0, ↓b291_5, ↓b291_10, ↓b291_8, ↓b291_21, ↓b291_17, ↓b291_27, ↓b291_35, ↓b291_63, ↓b291_38, ↓b291_47, ↓b291_54, ↓b291_50, ↓b291_55, ↓s288', x_bdi, x_bdn, ite_self, Int.reduceAdd, xadd_eq, xsub_eq, xmul_eq, xneg_eq, xwr_eq, xwr_nk, xwr_nj, Int.toNat_natCast, x_nc]
end PRL
