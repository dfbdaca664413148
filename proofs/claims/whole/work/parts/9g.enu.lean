/-! WALKS: all ways through the cells, in order -/
theorem xshl_nat {a k : Nat} (hk : k < 32) (h : a * 2 ^ k < 2 ^ 31) : xshl (a : Int) (k : Int) = ((a * 2 ^ k : Nat) : Int) := by
  unfold xshl
  rw [xofn]
  have e := pk_shlN (n := a) (Int32.ofInt (k : Int) &&& 31) k (xsh31 k hk) (by omega)
  have e' : Int32.ofNat a <<< (Int32.ofInt (k : Int) &&& 31) = Int32.ofNat (a * 2 ^ k) := e
  rw [e']
  exact xton h
def upN (p : Nat → Nat) (c i : Nat) : Nat → Nat := fun j => if j = c then i else p j
def enumF (op : Nat → List Nat) : Nat → Nat → (Nat → Nat) → List (Nat → Nat)
  | 0, _, p => [p]
  | m + 1, c, p => (op c).flatMap (fun i => enumF op m (c + 1) (upN p c i))
/-- a sum over the first, and over those from one on -/
def nsum (f : Nat → Nat) : Nat → Nat
  | 0 => 0
  | n + 1 => nsum f n + f n
def sfx (f : Nat → Nat) : Nat → Nat → Nat
  | _, 0 => 0
  | c, m + 1 => f c + sfx f (c + 1) m
/-- the code of a way -/
def cdN (p : Nat → Nat) : Nat → Nat
  | 0 => 0
  | c + 1 => cdN p c + p c * 32 ^ c
section ENU
variable {op : Nat → List Nat}
theorem upN_at {p : Nat → Nat} {c i : Nat} : upN p c i c = i := if_pos rfl
theorem upN_ne {p : Nat → Nat} {c i j : Nat} (h : j ≠ c) : upN p c i j = p j := if_neg h
theorem nsum_sfx (f : Nat → Nat) : ∀ m c, nsum f (c + m) = nsum f c + sfx f c m
  | 0, c => rfl
  | m + 1, c => by
    rw [sfx, show c + (m + 1) = c + 1 + m by omega, nsum_sfx f m (c + 1), nsum]
    omega
theorem nsum_cg {f g : Nat → Nat} : ∀ n, (∀ i, i < n → f i = g i) → nsum f n = nsum g n
  | 0, _ => rfl
  | n + 1, e => by rw [nsum, nsum, nsum_cg n (fun i hi => e i (by omega)), e n (by omega)]
theorem cdN_cg {f g : Nat → Nat} : ∀ n, (∀ i, i < n → f i = g i) → cdN f n = cdN g n
  | 0, _ => rfl
  | n + 1, e => by rw [cdN, cdN, cdN_cg n (fun i hi => e i (by omega)), e n (by omega)]
theorem cdN_lt {p : Nat → Nat} : ∀ n, (∀ i, i < n → p i < 32) → cdN p n < 32 ^ n
  | 0, _ => by
    rw [cdN]
    decide
  | n + 1, e => by
    have a := cdN_lt n (fun i hi => e i (by omega))
    have b := e n (by omega)
    rw [cdN, Nat.pow_succ]
    have : p n * 32 ^ n ≤ 31 * 32 ^ n := Nat.mul_le_mul_right _ (by omega)
    omega
theorem cdN_at {p : Nat → Nat} : ∀ n c, c < n → (∀ i, i < n → p i < 32) → cdN p n / 32 ^ c % 32 = p c
  | 0, c, h, _ => absurd h (by omega)
  | n + 1, c, h, e => by
    have a := cdN_lt n (fun i hi => e i (by omega))
    rw [cdN]
    by_cases y : c = n
    · subst y
      rw [Nat.add_mul_div_right _ _ (Nat.pow_pos (by decide)), Nat.div_eq_of_lt a, Nat.zero_add, Nat.mod_eq_of_lt (e c (by omega))]
    · have q : p n * 32 ^ n = 32 ^ c * (32 * (p n * 32 ^ (n - c - 1))) := by
        have : 32 ^ n = 32 ^ c * (32 * 32 ^ (n - c - 1)) := by
          rw [← Nat.pow_succ', ← Nat.pow_add]
          congr 1
          omega
        rw [this]
        simp only [Nat.mul_comm, Nat.mul_left_comm]
      rw [q, Nat.add_mul_div_left _ _ (Nat.pow_pos (by decide)), Nat.add_mul_mod_self_left]
      exact cdN_at n c (by omega) (fun i hi => e i (by omega))
theorem mem_enumF : ∀ m c (p q : Nat → Nat), q ∈ enumF op m c p → (∀ j, j < c → q j = p j) ∧ (∀ j, c ≤ j → j < c + m → q j ∈ op j)
  | 0, c, p, q, h => by
    rw [enumF, List.mem_singleton] at h
    subst h
    exact ⟨fun _ _ => rfl, fun j h1 h2 => absurd h2 (by omega)⟩
  | m + 1, c, p, q, h => by
    rw [enumF, List.mem_flatMap] at h
    obtain ⟨i, hi, h⟩ := h
    obtain ⟨a, b⟩ := mem_enumF m (c + 1) _ q h
    refine ⟨fun j hj => ?_, fun j h1 h2 => ?_⟩
    · rw [a j (by omega), upN_ne (by omega)]
    · by_cases y : j = c
      · subst y
        rw [a j (by omega), upN_at]
        exact hi
      · exact b j (by omega) (by omega)
theorem sfx_cg {f g : Nat → Nat} : ∀ m c, (∀ i, c ≤ i → i < c + m → f i = g i) → sfx f c m = sfx g c m
  | 0, _, _ => rfl
  | m + 1, c, e => by rw [sfx, sfx, sfx_cg m (c + 1) (fun i h1 h2 => e i (by omega) (by omega)), e c (by omega) (by omega)]
/-- which costs (taken 4 t, laid l) can be paid from a cell on: all that ways have are there -/
def RCp (op : Nat → List Nat) (ct cl : Nat → Nat → Nat) (R : Nat) (c m : Nat) : Prop := R < 65536 ∧ ∀ p : Nat → Nat, (∀ j, c ≤ j → j < c + m → p j ∈ op j) → sfx (fun j => ct j (p j)) c m ≤ 3 → sfx (fun j => cl j (p j)) c m ≤ 3 → R.testBit (4 * sfx (fun j => ct j (p j)) c m + sfx (fun j => cl j (p j)) c m) = true
theorem rcp_0 {ct cl : Nat → Nat → Nat} {c : Nat} : RCp op ct cl 1 c 0 := ⟨by decide, fun p _ _ _ => by rw [sfx, sfx]; rfl⟩
def room (l : Nat) : Nat := if l = 0 then 65535 else if l = 1 then 30583 else if l = 2 then 13107 else 4369
theorem room_bit : ∀ l, l < 4 → ∀ T, T < 4 → ∀ L, L < 4 → L + l ≤ 3 → (room l).testBit (4 * T + L) = true := by decide
/-- one step of the sum of costs -/
theorem rc_or {H B t l T L : Nat} (hb : B.testBit (4 * T + L) = true) (h1 : T + t ≤ 3) (h2 : L + l ≤ 3) : (H ||| (((B &&& room l) * 2 ^ (4 * t + l)) &&& 65535)).testBit (4 * (T + t) + (L + l)) = true := by
  have r := room_bit l (by omega) T (by omega) L (by omega) h2
  have m : Nat.testBit 65535 (4 * (T + t) + (L + l)) = true := by
    have : ∀ x, x < 16 → Nat.testBit 65535 x = true := by decide
    exact this _ (by omega)
  rw [Nat.testBit_or, Nat.testBit_and, m, ← Nat.shiftLeft_eq, Nat.testBit_shiftLeft, Nat.testBit_and, show 4 * (T + t) + (L + l) - (4 * t + l) = 4 * T + L by omega, hb, r]
  simp
  omega
theorem rc_kp {H x b : Nat} (h : H.testBit b = true) : (H ||| x).testBit b = true := by
  rw [Nat.testBit_or, h]
  rfl
/-- all options of a cell were added -/
theorem rcp_st {ct cl : Nat → Nat → Nat} {B H c m : Nat} (hB : RCp op ct cl B (c + 1) m) (hH : H < 65536) (h : ∀ i, i ∈ op c → ∀ T L, T + ct c i ≤ 3 → L + cl c i ≤ 3 → B.testBit (4 * T + L) = true → H.testBit (4 * (T + ct c i) + (L + cl c i)) = true) : RCp op ct cl H c (m + 1) := by
  refine ⟨hH, fun p hp h1 h2 => ?_⟩
  rw [sfx] at h1 h2
  rw [sfx, sfx]
  have := h (p c) (hp c (by omega) (by omega)) (sfx (fun j => ct j (p j)) (c + 1) m) (sfx (fun j => cl j (p j)) (c + 1) m) (by omega) (by omega) (hB.2 p (fun j a b => hp j (by omega) (by omega)) (by omega) (by omega))
  rw [show ct c (p c) + sfx (fun j => ct j (p j)) (c + 1) m = sfx (fun j => ct j (p j)) (c + 1) m + ct c (p c) by omega, show cl c (p c) + sfx (fun j => cl j (p j)) (c + 1) m = sfx (fun j => cl j (p j)) (c + 1) m + cl c (p c) by omega]
  exact this
end ENU
