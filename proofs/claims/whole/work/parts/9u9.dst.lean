/-! how many sets of places differ from one in so many places -/
def pcN (n : Nat) : Nat := n % 2 + n / 2 % 2 + n / 4 % 2 + n / 8 % 2 + n / 16 % 2 + n / 32 % 2 + n / 64 % 2
def C7 (j : Nat) : Nat := ([1, 7, 21, 35, 35, 21, 7, 1] : List Nat).getD j 0
theorem dst_x : ∀ a, a < 128 → ∀ b, b < 128 → dfN ((a : Nat) : Int) ((b : Nat) : Int) + dfN ((b : Nat) : Int) ((a : Nat) : Int) = pcN (a ^^^ b) := by decide +kernel
theorem dst_c : ∀ a, a < 128 → ∀ j, j < 8 → (List.range 128).countP (fun v => decide (pcN (a ^^^ v) = j)) = C7 j := by decide +kernel
