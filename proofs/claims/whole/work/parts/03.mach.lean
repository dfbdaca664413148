/-! A SMALL MACHINE over abstract cells: ints are Int, references are numbers of cells, the heap is a function; later it is shown to be followed by the real one -/
abbrev vi (i : Int) : xV := .inl (.inl i)
abbrev vl (i : Int) : xV := .inl (.inr i)
abbrev vr (k : Nat) : xV := .inr (.inl (some k))
abbrev vn : xV := .inr (.inl none)
abbrev vc (c : Nat) : xV := .inr (.inr c)
def xcat : xV → Nat
  | .inl (.inr _) => 2
  | _ => 1
def xcats (st : List xV) : Nat := (st.map xcat).sum
def xadd (a b : Int) : Int := (Int32.ofInt a + Int32.ofInt b).toInt
def xsub (a b : Int) : Int := (Int32.ofInt a - Int32.ofInt b).toInt
def xmul (a b : Int) : Int := (Int32.ofInt a * Int32.ofInt b).toInt
def xdiv (a b : Int) : Int := (Int32.ofInt a / Int32.ofInt b).toInt
def xrem (a b : Int) : Int := (Int32.ofInt a - Int32.ofInt a / Int32.ofInt b * Int32.ofInt b).toInt
def xneg (a : Int) : Int := (-Int32.ofInt a).toInt
def xand (a b : Int) : Int := (Int32.ofInt a &&& Int32.ofInt b).toInt
def xor' (a b : Int) : Int := (Int32.ofInt a ||| Int32.ofInt b).toInt
def xxor (a b : Int) : Int := (Int32.ofInt a ^^^ Int32.ofInt b).toInt
def xshl (a b : Int) : Int := (Int32.ofInt a <<< (Int32.ofInt b &&& 31)).toInt
def xshr (a b : Int) : Int := (Int32.ofInt a >>> (Int32.ofInt b &&& 31)).toInt
def xushr (a b : Int) : Int := (((Int32.ofInt a).toUInt32 >>> ((Int32.ofInt b).toUInt32 &&& Int32.toUInt32 31)).toInt32).toInt
def ladd' (a b : Int) : Int := (Int64.ofInt a + Int64.ofInt b).toInt
def lsub' (a b : Int) : Int := (Int64.ofInt a - Int64.ofInt b).toInt
def lmul' (a b : Int) : Int := (Int64.ofInt a * Int64.ofInt b).toInt
def land' (a b : Int) : Int := (Int64.ofInt a &&& Int64.ofInt b).toInt
def lor' (a b : Int) : Int := (Int64.ofInt a ||| Int64.ofInt b).toInt
def lshl' (a b : Int) : Int := (Int64.ofInt a <<< ((Int32.ofInt b).toInt64 &&& 63)).toInt
def lshr' (a b : Int) : Int := (Int64.ofInt a >>> ((Int32.ofInt b).toInt64 &&& 63)).toInt
def lushr' (a b : Int) : Int := (((Int64.ofInt a).toUInt64 >>> ((Int32.ofInt b).toInt64.toUInt64 &&& Int64.toUInt64 63)).toInt64).toInt
def lcmp' (a b : Int) : Int := if a < b then -1 else if a = b then 0 else 1
def xi2c (a : Int) : Int := (((Int32.ofInt a).toUInt32 % 65536).toInt32).toInt
def xi2b (a : Int) : Int := ((Int32.ofInt a).toInt8.toInt32).toInt
def xl2i (a : Int) : Int := ((Int64.ofInt a).toInt32).toInt
def xmax (x y : Int) : Int := if x < y then y else x
def xmin (x y : Int) : Int := if y < x then y else x
/-- one slot of one cell gets another value -/
def xwr (σ : xM) (k j : Nat) (x : Int) : xM := fun a b => if a = k ∧ b = j then x else σ a b
/-- a new cell -/
def xnew (σ : xM) (k : Nat) (f : Nat → Int) : xM := fun a b => if a = k then f b else σ a b
def xkill (o : Option xV) : Option xV := match o with
  | some (.inl (.inr _)) => none
  | o => o
def xclr (L : List (Option xV)) (i : Nat) : List (Option xV) := match i with
  | 0 => L
  | j + 1 => match L[j]? with
    | some o => L.set j (xkill o)
    | none => L
def xst1 (L : List (Option xV)) (i : Nat) (v : xV) : List (Option xV) := (xclr L i).set i (some v)
def xst2 (L : List (Option xV)) (i : Nat) (v : xV) : List (Option xV) := ((xclr L i).set i (some v)).set (i + 1) none
def xdec (t : Nat) (x : Int) : Option xV := match t with
  | 0 => some (vi x)
  | 1 => some (vi x)
  | 2 => some (vl x)
  | 4 => some (if x < 0 then vn else vc x.toNat)
  | _ => none
def xref (x : Int) : xV := .inr (.inl (if x < 0 then none else some x.toNat))
def xenr (v : xV) : Option Int := match v with
  | .inr (.inl none) => some (-1)
  | .inr (.inl (some k)) => some (k : Int)
  | _ => none
def xenc (t : Nat) (v : xV) : Option Int := match t, v with
  | 0, .inl (.inl x) => some x
  | 1, .inl (.inl x) => if x = 0 ∨ x = 1 then some x else none
  | 2, .inl (.inr x) => some x
  | 4, .inr (.inr c) => some (c : Int)
  | _, _ => none
abbrev xN : Type := Nat × List (Option xV) × List xV × List xSh × xM
def xbin (f : Int → Int → Int) (st : List xV) : Option (List xV) := match st with
  | .inl (.inl y) :: .inl (.inl x) :: r => some (vi (f x y) :: r)
  | _ => none
def xbinl (f : Int → Int → Int) (st : List xV) : Option (List xV) := match st with
  | .inl (.inr y) :: .inl (.inr x) :: r => some (vl (f x y) :: r)
  | _ => none
def xshf (f : Int → Int → Int) (st : List xV) : Option (List xV) := match st with
  | .inl (.inl y) :: .inl (.inr x) :: r => some (vl (f x y) :: r)
  | _ => none
def xun (f : Int → Int) (st : List xV) : Option (List xV) := match st with
  | .inl (.inl x) :: r => some (vi (f x) :: r)
  | _ => none
def xto (o : Option (List xV)) (pc : Nat) (L : List (Option xV)) (sh : List xSh) (σ : xM) : Option xN := match o with
  | some st => some (pc, L, st, sh, σ)
  | none => none
def xbr (c : ClassFile.Cond) (x y : Int) (a b : xN) : Option xN := match c with
  | .eq => if x = y then some a else some b
  | .ne => if x ≠ y then some a else some b
  | .lt => if x < y then some a else some b
  | .ge => if y ≤ x then some a else some b
  | .gt => if y < x then some a else some b
  | .le => if x ≤ y then some a else some b
/-- where a switch goes: the first pair with that key -/
def xlook (d : Int) (x : Int) : List (Int × Int) → Int
  | [] => d
  | (k, t) :: r => if x = k then t else xlook d x r
def xety (t : ArrayType) : Option Nat := match t with
  | .int => some 0
  | .boolean => some 1
  | .long => some 2
  | _ => none
def xst (b : Nat) : Option xV := if b ≤ 5 then some (vc b) else if b = 20 then some (vi 1) else if b = 21 then some (vc 98) else none
/-- one instruction that neither calls nor leaves -/
def xstep (X : Nat × (Nat → Int)) (mi pc : Nat) (L : List (Option xV)) (st : List xV) (sh : List xSh) (σ : xM) : Option xN :=
  match tb mi pc with
  | none => none
  | some (ins, a, b, n) => match ins with
    | .iconst v => some (pc + n, L, vi v :: st, sh, σ)
    | .sipush v => some (pc + n, L, vl v :: st, sh, σ)
    | .ldc c => some (pc + n, L, vc c :: st, sh, σ)
    | .aconst_null => some (pc + n, L, vn :: st, sh, σ)
    | .iload i => match L[i]? with
      | some (some (.inl (.inl x))) => some (pc + n, L, vi x :: st, sh, σ)
      | _ => none
    | .lload i => match L[i]? with
      | some (some (.inl (.inr x))) => some (pc + n, L, vl x :: st, sh, σ)
      | _ => none
    | .aload i => match L[i]? with
      | some (some (.inr r)) => some (pc + n, L, .inr r :: st, sh, σ)
      | _ => none
    | .istore i => match st with
      | .inl (.inl x) :: r => some (pc + n, xst1 L i (vi x), r, sh, σ)
      | _ => none
    | .lstore i => match st with
      | .inl (.inr x) :: r => some (pc + n, xst2 L i (vl x), r, sh, σ)
      | _ => none
    | .astore i => match st with
      | .inr (.inl q) :: r => some (pc + n, xst1 L i (.inr (.inl q)), r, sh, σ)
      | _ => none
    | .iinc i v => match L[i]? with
      | some (some (.inl (.inl x))) => some (pc + n, xst1 L i (vi (xadd x v)), st, sh, σ)
      | _ => none
    | .iadd => xto (xbin xadd st) (pc + n) L sh σ
    | .isub => xto (xbin xsub st) (pc + n) L sh σ
    | .imul => xto (xbin xmul st) (pc + n) L sh σ
    | .iand => xto (xbin xand st) (pc + n) L sh σ
    | .ior => xto (xbin xor' st) (pc + n) L sh σ
    | .ixor => xto (xbin xxor st) (pc + n) L sh σ
    | .ishl => xto (xbin xshl st) (pc + n) L sh σ
    | .ishr => xto (xbin xshr st) (pc + n) L sh σ
    | .iushr => xto (xbin xushr st) (pc + n) L sh σ
    | .idiv => match st with
      | .inl (.inl y) :: .inl (.inl x) :: r => if y = 0 then none else some (pc + n, L, vi (xdiv x y) :: r, sh, σ)
      | _ => none
    | .irem => match st with
      | .inl (.inl y) :: .inl (.inl x) :: r => if y = 0 then none else some (pc + n, L, vi (xrem x y) :: r, sh, σ)
      | _ => none
    | .ineg => xto (xun xneg st) (pc + n) L sh σ
    | .i2c => xto (xun xi2c st) (pc + n) L sh σ
    | .i2b => xto (xun xi2b st) (pc + n) L sh σ
    | .ladd => xto (xbinl ladd' st) (pc + n) L sh σ
    | .lsub => xto (xbinl lsub' st) (pc + n) L sh σ
    | .lmul => xto (xbinl lmul' st) (pc + n) L sh σ
    | .land => xto (xbinl land' st) (pc + n) L sh σ
    | .lor => xto (xbinl lor' st) (pc + n) L sh σ
    | .lshl => xto (xshf lshl' st) (pc + n) L sh σ
    | .lshr => xto (xshf lshr' st) (pc + n) L sh σ
    | .lushr => xto (xshf lushr' st) (pc + n) L sh σ
    | .lcmp => match st with
      | .inl (.inr y) :: .inl (.inr x) :: r => some (pc + n, L, vi (lcmp' x y) :: r, sh, σ)
      | _ => none
    | .i2l => match st with
      | .inl (.inl x) :: r => some (pc + n, L, vl x :: r, sh, σ)
      | _ => none
    | .l2i => match st with
      | .inl (.inr x) :: r => some (pc + n, L, vi (xl2i x) :: r, sh, σ)
      | _ => none
    | .dup => match st with
      | .inr q :: r => some (pc + n, L, .inr q :: .inr q :: r, sh, σ)
      | .inl (.inl x) :: r => some (pc + n, L, vi x :: vi x :: r, sh, σ)
      | _ => none
    | .pop => match st with
      | .inr _ :: r => some (pc + n, L, r, sh, σ)
      | .inl (.inl _) :: r => some (pc + n, L, r, sh, σ)
      | _ => none
    | .dup2 => match st with
      | .inl (.inl x) :: .inr q :: r => some (pc + n, L, vi x :: .inr q :: vi x :: .inr q :: r, sh, σ)
      | _ => none
    | .ifCond cn t => match st with
      | .inl (.inl x) :: r => xbr cn x 0 (t.toNat, L, r, sh, σ) (pc + n, L, r, sh, σ)
      | _ => none
    | .if_icmp cn t => match st with
      | .inl (.inl y) :: .inl (.inl x) :: r => xbr cn x y (t.toNat, L, r, sh, σ) (pc + n, L, r, sh, σ)
      | _ => none
    | .goto t => some (t.toNat, L, st, sh, σ)
    | .ifnull t => match st with
      | .inr (.inl none) :: r => some (t.toNat, L, r, sh, σ)
      | .inr (.inl (some _)) :: r => some (pc + n, L, r, sh, σ)
      | _ => none
    | .tableswitch dt lo hi ts => match st with
      | .inl (.inl x) :: r => if x < lo ∨ hi < x then some (dt.toNat, L, r, sh, σ) else some ((ts.getD (x - lo).toNat dt).toNat, L, r, sh, σ)
      | _ => none
    | .lookupswitch dt ps => match st with
      | .inl (.inl x) :: r => some ((xlook dt x ps.toList).toNat, L, r, sh, σ)
      | _ => none
    | .getfield _ => match st with
      | .inr (.inl (some k)) :: r => match sh[k]? with
        | some (.inl (ci, fs)) => if ci = a then (if xtc a b = 3 then (match fs[b]? with
            | some x => some (pc + n, L, xref x :: r, sh, σ)
            | none => none) else (match xdec (xtc a b) (σ k b) with
            | some v => some (pc + n, L, v :: r, sh, σ)
            | none => none)) else none
        | _ => none
      | .inr (.inr c) :: r => if a = 13 ∧ 10 ≤ c ∧ c < 23 then (if b = 0 then some (pc + n, L, vi 0 :: r, sh, σ) else if b = 1 then some (pc + n, L, vc (c + 30) :: r, sh, σ) else none) else none
      | _ => none
    | .putfield _ => match st with
      | v :: .inr (.inl (some k)) :: r => match sh[k]? with
        | some (.inl (ci, fs)) => if ci = a then (if xtc a b = 3 then (match xenr v with
            | some x => if b < fs.length then some (pc + n, L, r, sh.set k (.inl (ci, fs.set b x)), σ) else none
            | none => none) else (match xenc (xtc a b) v with
            | some x => some (pc + n, L, r, sh, xwr σ k b x)
            | none => none)) else none
        | _ => none
      | _ => none
    | .getstatic _ => match xst a with
      | some v => some (pc + n, L, v :: st, sh, σ)
      | none => none
    | .arraylength => match st with
      | .inr (.inr c) :: r => match xca X c with
        | some (_, m, _) => some (pc + n, L, vi m :: r, sh, σ)
        | none => none
      | _ => none
    | .iaload => match st with
      | .inl (.inl i) :: .inr (.inl (some k)) :: r => match sh[k]? with
        | some (.inr (0, m)) => if 0 ≤ i ∧ i < (m : Int) then some (pc + n, L, vi (σ k i.toNat) :: r, sh, σ) else none
        | _ => none
      | .inl (.inl i) :: .inr (.inr c) :: r => match xca X c with
        | some (0, m, f) => if 0 ≤ i ∧ i < (m : Int) then some (pc + n, L, vi (f i.toNat) :: r, sh, σ) else none
        | _ => none
      | _ => none
    | .baload => match st with
      | .inl (.inl i) :: .inr (.inl (some k)) :: r => match sh[k]? with
        | some (.inr (1, m)) => if 0 ≤ i ∧ i < (m : Int) then some (pc + n, L, vi (σ k i.toNat) :: r, sh, σ) else none
        | _ => none
      | .inl (.inl i) :: .inr (.inr c) :: r => match xca X c with
        | some (3, m, f) => if 0 ≤ i ∧ i < (m : Int) then some (pc + n, L, vi (f i.toNat) :: r, sh, σ) else none
        | _ => none
      | _ => none
    | .laload => match st with
      | .inl (.inl i) :: .inr (.inl (some k)) :: r => match sh[k]? with
        | some (.inr (2, m)) => if 0 ≤ i ∧ i < (m : Int) then some (pc + n, L, vl (σ k i.toNat) :: r, sh, σ) else none
        | _ => none
      | _ => none
    | .iastore => match st with
      | .inl (.inl x) :: .inl (.inl i) :: .inr (.inl (some k)) :: r => match sh[k]? with
        | some (.inr (0, m)) => if 0 ≤ i ∧ i < (m : Int) then some (pc + n, L, r, sh, xwr σ k i.toNat x) else none
        | _ => none
      | _ => none
    | .bastore => match st with
      | .inl (.inl x) :: .inl (.inl i) :: .inr (.inl (some k)) :: r => match sh[k]? with
        | some (.inr (1, m)) => if (0 ≤ i ∧ i < (m : Int)) ∧ (x = 0 ∨ x = 1) then some (pc + n, L, r, sh, xwr σ k i.toNat x) else none
        | _ => none
      | _ => none
    | .lastore => match st with
      | .inl (.inr x) :: .inl (.inl i) :: .inr (.inl (some k)) :: r => match sh[k]? with
        | some (.inr (2, m)) => if 0 ≤ i ∧ i < (m : Int) then some (pc + n, L, r, sh, xwr σ k i.toNat x) else none
        | _ => none
      | _ => none
    | .invokespecial _ => if a = 9999 then match st with
        | .inr (.inl (some _)) :: r => if xcats r ≤ 8 then some (pc + n, L, r, sh, σ) else none
        | _ => none
      else none
    | .invokestatic _ => match st with
      | .inl (.inl y) :: .inl (.inl x) :: r => if xcats r ≤ 8 then (if a = 9998 then some (pc + n, L, vi (xmax x y) :: r, sh, σ) else if a = 9997 then some (pc + n, L, vi (xmin x y) :: r, sh, σ) else none) else none
      | _ => none
    | .new _ => if a < 13 then some (pc + n, L, vr sh.length :: st, sh ++ [.inl (a, List.replicate (xnf a) (-1))], xnew σ sh.length (fun j => if xtc a j = 4 then -1 else 0)) else none
    | .newarray t => match st with
      | .inl (.inl m) :: r => match xety t with
        | some ety => if 0 ≤ m ∧ m < 65536 then some (pc + n, L, vr sh.length :: r, sh ++ [.inr (ety, m.toNat)], xnew σ sh.length (fun _ => 0)) else none
        | none => none
      | _ => none
    | _ => none
def xok (t : Option FieldType) (i : Int) : Bool := match t with
  | some .int => true
  | some .boolean => i == 0 || i == 1
  | some .char => decide (0 ≤ i ∧ i ≤ 65535)
  | some .byte => i == 0
  | _ => false
def xrt (mi : Nat) : Option FieldType := match MT mi with
  | some (_, _, _, r) => r
  | none => none
/-- an instruction that leaves the method -/
def xret (mi pc : Nat) (st : List xV) : Option (Option xV) :=
  match tb mi pc with
  | none => none
  | some (ins, _, _, _) => match ins with
    | .ireturn => match st with
      | [.inl (.inl i)] => if xok (xrt mi) i = true then some (some (vi i)) else none
      | _ => none
    | .lreturn => match st with
      | [.inl (.inr i)] => if xrt mi = some .long then some (some (vl i)) else none
      | _ => none
    | .areturn => match st with
      | [.inr (.inl q)] => (match xrt mi with
        | some (.object _) => some (some (.inr (.inl q)))
        | _ => none)
      | _ => none
    | .return_ => match st with
      | [] => if xrt mi = none then some none else none
      | _ => none
    | _ => none
/-- the first locals of a method, out of its arguments -/
def xloc : List xV → List (Option xV)
  | [] => []
  | .inl (.inr x) :: r => some (vl x) :: none :: xloc r
  | v :: r => some v :: xloc r
def xent (mi : Nat) (As : List xV) : List (Option xV) := match MT mi with
  | some (_, _, m, _) => xloc As ++ List.replicate (m - (xloc As).length) none
  | none => []
def xfits (mi : Nat) (As : List xV) : Bool := match MT mi with
  | some (_, _, m, _) => Nat.ble (xloc As).length m
  | none => false
/-- the class of a receiver -/
def xrc (sh : List xSh) (q : Option Nat ⊕ Nat) : Option Nat := match q with
  | .inl (some k) => match sh[k]? with
    | some (.inl (ci, _)) => some ci
    | _ => none
  | .inl none => none
  | .inr c => if 10 ≤ c ∧ c < 23 then some 13 else none
/-- a call: callee, its arguments, where it comes back, what is left on the stack -/
def xcall (mi pc : Nat) (st : List xV) (sh : List xSh) : Option (Nat × List xV × Nat × List xV) :=
  match tb mi pc with
  | none => none
  | some (ins, a, _, n) => match ins with
    | .invokestatic _ => if (st.drop (xnp a)).length + xnp a = st.length ∧ xcats (st.drop (xnp a)) ≤ 8 ∧ xfits a (st.take (xnp a)).reverse = true then some (a, (st.take (xnp a)).reverse, pc + n, st.drop (xnp a)) else none
    | .invokevirtual _ => match st.drop (xnp a) with
      | .inr q :: r => if xrc sh q = some (xoc a) ∧ xcats r ≤ 8 ∧ xfits a (.inr q :: (st.take (xnp a)).reverse) = true then some (a, .inr q :: (st.take (xnp a)).reverse, pc + n, r) else none
      | _ => none
    | .invokespecial _ => match st.drop (xnp a) with
      | .inr (.inl (some k)) :: r => if a ≠ 9999 ∧ xrc sh (.inl (some k)) = some (xoc a) ∧ xcats r ≤ 8 ∧ xfits a (vr k :: (st.take (xnp a)).reverse) = true then some (a, vr k :: (st.take (xnp a)).reverse, pc + n, r) else none
      | _ => none
    | _ => none
/-! ===== runs: with fuel and depth; then without fuel ===== -/
def xev (X : Nat × (Nat → Int)) : Nat → Nat → Nat → Nat → List (Option xV) → List xV → List xSh → xM → Option (Option xV × List xSh × xM)
  | 0, _, _, _, _, _, _, _ => none
  | f + 1, d, mi, pc, L, st, sh, σ => match xret mi pc st with
    | some v => some (v, sh, σ)
    | none => match xcall mi pc st sh with
      | some (mj, As, pc', r) => match d with
        | 0 => none
        | d + 1 => match xev X f d mj 0 (xent mj As) [] sh σ with
          | some (v, sh', σ') => xev X f (d + 1) mi pc' L (v.toList ++ r) sh' σ'
          | none => none
      | none => match xstep X mi pc L st sh σ with
        | some (pc', L', st', sh', σ') => xev X f d mi pc' L' st' sh' σ'
        | none => none
theorem xev_mono (X : Nat × (Nat → Int)) : ∀ (f d mi pc : Nat) (L : List (Option xV)) (st : List xV) (sh : List xSh) (σ : xM) (r : Option xV × List xSh × xM), xev X f d mi pc L st sh σ = some r → xev X (f + 1) d mi pc L st sh σ = some r
  | 0, d, mi, pc, L, st, sh, σ, r, h => by simp [xev] at h
  | f + 1, d, mi, pc, L, st, sh, σ, r, h => by
    rw [xev] at h ⊢
    cases h1 : xret mi pc st with
    | some v => rw [h1] at h; exact h
    | none =>
      rw [h1] at h
      dsimp only at h ⊢
      cases h2 : xcall mi pc st sh with
      | some q =>
        obtain ⟨mj, As, pc', r'⟩ := q
        rw [h2] at h
        dsimp only at h ⊢
        cases d with
        | zero => simp at h
        | succ d =>
          dsimp only at h ⊢
          cases h3 : xev X f d mj 0 (xent mj As) [] sh σ with
          | none => rw [h3] at h; simp at h
          | some q =>
            obtain ⟨v, sh', σ'⟩ := q
            rw [h3] at h
            rw [xev_mono X f d mj 0 (xent mj As) [] sh σ _ h3]
            exact xev_mono X f _ _ _ _ _ _ _ _ h
      | none =>
        rw [h2] at h
        dsimp only at h ⊢
        cases h3 : xstep X mi pc L st sh σ with
        | none => rw [h3] at h; simp at h
        | some q =>
          obtain ⟨pc', L', st', sh', σ'⟩ := q
          rw [h3] at h
          exact xev_mono X f _ _ _ _ _ _ _ _ h
theorem xev_le {X : Nat × (Nat → Int)} {f g d mi pc : Nat} {L : List (Option xV)} {st : List xV} {sh : List xSh} {σ : xM} {r : Option xV × List xSh × xM} (h : xev X f d mi pc L st sh σ = some r) (hg : f ≤ g) : xev X g d mi pc L st sh σ = some r := by
  induction hg with
  | refl => exact h
  | step _ ih => exact xev_mono _ _ _ _ _ _ _ _ _ _ ih
/-- the result of a run, if it comes to an end -/
noncomputable def Ev (X : Nat × (Nat → Int)) (d mi pc : Nat) (L : List (Option xV)) (st : List xV) (sh : List xSh) (σ : xM) : Option (Option xV × List xSh × xM) :=
  @dite _ (∃ r f, xev X f d mi pc L st sh σ = some r) (Classical.propDecidable _) (fun h => some h.choose) (fun _ => none)
theorem Ev_of {X : Nat × (Nat → Int)} {f d mi pc : Nat} {L : List (Option xV)} {st : List xV} {sh : List xSh} {σ : xM} {r : Option xV × List xSh × xM} (h : xev X f d mi pc L st sh σ = some r) : Ev X d mi pc L st sh σ = some r := by
  have hx : ∃ r f, xev X f d mi pc L st sh σ = some r := ⟨r, f, h⟩
  unfold Ev
  rw [dif_pos hx]
  obtain ⟨g, hg⟩ := hx.choose_spec
  have h1 := xev_le h (Nat.le_max_left f g)
  have h2 := xev_le hg (Nat.le_max_right f g)
  exact h2.symm.trans h1
theorem Ev_ex {X : Nat × (Nat → Int)} {d mi pc : Nat} {L : List (Option xV)} {st : List xV} {sh : List xSh} {σ : xM} {r : Option xV × List xSh × xM} (h : Ev X d mi pc L st sh σ = some r) : ∃ f, xev X f d mi pc L st sh σ = some r := by
  unfold Ev at h
  by_cases hx : ∃ r f, xev X f d mi pc L st sh σ = some r
  · rw [dif_pos hx] at h
    obtain ⟨g, hg⟩ := hx.choose_spec
    exact ⟨g, by rw [hg]; exact h⟩
  · rw [dif_neg hx] at h
    cases h
theorem opt_ext {α : Type} {a b : Option α} (h1 : ∀ r, a = some r → b = some r) (h2 : ∀ r, b = some r → a = some r) : a = b := by
  cases a with
  | some x => exact (h1 x rfl).symm
  | none => cases b with
    | none => rfl
    | some y => exact h2 y rfl
/-- behind one instruction -/
theorem Ev_step {X : Nat × (Nat → Int)} {d mi pc : Nat} {L : List (Option xV)} {st : List xV} {sh : List xSh} {σ : xM} {pc' : Nat} {L' : List (Option xV)} {st' : List xV} {sh' : List xSh} {σ' : xM} (h1 : xret mi pc st = none) (h2 : xcall mi pc st sh = none) (h : xstep X mi pc L st sh σ = some (pc', L', st', sh', σ')) : Ev X d mi pc L st sh σ = Ev X d mi pc' L' st' sh' σ' := by
  have key : ∀ f, xev X (f + 1) d mi pc L st sh σ = xev X f d mi pc' L' st' sh' σ' := fun f => by rw [xev, h1, h2, h]
  refine opt_ext (fun r hr => ?_) (fun r hr => ?_)
  · obtain ⟨f, hf⟩ := Ev_ex hr
    exact Ev_of (by rw [← key f]; exact xev_mono _ _ _ _ _ _ _ _ _ _ hf)
  · obtain ⟨f, hf⟩ := Ev_ex hr
    exact Ev_of (f := f + 1) (by rw [key f]; exact hf)
theorem Ev_ret {X : Nat × (Nat → Int)} {d mi pc : Nat} {L : List (Option xV)} {st : List xV} {sh : List xSh} {σ : xM} {v : Option xV} (h1 : xret mi pc st = some v) : Ev X d mi pc L st sh σ = some (v, sh, σ) := Ev_of (f := 1) (by rw [xev, h1])
theorem Ev_call {X : Nat × (Nat → Int)} {d mi pc : Nat} {L : List (Option xV)} {st : List xV} {sh : List xSh} {σ : xM} {mj pc' : Nat} {As r : List xV} (h1 : xret mi pc st = none) (h2 : xcall mi pc st sh = some (mj, As, pc', r)) : Ev X (d + 1) mi pc L st sh σ = (Ev X d mj 0 (xent mj As) [] sh σ).bind (fun q => Ev X (d + 1) mi pc' L (q.1.toList ++ r) q.2.1 q.2.2) := by
  refine opt_ext (fun t hr => ?_) (fun t hr => ?_)
  · obtain ⟨f, hf⟩ := Ev_ex hr
    cases f with
    | zero => simp [xev] at hf
    | succ f =>
      rw [xev, h1, h2] at hf
      dsimp only at hf
      cases h3 : xev X f d mj 0 (xent mj As) [] sh σ with
      | none => rw [h3] at hf; simp at hf
      | some q =>
        obtain ⟨v, sh', σ'⟩ := q
        rw [h3] at hf
        rw [Ev_of h3]
        exact Ev_of hf
  · obtain ⟨⟨v, sh', σ'⟩, h3, h4⟩ := Option.bind_eq_some_iff.mp hr
    obtain ⟨f, hf⟩ := Ev_ex h3
    obtain ⟨g, hg⟩ := Ev_ex h4
    refine Ev_of (f := max f g + 1) ?_
    rw [xev, h1, h2]
    dsimp only
    rw [xev_le hf (Nat.le_max_left f g)]
    exact xev_le hg (Nat.le_max_right f g)
