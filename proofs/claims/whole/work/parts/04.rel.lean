/-! what the small machine's cells are in the real heap; what its table says of the bytes and of the tables' words -/
def xgw : Cond → Bool
  | .fieldLinkNest .. => true
  | .methodLinkNest .. => true
  | w => goodWord w
theorem xgw_move {s U : State} (hW : s.WarmedH U.vm) {w : Cond} (hg : xgw w = true) {a : Array Value} (h : w.before a s = true) (a' : Array Value) : w.before a' U = true := by
  cases w <;> first
    | exact word_at hW (good_of_word hg) h
    | exact va_Nw.use rfl (va_Nw.warmF hW (va_Nw.of rfl h))
    | exact va_Nw.use rfl (va_Nw.warmM hW (va_Nw.of rfl h))
/-- an abstract value and a real one -/
def xVR (ws : va_W) (CA : Nat → Nat) : xV → Value → Prop
  | .inl (.inl i), v => ∃ x : Int32, v = .int x ∧ i = x.toInt
  | .inl (.inr i), v => ∃ x : Int64, v = .long x ∧ i = x.toInt
  | .inr (.inl none), v => v = .null
  | .inr (.inl (some k)), v => ∃ (a : Nat) (e : va_E), ws[k]? = some (a, e) ∧ v = .ref a
  | .inr (.inr c), v => if c = 98 then (v = .null ∨ ∃ a, v = .ref a) else v = .ref (CA c)
/-- the addresses stay -/
def xExt (ws ws' : va_W) : Prop := ∀ (k a : Nat) (e : va_E), ws[k]? = some (a, e) → ∃ e', ws'[k]? = some (a, e')
theorem xExt.rf {ws : va_W} : xExt ws ws := fun _ _ e h => ⟨e, h⟩
theorem xExt.tr {a b c : va_W} (h : xExt a b) (g : xExt b c) : xExt a c := fun k x e hk => by
  obtain ⟨e', h'⟩ := h k x e hk
  exact g k x e' h'
theorem xExt.set {ws : va_W} {q a : Nat} {e e' : va_E} (h : ws[q]? = some (a, e)) : xExt ws (ws.set q (a, e')) := fun k x f hk => by
  by_cases hq : k = q
  · subst hq
    rw [h] at hk
    cases hk
    exact ⟨e', List.getElem?_set_self (List.getElem?_eq_some_iff.mp h).1⟩
  · exact ⟨f, by rw [List.getElem?_set_ne (Ne.symm hq)]; exact hk⟩
theorem xExt.app {ws l : va_W} : xExt ws (ws ++ l) := fun k x f hk => ⟨f, by rw [List.getElem?_append_left (List.getElem?_eq_some_iff.mp hk).1]; exact hk⟩
theorem xVR.ext {ws ws' : va_W} {CA : Nat → Nat} (h : xExt ws ws') : ∀ {v : xV} {c : Value}, xVR ws CA v c → xVR ws' CA v c
  | .inl (.inl _), _, q => q
  | .inl (.inr _), _, q => q
  | .inr (.inl none), _, q => q
  | .inr (.inl (some k)), _, ⟨a, e, h1, h2⟩ => by
    obtain ⟨e', h'⟩ := h k a e h1
    exact ⟨a, e', h', h2⟩
  | .inr (.inr _), _, q => q
theorem xVR.cat {ws : va_W} {CA : Nat → Nat} : ∀ {v : xV} {c : Value}, xVR ws CA v c → c.category = xcat v
  | .inl (.inl _), _, ⟨x, h, _⟩ => by rw [h]; rfl
  | .inl (.inr _), _, ⟨x, h, _⟩ => by rw [h]; rfl
  | .inr (.inl none), _, h => by rw [show _ = Value.null from h]; rfl
  | .inr (.inl (some k)), _, ⟨a, e, _, h⟩ => by rw [h]; rfl
  | .inr (.inr c), v, h => by
    have h : (if c = 98 then (v = .null ∨ ∃ a, v = .ref a) else v = .ref (CA c)) := h
    split at h
    · rcases h with h | ⟨a, h⟩ <;> rw [h] <;> rfl
    · rw [h]; rfl
def xSR (ws : va_W) (CA : Nat → Nat) : List xV → List Value → Prop
  | [], [] => True
  | v :: st, c :: cs => xVR ws CA v c ∧ xSR ws CA st cs
  | _, _ => False
theorem xSR.ext {ws ws' : va_W} {CA : Nat → Nat} (h : xExt ws ws') : ∀ {st : List xV} {cs : List Value}, xSR ws CA st cs → xSR ws' CA st cs
  | [], [], _ => trivial
  | _ :: _, _ :: _, ⟨a, b⟩ => ⟨a.ext h, xSR.ext h b⟩
  | [], _ :: _, q => q.elim
  | _ :: _, [], q => q.elim
theorem xSR.cats {ws : va_W} {CA : Nat → Nat} : ∀ {st : List xV} {cs : List Value}, xSR ws CA st cs → (cs.map fun v => v.category).sum = xcats st
  | [], [], _ => rfl
  | _ :: _, _ :: _, ⟨a, b⟩ => by
    have := xSR.cats b
    simp only [xcats, List.map_cons, List.sum_cons] at this ⊢
    rw [this, a.cat]
  | [], _ :: _, q => q.elim
  | _ :: _, [], q => q.elim
theorem xSR.len {ws : va_W} {CA : Nat → Nat} : ∀ {st : List xV} {cs : List Value}, xSR ws CA st cs → cs.length = st.length
  | [], [], _ => rfl
  | _ :: _, _ :: _, ⟨_, b⟩ => by simp [xSR.len b]
  | [], _ :: _, q => q.elim
  | _ :: _, [], q => q.elim
theorem xSR.take {ws : va_W} {CA : Nat → Nat} : ∀ {st : List xV} {cs : List Value} (n : Nat), xSR ws CA st cs → xSR ws CA (st.take n) (cs.take n)
  | _, _, 0, _ => by simp [xSR]
  | [], [], _ + 1, _ => by simp [xSR]
  | _ :: _, _ :: _, n + 1, ⟨a, b⟩ => ⟨a, xSR.take n b⟩
  | [], _ :: _, _ + 1, q => q.elim
  | _ :: _, [], _ + 1, q => q.elim
theorem xSR.drop {ws : va_W} {CA : Nat → Nat} : ∀ {st : List xV} {cs : List Value} (n : Nat), xSR ws CA st cs → xSR ws CA (st.drop n) (cs.drop n)
  | _, _, 0, h => h
  | [], [], _ + 1, _ => by simp [xSR]
  | _ :: _, _ :: _, n + 1, ⟨_, b⟩ => xSR.drop n b
  | [], _ :: _, _ + 1, q => q.elim
  | _ :: _, [], _ + 1, q => q.elim
theorem xSR.app {ws : va_W} {CA : Nat → Nat} : ∀ {a b : List xV} {c e : List Value}, xSR ws CA a c → xSR ws CA b e → xSR ws CA (a ++ b) (c ++ e)
  | [], _, [], _, _, h => h
  | _ :: _, _, _ :: _, _, ⟨x, y⟩, h => ⟨x, xSR.app y h⟩
  | [], _, _ :: _, _, q, _ => q.elim
  | _ :: _, _, [], _, q, _ => q.elim
theorem xSR.rev {ws : va_W} {CA : Nat → Nat} : ∀ {a : List xV} {c : List Value}, xSR ws CA a c → xSR ws CA a.reverse c.reverse
  | [], [], _ => trivial
  | _ :: _, _ :: _, ⟨x, y⟩ => by
    rw [List.reverse_cons, List.reverse_cons]
    exact (xSR.rev y).app ⟨x, trivial⟩
  | [], _ :: _, q => q.elim
  | _ :: _, [], q => q.elim
/-- locals -/
def xLR (ws : va_W) (CA : Nat → Nat) (L : List (Option xV)) (ls : Array Slot) (nL : Nat) : Prop := ls.size = nL ∧ lv_wf ls ∧ ∀ (i : Nat) (v : xV), L[i]? = some (some v) → ∃ c : Value, ls[i]? = some (.val c) ∧ xVR ws CA v c
theorem xLR.ext {ws ws' : va_W} {CA : Nat → Nat} {L : List (Option xV)} {ls : Array Slot} {nL : Nat} (h : xExt ws ws') (q : xLR ws CA L ls nL) : xLR ws' CA L ls nL :=
  ⟨q.1, q.2.1, fun i v hv => by
    obtain ⟨c, h1, h2⟩ := q.2.2 i v hv
    exact ⟨c, h1, h2.ext h⟩⟩
def xaty (e : Nat) : FieldType := match e with
  | 0 => .int
  | 1 => .boolean
  | 2 => .long
  | _ => .byte
/-- a cell of ours -/
def xCR (ws : va_W) (tys : List (ClassId × FieldType)) (CA : Nat → Nat) (sh : xSh) (f : Nat → Int) (e : va_E) : Prop := match sh with
  | .inl (ci, rs) => ∃ fs : List Value, e = .inr (ci, fs) ∧ ci < 13 ∧ rs.length = xnf ci ∧ fs.length = xnf ci ∧ ∀ j : Nat, j < xnf ci → ∃ c : Value, fs[j]? = some c ∧ (if xtc ci j = 3 then ∃ x : Int, rs[j]? = some x ∧ xVR ws CA (xref x) c else ∃ v : xV, xdec (xtc ci j) (f j) = some v ∧ xVR ws CA v c)
  | .inr (ety, n) => ∃ (cA : ClassId) (t0 : Nat), tys[t0]? = some (cA, xaty ety) ∧ n < 65536 ∧ ((∃ g : Nat → Int32, ety < 2 ∧ e = .inl (cA, n, .inl g) ∧ ∀ j : Nat, j < n → f j = (g j).toInt) ∨ (∃ g : Nat → Int64, ety = 2 ∧ e = .inl (cA, n, .inr (.inl g)) ∧ ∀ j : Nat, j < n → f j = (g j).toInt))
def xWR (CA : Nat → Nat) (sh : List xSh) (σ : xM) (ws : va_W) (tys : List (ClassId × FieldType)) : Prop := ws.length = sh.length ∧ ∀ (k : Nat) (q : xSh), sh[k]? = some q → ∃ (a : Nat) (e : va_E), ws[k]? = some (a, e) ∧ xCR ws tys CA q (σ k) e
theorem xCR.ext {ws ws' : va_W} {tys tys' : List (ClassId × FieldType)} {CA : Nat → Nat} {q : xSh} {f : Nat → Int} {e : va_E} (h : xExt ws ws') (ht : ∀ (k : Nat) (z : ClassId × FieldType), tys[k]? = some z → tys'[k]? = some z) (g : xCR ws tys CA q f e) : xCR ws' tys' CA q f e := by
  rcases q with ⟨ci, rs⟩ | ⟨ety, n⟩
  · obtain ⟨fs, h1, h2, h3, h4, h5⟩ := g
    refine ⟨fs, h1, h2, h3, h4, fun j hj => ?_⟩
    obtain ⟨c, hc, hv⟩ := h5 j hj
    refine ⟨c, hc, ?_⟩
    split at hv
    · rename_i ht3
      rw [if_pos ht3]
      obtain ⟨x, hx, hr⟩ := hv
      exact ⟨x, hx, hr.ext h⟩
    · rename_i ht3
      rw [if_neg ht3]
      obtain ⟨v, hv, hr⟩ := hv
      exact ⟨v, hv, hr.ext h⟩
  · obtain ⟨cA, t0, h1, h2, h3⟩ := g
    exact ⟨cA, t0, ht t0 _ h1, h2, h3⟩
/-- statics: class, name, descriptor -/
def xsf (a : Nat) : String × String × String := match a with
  | 0 => ("StickSums", "FIRST_WAYS", "[I")
  | 1 => ("StickSums", "SIGN_WAYS", "[I")
  | 2 => ("StickSums", "FIGURE_TURNS", "[I")
  | 3 => ("StickSums", "SIGN_TURNS", "[I")
  | 4 => ("StickSums$Reading", "POWERS", "[I")
  | 5 => ("StickSums$Walk", "ROOM_TO_LAY", "[I")
  | 20 => ("java/lang/String", "COMPACT_STRINGS", "Z")
  | _ => ("jdk/internal/util/Preconditions", "SIOOBE_FORMATTER", "Ljava/util/function/BiFunction;")
def xtext (c : Nat) : String := (["", ";", "digit", "as", "or", "+-=*/", "()<>=+-*", "not", "left", "right", "sticks", "figures", "and"] : List String).getD (c - 10) ""
/-- the constants: tables' words, statics, strings, the script -/
def xC (X : Nat × (Nat → Int)) (CA : Nat → Nat) (A : Nat → Prop) (U : State) : Prop :=
  (∀ w ∈ lw_tbl, xgw w = true → ∀ a : Array Value, w.before a U = true) ∧
  (∀ (c ety n : Nat) (f : Nat → Int), xca X c = some (ety, n, f) → va_T (xaty ety) (CA c) n (fun j => .int (Int32.ofInt (f j))) A U U.heap ∧ n < 65536 ∧ ∀ j : Nat, j < n → (Int32.ofInt (f j)).toInt = f j) ∧
  (∀ c : Nat, 10 ≤ c → c < 23 → va_O "java/lang/String" (CA c) A U U.heap ∧ va_OF "java/lang/String" "coder" "B" (.int 0) (CA c) A U U.heap ∧ va_OF "java/lang/String" "value" "[B" (.ref (CA (c + 30))) (CA c) A U U.heap) ∧
  (∀ a : Nat, a ≤ 5 → va_Z (xsf a).1 (xsf a).2.1 (xsf a).2.2 (.ref (CA a)) A U U.heap) ∧
  va_Z (xsf 20).1 (xsf 20).2.1 (xsf 20).2.2 (.int 1) A U U.heap ∧ va_Zq (xsf 21).1 (xsf 21).2.1 (xsf 21).2.2 A U U.heap ∧
  (∀ (own tx : String) (i c : Nat), Cond.stringRef own i tx ∈ lw_tbl → 10 ≤ c → c < 23 → tx = xtext c → vk_R own i tx (CA c) U)
theorem xC.move {X : Nat × (Nat → Int)} {CA : Nat → Nat} {A : Nat → Prop} {s U : State} (hW : s.WarmedH U.vm) (hq : ∀ a : Nat, a < s.heap.size → ¬ A a → U.heap[a]? = s.heap[a]?) (h : xC X CA A s) : xC X CA A U := by
  obtain ⟨h1, h2, h3, h4, h5, h6, h7⟩ := h
  have al := hW.alike
  refine ⟨fun w hw hg a => xgw_move hW hg (h1 w hw hg #[]) a, fun c ety n f hc => ?_, fun c hc hc2 => ?_, fun a ha => (va_Z.moved al (h4 a ha)).kept hq, (va_Z.moved al h5).kept hq, (va_Zq.moved al h6).kept hq, fun own tx i c hm hc hc2 ht => (h7 own tx i c hm hc hc2 ht).warm hW⟩
  · obtain ⟨a, b, b2⟩ := h2 c ety n f hc
    exact ⟨(va_T.moved al a).kept hq, b, b2⟩
  · obtain ⟨a, b, b2⟩ := h3 c hc hc2
    exact ⟨(va_O.moved al a).kept hq, (va_OF.moved al b).kept hq, (va_OF.moved al b2).kept hq⟩
/-- the world of a state -/
def xW (D : va_G) (CA : Nat → Nat) (A : Nat → Prop) (sh : List xSh) (σ : xM) (ws : va_W) (tys : List (ClassId × FieldType)) (U : State) : Prop :=
  va_P D vwCl ws U.heap ∧ va_K D vwCl tys U ∧ va_D A ws ∧ xWR CA sh σ ws tys
/-! what a table entry says -/
def xd (cc : ByteArray) (pc : Nat) (i : Instr) (n : Nat) : Bool := decide (decode cc pc = .ok (i, n))
def xw (w : Nat) (q : Cond) : Bool := decide (lw_tbl[w]? = some q)
def xfl (w : Nat) (o : String) (f : String × String × String) : Option (Nat × Bool) := match lw_tbl[w]? with
  | some (.fieldLink o' i r nm ds) => if o' = o ∧ r = f.1 ∧ nm = f.2.1 ∧ ds = f.2.2 then some (i, false) else none
  | some (.fieldLinkNest o' i r nm ds _) => if o' = o ∧ r = f.1 ∧ nm = f.2.1 ∧ ds = f.2.2 then some (i, true) else none
  | _ => none
def xml (w : Nat) (o : String) (y : MethodName) : Option (Nat × Bool) := match lw_tbl[w]? with
  | some (.methodLink o' i z) => if o' = o ∧ z = y then some (i, false) else none
  | some (.methodLinkNest o' i z _) => if o' = o ∧ z = y then some (i, true) else none
  | _ => none
def xtt (t : Nat) (ty : FieldType) : Bool := match t, ty with
  | 0, .int => true
  | 1, .boolean => true
  | 2, .long => true
  | 3, .object _ => true
  | 3, .array _ => true
  | 4, .object _ => true
  | _, _ => false
def xfd (ci j : Nat) : Option (String × String × String × Bool) := match vwCl[ci]? with
  | some (_, T, N) => if j < N then some (T j) else none
  | none => none
def xvl (y : MethodName) (cc : ByteArray) (ml pc : Nat) (q : xI) : Bool := match q with
    | (tag, a, b, n) => match tag with
      | .iconst v => (n == 1 && xd cc pc (.iconst v) 1 && decide ((Int32.ofInt v).toInt = v)) || (n == 2 && xd cc pc (.bipush v) 2 && decide (((Int8.ofInt v).toInt32).toInt = v)) || (n == 3 && xd cc pc (.sipush v) 3 && decide (((Int16.ofInt v).toInt32).toInt = v)) || (decide ((Int32.ofInt v).toInt = v) && xw a (.constant y.cls b (Int32.ofInt v)) && ((n == 2 && xd cc pc (.ldc b) 2) || (n == 3 && xd cc pc (.ldc_w b) 3)))
      | .sipush v => (n == 1 && v == 0 && xd cc pc (.lconst 0) 1) || (n == 1 && v == 1 && xd cc pc (.lconst 1) 1) || (n == 3 && xd cc pc (.ldc2_w b) 3 && xw a (.constantLong y.cls b (Int64.ofInt v)) && decide ((Int64.ofInt v).toInt = v))
      | .ldc c => n == 2 && xd cc pc (.ldc b) 2 && xw a (.stringRef y.cls b (xtext c)) && decide (10 ≤ c ∧ c < 23)
      | .aconst_null => n == 1 && xd cc pc .aconst_null 1
      | .iload i => (n == 1 && decide (i < 4) && xd cc pc (.iload_n (Fin.ofNat 4 i)) 1) || (n == 2 && xd cc pc (.iload i) 2)
      | .lload i => (n == 1 && decide (i < 4) && xd cc pc (.lload_n (Fin.ofNat 4 i)) 1) || (n == 2 && xd cc pc (.lload i) 2)
      | .aload i => (n == 1 && decide (i < 4) && xd cc pc (.aload_n (Fin.ofNat 4 i)) 1) || (n == 2 && xd cc pc (.aload i) 2)
      | .istore i => decide (i < ml) && (n == 1 && decide (i < 4) && xd cc pc (.istore_n (Fin.ofNat 4 i)) 1 || n == 2 && xd cc pc (.istore i) 2)
      | .lstore i => decide (i + 1 < ml) && (n == 1 && decide (i < 4) && xd cc pc (.lstore_n (Fin.ofNat 4 i)) 1 || n == 2 && xd cc pc (.lstore i) 2)
      | .astore i => decide (i < ml) && (n == 1 && decide (i < 4) && xd cc pc (.astore_n (Fin.ofNat 4 i)) 1 || n == 2 && xd cc pc (.astore i) 2)
      | .iinc i v => decide (i < ml) && n == 3 && xd cc pc (.iinc i v) 3
      | .ifCond cn t => n == 3 && decide (0 ≤ t) && xd cc pc (.ifCond cn (t - pc)) 3
      | .if_icmp cn t => n == 3 && decide (0 ≤ t) && xd cc pc (.if_icmp cn (t - pc)) 3
      | .goto t => n == 3 && decide (0 ≤ t) && xd cc pc (.goto (t - pc)) 3
      | .ifnull t => n == 3 && decide (0 ≤ t) && xd cc pc (.ifnull (t - pc)) 3
      | .tableswitch dt lo hi ts => decide (0 ≤ dt) && ts.all (fun t => decide (0 ≤ t)) && decide ((ts.size : Int) = hi - lo + 1) && xd cc pc (.tableswitch (dt - pc) lo hi (ts.map (fun t => t - pc))) n
      | .lookupswitch dt ps => decide (0 ≤ dt) && ps.all (fun t => decide (0 ≤ t.2)) && (((ps.map (fun t => (t.1, t.2 - (pc : Int)))).toList.zip ((ps.map (fun t => (t.1, t.2 - (pc : Int)))).toList.drop 1)).all (fun (a, next) => a.1 < next.1)) && xd cc pc (.lookupswitch (dt - pc) (ps.map (fun t => (t.1, t.2 - pc)))) n
      | .getfield w => if a = 13 then (n == 3 && (match xfl w y.cls (if b = 0 then ("java/lang/String", "coder", "B") else ("java/lang/String", "value", "[B")) with
          | some (i, false) => xd cc pc (.getfield i) 3
          | _ => false)) else (n == 3 && (match xfd a b with
          | some f => (match xfl w y.cls (f.1, f.2.1, f.2.2.1) with
            | some (i, _) => xd cc pc (.getfield i) 3
            | none => false)
          | none => false))
      | .putfield w => n == 3 && (match xfd a b with
          | some f => (match parseFieldDescriptor f.2.2.1 with
            | some ty => xtt (xtc a b) ty
            | none => false) && (match xfl w y.cls (f.1, f.2.1, f.2.2.1) with
            | some (i, nest) => xd cc pc (.putfield i) 3 && (!f.2.2.2 || (!nest && decide (y.name = "<init>") && decide (f.1 = y.cls)))
            | none => false)
          | none => false)
      | .getstatic w => n == 3 && (match xfl w y.cls (xsf a) with
          | some (i, nest) => xd cc pc (.getstatic i) 3 && (!nest || decide (a ≤ 5))
          | none => false)
      | .invokestatic w => n == 3 && (if a = 9998 then xw w (.methodLink y.cls b Lib.Math.max.name) && xd cc pc (.invokestatic b) 3 else if a = 9997 then xw w (.methodLink y.cls b Lib.Math.min.name) && xd cc pc (.invokestatic b) 3 else match MT a with
          | some (z, bz, mz, rz) => (match xml w y.cls z with
            | some (i, false) => xd cc pc (.invokestatic i) 3
            | _ => false) && decide (mz ≤ 40) && decide (a ≠ 0) && decide (xkd a = 0) && plainName z.cls && decide (z.cls ≠ "java/lang/invoke/MethodHandle" ∧ z.cls ≠ "java/lang/invoke/VarHandle") && decide ((parseMethodDescriptor z.desc).map (fun d => d.parameters.length) = some (xnp a))
          | none => false)
      | .invokevirtual w => n == 3 && (match MT a with
          | some (z, bz, mz, rz) => (match xml w y.cls z with
            | some (i, false) => xd cc pc (.invokevirtual i) 3
            | _ => false) && decide (mz ≤ 40) && decide (a ≠ 0) && decide (xkd a = 1) && plainName z.cls && decide (z.cls ≠ "java/lang/invoke/MethodHandle" ∧ z.cls ≠ "java/lang/invoke/VarHandle") && decide ((parseMethodDescriptor z.desc).map (fun d => d.parameters.length) = some (xnp a)) && decide (xcn (xoc a) = z.cls ∧ xoc a < 14)
          | none => false)
      | .invokespecial w => n == 3 && (if a = 9999 then xw w (.methodLink y.cls b Lib.objectInit) && xd cc pc (.invokespecial b) 3 else (match MT a with
          | some (z, bz, mz, rz) => (match xml w y.cls z with
            | some (i, _) => xd cc pc (.invokespecial i) 3
            | _ => false) && decide (mz ≤ 40) && decide (a ≠ 0) && decide (xkd a = 2) && plainName z.cls && decide (z.cls ≠ "java/lang/invoke/MethodHandle" ∧ z.cls ≠ "java/lang/invoke/VarHandle") && decide ((parseMethodDescriptor z.desc).map (fun d => d.parameters.length) = some (xnp a)) && decide (z.name = "<init>") && decide (rz = none)
          | none => false))
      | .new w => n == 3 && xw w (.classLink y.cls b (xcn a)) && xd cc pc (.new b) 3 && decide (a < 13)
      | .newarray t => n == 2 && xd cc pc (.newarray t) 2 && xw a (.arrayClass (newarray.typeOf t))
      | i => n == 1 && xd cc pc i 1
def xval (mi pc : Nat) (q : xI) : Bool := match MT mi with
  | none => false
  | some (y, cc, ml, _) => xvl y cc ml pc q
/-- a method's words are among the tables' -/
def xmok (mi : Nat) : Bool := match MT mi, xmwi[mi]? with
  | some (y, _, _, _), some (_, b, c, d) => xw b (.initialized y.cls) && (match xkd mi with
    | 0 => xw c (.static y)
    | 1 => xw c (.instanceMethod y) && xw d (.selects y.cls y y)
    | _ => xw c (.instanceMethod y))
  | _, _ => false
