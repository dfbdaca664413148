/-! THE SMALL MACHINE IS FOLLOWED BY THE REAL ONE -/
/-- what a program checks once: the table's entries, the methods' words -/
def xGl : Prop := (∀ (mi pc : Nat) (q : xI), tb mi pc = some q → xval mi pc q = true) ∧ (∀ (mi : Nat) (q : xMt), mi ≠ 0 → MT mi = some q → Cond.code q.1 q.2.1 q.2.2.1 q.2.2.2 ∈ lw_tbl ∧ xmok mi = true) ∧ (Cond.instanceMethod Lib.objectInit ∈ lw_tbl ∧ Cond.code Lib.objectInit ⟨#[0xb1]⟩ 1 none ∈ lw_tbl ∧ True) ∧ (Cond.static Lib.Math.max.name ∈ lw_tbl ∧ Cond.static Lib.Math.min.name ∈ lw_tbl ∧ Cond.initialized "java/lang/Math" ∈ lw_tbl ∧ Cond.code Lib.Math.max.name Lib.Math.max.code 2 (some .int) ∈ lw_tbl ∧ Cond.code Lib.Math.min.name Lib.Math.min.code 2 (some .int) ∈ lw_tbl) ∧ (∀ ci, ci < 13 → Cond.instantiable (xcn ci) (xnf ci) ∈ lw_tbl ∧ Cond.initialized (xcn ci) ∈ lw_tbl)
def xVRo (ws : va_W) (CA : Nat → Nat) : Option xV → Option Value → Prop
  | none, none => True
  | some v, some c => xVR ws CA v c
  | _, _ => False
/-- the end of a method's run -/
def xQ (D : va_G) (CA : Nat → Nat) (A : Nat → Prop) (ws0 : va_W) (v : Option xV) (sh : List xSh) (σ : xM) : Array Value → State → Outcome → State → Prop := fun _ st o t => (∃ (vo : Option Value) (ws : va_W) (tys : List (ClassId × FieldType)), o = .returned vo ∧ xVRo ws CA v vo ∧ xW D CA A sh σ ws tys t ∧ xExt ws0 ws) ∧ va_F A st t
section XM
variable {p : Program} {l : Launch} {e : Env} {R : Room} {s : State} {m : MethodId} {args : Array Value} {below : List Frame} {meth : Method} {c : Code} {Q : State → Prop}
variable {X : Nat × (Nat → Int)} {CA : Nat → Nat} {D : va_G} {A : Nat → Prop} {ws0 : va_W} {c0 s0 mi pc : Nat} {L : List (Option xV)} {st : List xV} {sh : List xSh} {σ : xM}
theorem snd_step (G : xGl) (C : xCx p R s m meth c X CA A mi) {N : xN} (h : xstep X mi pc L st sh σ = some N) (hc0 : c0 ≤ sh.length) (hs0 : s0 ≤ xns sh) (hrc : N.2.2.2.1.length - c0 ≤ R.cells) (hrs : xns N.2.2.2.1 - s0 ≤ R.slots) (k : xG p l e R s m args below meth c Q CA D A ws0 c0 s0 N.1 N.2.1 N.2.2.1 N.2.2.2.1 N.2.2.2.2) : xG p l e R s m args below meth c Q CA D A ws0 c0 s0 pc L st sh σ := by
  obtain ⟨y, cc, ml, rt, hMT, hb, hml, hr, hown, hnm, hR⟩ := C.2.2.2.2
  cases ht : tb mi pc with
  | none => unfold xstep at h; rw [ht] at h; cases h
  | some q =>
    obtain ⟨ins, a, b, n⟩ := q
    have hv := G.1 mi pc _ ht
    unfold xval at hv
    rw [hMT] at hv
    have hv : xvl y cc ml pc (ins, a, b, n) = true := hv
    cases ins with
    | iconst v => exact snd_iconst C hown hb hml ht hv h k
    | sipush v => exact snd_lconst C hown hb hml ht hv h k
    | ldc v => exact snd_ldcs C hown hb hml ht hv h k
    | aconst_null => exact snd_null C hown hb hml ht hv h k
    | iload i => exact snd_iload C hown hb hml ht hv h k
    | lload i => exact snd_lload C hown hb hml ht hv h k
    | aload i => exact snd_aload C hown hb hml ht hv h k
    | istore i => exact snd_istore C hown hb hml ht hv h k
    | lstore i => exact snd_lstore C hown hb hml ht hv h k
    | astore i => exact snd_astore C hown hb hml ht hv h k
    | iinc i v => exact snd_iinc C hown hb hml ht hv h k
    | iadd => exact snd_iadd C hown hb hml ht hv h k
    | isub => exact snd_isub C hown hb hml ht hv h k
    | imul => exact snd_imul C hown hb hml ht hv h k
    | iand => exact snd_iand C hown hb hml ht hv h k
    | ior => exact snd_ior C hown hb hml ht hv h k
    | ixor => exact snd_ixor C hown hb hml ht hv h k
    | ishl => exact snd_ishl C hown hb hml ht hv h k
    | ishr => exact snd_ishr C hown hb hml ht hv h k
    | iushr => exact snd_iushr C hown hb hml ht hv h k
    | idiv => exact snd_idiv C hown hb hml ht hv h k
    | irem => exact snd_irem C hown hb hml ht hv h k
    | ineg => exact snd_ineg C hown hb hml ht hv h k
    | i2c => exact snd_i2c C hown hb hml ht hv h k
    | i2b => exact snd_i2b C hown hb hml ht hv h k
    | ladd => exact snd_ladd C hown hb hml ht hv h k
    | lsub => exact snd_lsub C hown hb hml ht hv h k
    | lmul => exact snd_lmul C hown hb hml ht hv h k
    | land => exact snd_land C hown hb hml ht hv h k
    | lor => exact snd_lor C hown hb hml ht hv h k
    | lshl => exact snd_lshl C hown hb hml ht hv h k
    | lshr => exact snd_lshr C hown hb hml ht hv h k
    | lushr => exact snd_lushr C hown hb hml ht hv h k
    | lcmp => exact snd_lcmp C hown hb hml ht hv h k
    | i2l => exact snd_i2l C hown hb hml ht hv h k
    | l2i => exact snd_l2i C hown hb hml ht hv h k
    | dup => exact snd_dup C hown hb hml ht hv h k
    | pop => exact snd_pop C hown hb hml ht hv h k
    | dup2 => exact snd_dup2 C hown hb hml ht hv h k
    | ifCond cn t => exact snd_ifc C hown hb hml ht hv h k
    | if_icmp cn t => exact snd_icmp C hown hb hml ht hv h k
    | goto t => exact snd_goto C hown hb hml ht hv h k
    | ifnull t => exact snd_ifnull C hown hb hml ht hv h k
    | tableswitch dt lo hi ts => exact snd_table C hown hb hml ht hv h k
    | lookupswitch dt ps => exact snd_look C hown hb hml ht hv h k
    | getfield w => exact snd_getf C hown hb hml ht hv h hc0 hs0 hrc hrs k
    | putfield w => exact snd_putf C hown hnm hb hml ht hv h hc0 hs0 hrc hrs k
    | getstatic w => exact snd_gets C hown hb hml ht hv h hc0 hs0 hrc hrs k
    | arraylength => exact snd_alen C hown hb hml ht hv h hc0 hs0 hrc hrs k
    | iaload => exact snd_iaload C hown hb hml ht hv h hc0 hs0 hrc hrs k
    | baload => exact snd_baload C hown hb hml ht hv h hc0 hs0 hrc hrs k
    | laload => exact snd_laload C hown hb hml ht hv h hc0 hs0 hrc hrs k
    | iastore => exact snd_iastore C hown hb hml ht hv h hc0 hs0 hrc hrs k
    | bastore => exact snd_bastore C hown hb hml ht hv h hc0 hs0 hrc hrs k
    | lastore => exact snd_lastore C hown hb hml ht hv h hc0 hs0 hrc hrs k
    | invokespecial w => exact snd_objinit C hown hR G.2.2.1 hb hml ht hv h hc0 hs0 hrc hrs k
    | invokestatic w => exact snd_math C hown hR G.2.2.2.1 hb hml ht hv h hc0 hs0 hrc hrs k
    | new w => exact snd_new C hown G.2.2.2.2 hb hml ht hv h hc0 hs0 hrc hrs k
    | newarray t => exact snd_newa C hown hb hml ht hv h hc0 hs0 hrc hrs k
    | _ => unfold xstep at h; rw [ht] at h; cases h
theorem x_char {z : Int32} (h : 0 ≤ z.toInt ∧ z.toInt ≤ 65535) : narrow .char (.int z) = .int z := by
  have hz : ¬ z < 0 := fun g => by
    have := (x_lt z 0).mp g
    have h0 : (0 : Int32).toInt = 0 := rfl
    omega
  obtain ⟨j, hj, rfl⟩ := nI_of hz
  rw [nI_toInt hj] at h
  exact (pk_charN (by omega)).1
theorem x_narr {rt : Option FieldType} {z : Int32} (h : xok rt z.toInt = true) : ∃ ty, rt = some ty ∧ narrow ty (.int z) = .int z := by
  unfold xok at h
  split at h
  · exact ⟨_, rfl, rfl⟩
  · refine ⟨_, rfl, ?_⟩
    have h : z.toInt = 0 ∨ z.toInt = 1 := by simpa using h
    have hz : z = 0 ∨ z = 1 := by
      rcases h with h | h
      · exact Or.inl ((x_eq z 0).mpr (by rw [h]; rfl))
      · exact Or.inr ((x_eq z 1).mpr (by rw [h]; rfl))
    rcases hz with rfl | rfl <;> rfl
  · exact ⟨_, rfl, x_char (of_decide_eq_true h)⟩
  · refine ⟨_, rfl, ?_⟩
    have h : z.toInt = 0 := by simpa using h
    have hz : z = 0 := (x_eq z 0).mpr (by rw [h]; rfl)
    subst hz
    rfl
  · cases h
theorem snd_ret (G : xGl) (C : xCx p R s m meth c X CA A mi) {v : Option xV} (h : xret mi pc st = some v) : xG p l e R s m args below meth c (MQ below (xQ D CA A ws0 v sh σ) args s (sh.length - c0) (xns sh - s0) A) CA D A ws0 c0 s0 pc L st sh σ := by
  obtain ⟨y, cc, ml, rt, hMT, hb, hml, hr, hown, hnm, hR⟩ := C.2.2.2.2
  have hx := C.1
  have hlocks := C.2.1
  have hrt : xrt mi = rt := by unfold xrt; rw [hMT]
  intro H locs ws tys ls cs hP hK hD hS hW hE hL hs
  have hq : ∀ (vo : Option Value), xVRo ws CA v vo → ∀ t : State, t.heap = H → s.WarmedH t.vm → xQ D CA A ws0 v sh σ args s (.returned vo) t := by
    intro vo hvo t ht hw
    exact ⟨⟨vo, ws, tys, rfl, hvo, ⟨by rw [ht]; exact hP, va_K.moved hw.alike hK, hD, hW⟩, hE⟩, hS.F ht⟩
  cases ht : tb mi pc with
  | none => unfold xret at h; rw [ht] at h; cases h
  | some q =>
    obtain ⟨ins, a, b, n⟩ := q
    have hv := G.1 mi pc _ ht
    unfold xval at hv
    rw [hMT] at hv
    have hv : xvl y cc ml pc (ins, a, b, n) = true := hv
    unfold xret at h
    rw [ht, hrt] at h
    cases ins with
    | ireturn =>
      obtain ⟨-, h1⟩ := xn1 hv
      dsimp only at h
      split at h
      · rename_i i
        split at h
        · rename_i hok
          cases h
          obtain ⟨z, cr, rfl, rfl, hs1⟩ := hs.i
          cases cr with
          | cons _ _ => exact hs1.elim
          | nil =>
            obtain ⟨ty, hty, hn⟩ := x_narr hok
            exact W.zret hx hb (hr.trans hty) hn (hq _ ⟨z, rfl, rfl⟩) hS.2.2 (xd_of h1)
        · cases h
      · cases h
    | lreturn =>
      obtain ⟨-, h1⟩ := xn1 hv
      dsimp only at h
      split at h
      · rename_i i
        split at h
        · rename_i hok
          cases h
          obtain ⟨z, cr, rfl, rfl, hs1⟩ := hs.lg
          cases cr with
          | cons _ _ => exact hs1.elim
          | nil => exact W.lret hx hb (hr.trans hok) (hq _ ⟨z, rfl, rfl⟩) hS.2.2 (xd_of h1)
        · cases h
      · cases h
    | areturn =>
      obtain ⟨-, h1⟩ := xn1 hv
      dsimp only at h
      split at h
      · rename_i q
        split at h
        · rename_i nm
          cases h
          obtain ⟨cv, cr, rfl, hvr, hs1⟩ := hs.q
          cases cr with
          | cons _ _ => exact hs1.elim
          | nil =>
            refine W.aret (v := cv) hx hb hr (Or.inl ⟨nm, rfl⟩) ?_ (hq _ hvr) hS.2.2 (xd_of h1)
            cases q with
            | none => exact Or.inl hvr
            | some k =>
              obtain ⟨a, e, -, hq⟩ := hvr
              exact Or.inr ⟨a, hq⟩
        · cases h
      · cases h
    | return_ =>
      obtain ⟨-, h1⟩ := xn1 hv
      dsimp only at h
      split at h
      · split at h
        · rename_i hok
          cases h
          cases cs with
          | cons _ _ => exact hs.elim
          | nil => exact W.vret hx hb (hr.trans hok) (hq none trivial) hS.2.2 (xd_of h1)
        · cases h
      · cases h
    | _ => cases h
end XM
