/-! one instruction of the small machine is one of the real one: the step rows -/
section XT
variable {p : Program} {l : Launch} {e : Env} {R : Room} {s : State} {m : MethodId} {args : Array Value} {below : List Frame} {meth : Method} {c : Code} {Q : State → Prop}
variable {X : Nat × (Nat → Int)} {CA : Nat → Nat} {D : va_G} {A : Nat → Prop} {ws0 : va_W} {c0 s0 mi pc : Nat} {L : List (Option xV)} {st : List xV} {sh : List xSh} {σ : xM}
theorem xto_of {o : Option (List xV)} {q : Nat} {N : xN} (h : xto o q L sh σ = some N) : ∃ st', o = some st' ∧ N = (q, L, st', sh, σ) := by
  cases o with
  | none => cases h
  | some st' => exact ⟨st', rfl, (Option.some.inj h).symm⟩
theorem xbin_of {f : Int → Int → Int} {r : List xV} (h : xbin f st = some r) : ∃ (x y : Int) (t : List xV), st = .inl (.inl y) :: .inl (.inl x) :: t ∧ r = vi (f x y) :: t := by
  unfold xbin at h
  split at h
  · exact ⟨_, _, _, rfl, (Option.some.inj h).symm⟩
  · cases h
theorem xbinl_of {f : Int → Int → Int} {r : List xV} (h : xbinl f st = some r) : ∃ (x y : Int) (t : List xV), st = .inl (.inr y) :: .inl (.inr x) :: t ∧ r = vl (f x y) :: t := by
  unfold xbinl at h
  split at h
  · exact ⟨_, _, _, rfl, (Option.some.inj h).symm⟩
  · cases h
theorem xshf_of {f : Int → Int → Int} {r : List xV} (h : xshf f st = some r) : ∃ (x y : Int) (t : List xV), st = .inl (.inl y) :: .inl (.inr x) :: t ∧ r = vl (f x y) :: t := by
  unfold xshf at h
  split at h
  · exact ⟨_, _, _, rfl, (Option.some.inj h).symm⟩
  · cases h
theorem xun_of {f : Int → Int} {r : List xV} (h : xun f st = some r) : ∃ (x : Int) (t : List xV), st = .inl (.inl x) :: t ∧ r = vi (f x) :: t := by
  unfold xun at h
  split at h
  · exact ⟨_, _, rfl, (Option.some.inj h).symm⟩
  · cases h
theorem xn1 {n : Nat} {b : Bool} (h : (n == 1 && b) = true) : n = 1 ∧ b = true := by simpa using h
theorem xfin4 {i : Nat} (h : i < 4) : ((Fin.ofNat 4 i : Fin 4) : Nat) = i := by simp [Fin.ofNat]; omega
theorem xcmp_eq (x y : Int64) : (lg_cmp x y).toInt = lcmp' x.toInt y.toInt := by
  have h1 : x > y ↔ y.toInt < x.toInt := Int64.lt_iff_toInt_lt
  have h2 : x = y ↔ x.toInt = y.toInt := Int64.toInt_inj.symm
  unfold lg_cmp lcmp'
  by_cases a : x > y
  · have a' := h1.mp a
    rw [if_pos a, if_neg (by omega), if_neg (by omega)]; rfl
  · have a' : ¬ y.toInt < x.toInt := fun z => a (h1.mpr z)
    rw [if_neg a]
    by_cases b : x = y
    · have b' := h2.mp b
      rw [if_pos b, if_neg (by omega), if_pos b']; rfl
    · have b' : ¬ x.toInt = y.toInt := fun z => b (h2.mpr z)
      rw [if_neg b, if_pos (by omega)]; rfl
theorem snd_iadd (C : xCx p R s m meth c X CA A mi) {y : MethodName} {cc : ByteArray} {ml : Nat} (hown : s.vm.findClass y.cls = some m.cls) (hb : c.code = cc) (hml : c.maxLocals = ml) {a b n : Nat} {N : xN} (ht : tb mi pc = some (.iadd, a, b, n)) (hv : xvl y cc ml pc (.iadd, a, b, n) = true) (h : xstep X mi pc L st sh σ = some N) (k : xG p l e R s m args below meth c Q CA D A ws0 c0 s0 N.1 N.2.1 N.2.2.1 N.2.2.2.1 N.2.2.2.2) : xG p l e R s m args below meth c Q CA D A ws0 c0 s0 pc L st sh σ := by
  have hx := C.1
  unfold xstep at h
  rw [ht] at h
  obtain ⟨rfl, h1⟩ := xn1 hv
  obtain ⟨st', g1, rfl⟩ := xto_of h
  obtain ⟨x, z, r, rfl, rfl⟩ := xbin_of g1
  intro H locs ws tys ls cs hP hK hD hS hW hE hL hs
  obtain ⟨zy, cr, rfl, rfl, hs1⟩ := hs.i
  obtain ⟨zx, cr, rfl, rfl, hs2⟩ := hs1.i
  refine lv_iadd hx hb (xd_of h1) ?_
  exact xs_top k hP hK hD hS hW hE hL ⟨_, rfl, by unfold xadd; rw [x32, x32]⟩ hs2
theorem snd_isub (C : xCx p R s m meth c X CA A mi) {y : MethodName} {cc : ByteArray} {ml : Nat} (hown : s.vm.findClass y.cls = some m.cls) (hb : c.code = cc) (hml : c.maxLocals = ml) {a b n : Nat} {N : xN} (ht : tb mi pc = some (.isub, a, b, n)) (hv : xvl y cc ml pc (.isub, a, b, n) = true) (h : xstep X mi pc L st sh σ = some N) (k : xG p l e R s m args below meth c Q CA D A ws0 c0 s0 N.1 N.2.1 N.2.2.1 N.2.2.2.1 N.2.2.2.2) : xG p l e R s m args below meth c Q CA D A ws0 c0 s0 pc L st sh σ := by
  have hx := C.1
  unfold xstep at h
  rw [ht] at h
  obtain ⟨rfl, h1⟩ := xn1 hv
  obtain ⟨st', g1, rfl⟩ := xto_of h
  obtain ⟨x, z, r, rfl, rfl⟩ := xbin_of g1
  intro H locs ws tys ls cs hP hK hD hS hW hE hL hs
  obtain ⟨zy, cr, rfl, rfl, hs1⟩ := hs.i
  obtain ⟨zx, cr, rfl, rfl, hs2⟩ := hs1.i
  refine lv_isub hx hb (xd_of h1) ?_
  exact xs_top k hP hK hD hS hW hE hL ⟨_, rfl, by unfold xsub; rw [x32, x32]⟩ hs2
theorem snd_imul (C : xCx p R s m meth c X CA A mi) {y : MethodName} {cc : ByteArray} {ml : Nat} (hown : s.vm.findClass y.cls = some m.cls) (hb : c.code = cc) (hml : c.maxLocals = ml) {a b n : Nat} {N : xN} (ht : tb mi pc = some (.imul, a, b, n)) (hv : xvl y cc ml pc (.imul, a, b, n) = true) (h : xstep X mi pc L st sh σ = some N) (k : xG p l e R s m args below meth c Q CA D A ws0 c0 s0 N.1 N.2.1 N.2.2.1 N.2.2.2.1 N.2.2.2.2) : xG p l e R s m args below meth c Q CA D A ws0 c0 s0 pc L st sh σ := by
  have hx := C.1
  unfold xstep at h
  rw [ht] at h
  obtain ⟨rfl, h1⟩ := xn1 hv
  obtain ⟨st', g1, rfl⟩ := xto_of h
  obtain ⟨x, z, r, rfl, rfl⟩ := xbin_of g1
  intro H locs ws tys ls cs hP hK hD hS hW hE hL hs
  obtain ⟨zy, cr, rfl, rfl, hs1⟩ := hs.i
  obtain ⟨zx, cr, rfl, rfl, hs2⟩ := hs1.i
  refine lv_imul hx hb (xd_of h1) ?_
  exact xs_top k hP hK hD hS hW hE hL ⟨_, rfl, by unfold xmul; rw [x32, x32]⟩ hs2
theorem snd_iand (C : xCx p R s m meth c X CA A mi) {y : MethodName} {cc : ByteArray} {ml : Nat} (hown : s.vm.findClass y.cls = some m.cls) (hb : c.code = cc) (hml : c.maxLocals = ml) {a b n : Nat} {N : xN} (ht : tb mi pc = some (.iand, a, b, n)) (hv : xvl y cc ml pc (.iand, a, b, n) = true) (h : xstep X mi pc L st sh σ = some N) (k : xG p l e R s m args below meth c Q CA D A ws0 c0 s0 N.1 N.2.1 N.2.2.1 N.2.2.2.1 N.2.2.2.2) : xG p l e R s m args below meth c Q CA D A ws0 c0 s0 pc L st sh σ := by
  have hx := C.1
  unfold xstep at h
  rw [ht] at h
  obtain ⟨rfl, h1⟩ := xn1 hv
  obtain ⟨st', g1, rfl⟩ := xto_of h
  obtain ⟨x, z, r, rfl, rfl⟩ := xbin_of g1
  intro H locs ws tys ls cs hP hK hD hS hW hE hL hs
  obtain ⟨zy, cr, rfl, rfl, hs1⟩ := hs.i
  obtain ⟨zx, cr, rfl, rfl, hs2⟩ := hs1.i
  refine lv_iand hx hb (xd_of h1) ?_
  exact xs_top k hP hK hD hS hW hE hL ⟨_, rfl, by unfold xand; rw [x32, x32]⟩ hs2
theorem snd_ior (C : xCx p R s m meth c X CA A mi) {y : MethodName} {cc : ByteArray} {ml : Nat} (hown : s.vm.findClass y.cls = some m.cls) (hb : c.code = cc) (hml : c.maxLocals = ml) {a b n : Nat} {N : xN} (ht : tb mi pc = some (.ior, a, b, n)) (hv : xvl y cc ml pc (.ior, a, b, n) = true) (h : xstep X mi pc L st sh σ = some N) (k : xG p l e R s m args below meth c Q CA D A ws0 c0 s0 N.1 N.2.1 N.2.2.1 N.2.2.2.1 N.2.2.2.2) : xG p l e R s m args below meth c Q CA D A ws0 c0 s0 pc L st sh σ := by
  have hx := C.1
  unfold xstep at h
  rw [ht] at h
  obtain ⟨rfl, h1⟩ := xn1 hv
  obtain ⟨st', g1, rfl⟩ := xto_of h
  obtain ⟨x, z, r, rfl, rfl⟩ := xbin_of g1
  intro H locs ws tys ls cs hP hK hD hS hW hE hL hs
  obtain ⟨zy, cr, rfl, rfl, hs1⟩ := hs.i
  obtain ⟨zx, cr, rfl, rfl, hs2⟩ := hs1.i
  refine lv_ior hx hb (xd_of h1) ?_
  exact xs_top k hP hK hD hS hW hE hL ⟨_, rfl, by unfold xor'; rw [x32, x32]⟩ hs2
theorem snd_ixor (C : xCx p R s m meth c X CA A mi) {y : MethodName} {cc : ByteArray} {ml : Nat} (hown : s.vm.findClass y.cls = some m.cls) (hb : c.code = cc) (hml : c.maxLocals = ml) {a b n : Nat} {N : xN} (ht : tb mi pc = some (.ixor, a, b, n)) (hv : xvl y cc ml pc (.ixor, a, b, n) = true) (h : xstep X mi pc L st sh σ = some N) (k : xG p l e R s m args below meth c Q CA D A ws0 c0 s0 N.1 N.2.1 N.2.2.1 N.2.2.2.1 N.2.2.2.2) : xG p l e R s m args below meth c Q CA D A ws0 c0 s0 pc L st sh σ := by
  have hx := C.1
  unfold xstep at h
  rw [ht] at h
  obtain ⟨rfl, h1⟩ := xn1 hv
  obtain ⟨st', g1, rfl⟩ := xto_of h
  obtain ⟨x, z, r, rfl, rfl⟩ := xbin_of g1
  intro H locs ws tys ls cs hP hK hD hS hW hE hL hs
  obtain ⟨zy, cr, rfl, rfl, hs1⟩ := hs.i
  obtain ⟨zx, cr, rfl, rfl, hs2⟩ := hs1.i
  refine lv_ixor hx hb (xd_of h1) ?_
  exact xs_top k hP hK hD hS hW hE hL ⟨_, rfl, by unfold xxor; rw [x32, x32]⟩ hs2
theorem snd_ishl (C : xCx p R s m meth c X CA A mi) {y : MethodName} {cc : ByteArray} {ml : Nat} (hown : s.vm.findClass y.cls = some m.cls) (hb : c.code = cc) (hml : c.maxLocals = ml) {a b n : Nat} {N : xN} (ht : tb mi pc = some (.ishl, a, b, n)) (hv : xvl y cc ml pc (.ishl, a, b, n) = true) (h : xstep X mi pc L st sh σ = some N) (k : xG p l e R s m args below meth c Q CA D A ws0 c0 s0 N.1 N.2.1 N.2.2.1 N.2.2.2.1 N.2.2.2.2) : xG p l e R s m args below meth c Q CA D A ws0 c0 s0 pc L st sh σ := by
  have hx := C.1
  unfold xstep at h
  rw [ht] at h
  obtain ⟨rfl, h1⟩ := xn1 hv
  obtain ⟨st', g1, rfl⟩ := xto_of h
  obtain ⟨x, z, r, rfl, rfl⟩ := xbin_of g1
  intro H locs ws tys ls cs hP hK hD hS hW hE hL hs
  obtain ⟨zy, cr, rfl, rfl, hs1⟩ := hs.i
  obtain ⟨zx, cr, rfl, rfl, hs2⟩ := hs1.i
  refine lv_ishl hx hb (xd_of h1) ?_
  exact xs_top k hP hK hD hS hW hE hL ⟨_, rfl, by unfold xshl; rw [x32, x32]⟩ hs2
theorem snd_ishr (C : xCx p R s m meth c X CA A mi) {y : MethodName} {cc : ByteArray} {ml : Nat} (hown : s.vm.findClass y.cls = some m.cls) (hb : c.code = cc) (hml : c.maxLocals = ml) {a b n : Nat} {N : xN} (ht : tb mi pc = some (.ishr, a, b, n)) (hv : xvl y cc ml pc (.ishr, a, b, n) = true) (h : xstep X mi pc L st sh σ = some N) (k : xG p l e R s m args below meth c Q CA D A ws0 c0 s0 N.1 N.2.1 N.2.2.1 N.2.2.2.1 N.2.2.2.2) : xG p l e R s m args below meth c Q CA D A ws0 c0 s0 pc L st sh σ := by
  have hx := C.1
  unfold xstep at h
  rw [ht] at h
  obtain ⟨rfl, h1⟩ := xn1 hv
  obtain ⟨st', g1, rfl⟩ := xto_of h
  obtain ⟨x, z, r, rfl, rfl⟩ := xbin_of g1
  intro H locs ws tys ls cs hP hK hD hS hW hE hL hs
  obtain ⟨zy, cr, rfl, rfl, hs1⟩ := hs.i
  obtain ⟨zx, cr, rfl, rfl, hs2⟩ := hs1.i
  refine lv_ishr hx hb (xd_of h1) ?_
  exact xs_top k hP hK hD hS hW hE hL ⟨_, rfl, by unfold xshr; rw [x32, x32]⟩ hs2
theorem snd_iushr (C : xCx p R s m meth c X CA A mi) {y : MethodName} {cc : ByteArray} {ml : Nat} (hown : s.vm.findClass y.cls = some m.cls) (hb : c.code = cc) (hml : c.maxLocals = ml) {a b n : Nat} {N : xN} (ht : tb mi pc = some (.iushr, a, b, n)) (hv : xvl y cc ml pc (.iushr, a, b, n) = true) (h : xstep X mi pc L st sh σ = some N) (k : xG p l e R s m args below meth c Q CA D A ws0 c0 s0 N.1 N.2.1 N.2.2.1 N.2.2.2.1 N.2.2.2.2) : xG p l e R s m args below meth c Q CA D A ws0 c0 s0 pc L st sh σ := by
  have hx := C.1
  unfold xstep at h
  rw [ht] at h
  obtain ⟨rfl, h1⟩ := xn1 hv
  obtain ⟨st', g1, rfl⟩ := xto_of h
  obtain ⟨x, z, r, rfl, rfl⟩ := xbin_of g1
  intro H locs ws tys ls cs hP hK hD hS hW hE hL hs
  obtain ⟨zy, cr, rfl, rfl, hs1⟩ := hs.i
  obtain ⟨zx, cr, rfl, rfl, hs2⟩ := hs1.i
  refine lv_iushr hx hb (xd_of h1) rfl ?_
  exact xs_top k hP hK hD hS hW hE hL ⟨_, rfl, by unfold xushr; rw [x32, x32]⟩ hs2
theorem snd_ladd (C : xCx p R s m meth c X CA A mi) {y : MethodName} {cc : ByteArray} {ml : Nat} (hown : s.vm.findClass y.cls = some m.cls) (hb : c.code = cc) (hml : c.maxLocals = ml) {a b n : Nat} {N : xN} (ht : tb mi pc = some (.ladd, a, b, n)) (hv : xvl y cc ml pc (.ladd, a, b, n) = true) (h : xstep X mi pc L st sh σ = some N) (k : xG p l e R s m args below meth c Q CA D A ws0 c0 s0 N.1 N.2.1 N.2.2.1 N.2.2.2.1 N.2.2.2.2) : xG p l e R s m args below meth c Q CA D A ws0 c0 s0 pc L st sh σ := by
  have hx := C.1
  unfold xstep at h
  rw [ht] at h
  obtain ⟨rfl, h1⟩ := xn1 hv
  obtain ⟨st', g1, rfl⟩ := xto_of h
  obtain ⟨x, z, r, rfl, rfl⟩ := xbinl_of g1
  intro H locs ws tys ls cs hP hK hD hS hW hE hL hs
  obtain ⟨zy, cr, rfl, rfl, hs1⟩ := hs.lg
  obtain ⟨zx, cr, rfl, rfl, hs2⟩ := hs1.lg
  refine lv_ladd hx hb (xd_of h1) ?_
  exact xs_top k hP hK hD hS hW hE hL ⟨_, rfl, by unfold ladd'; rw [x64, x64]⟩ hs2
theorem snd_lsub (C : xCx p R s m meth c X CA A mi) {y : MethodName} {cc : ByteArray} {ml : Nat} (hown : s.vm.findClass y.cls = some m.cls) (hb : c.code = cc) (hml : c.maxLocals = ml) {a b n : Nat} {N : xN} (ht : tb mi pc = some (.lsub, a, b, n)) (hv : xvl y cc ml pc (.lsub, a, b, n) = true) (h : xstep X mi pc L st sh σ = some N) (k : xG p l e R s m args below meth c Q CA D A ws0 c0 s0 N.1 N.2.1 N.2.2.1 N.2.2.2.1 N.2.2.2.2) : xG p l e R s m args below meth c Q CA D A ws0 c0 s0 pc L st sh σ := by
  have hx := C.1
  unfold xstep at h
  rw [ht] at h
  obtain ⟨rfl, h1⟩ := xn1 hv
  obtain ⟨st', g1, rfl⟩ := xto_of h
  obtain ⟨x, z, r, rfl, rfl⟩ := xbinl_of g1
  intro H locs ws tys ls cs hP hK hD hS hW hE hL hs
  obtain ⟨zy, cr, rfl, rfl, hs1⟩ := hs.lg
  obtain ⟨zx, cr, rfl, rfl, hs2⟩ := hs1.lg
  refine lv_lsub hx hb (xd_of h1) ?_
  exact xs_top k hP hK hD hS hW hE hL ⟨_, rfl, by unfold lsub'; rw [x64, x64]⟩ hs2
theorem snd_lmul (C : xCx p R s m meth c X CA A mi) {y : MethodName} {cc : ByteArray} {ml : Nat} (hown : s.vm.findClass y.cls = some m.cls) (hb : c.code = cc) (hml : c.maxLocals = ml) {a b n : Nat} {N : xN} (ht : tb mi pc = some (.lmul, a, b, n)) (hv : xvl y cc ml pc (.lmul, a, b, n) = true) (h : xstep X mi pc L st sh σ = some N) (k : xG p l e R s m args below meth c Q CA D A ws0 c0 s0 N.1 N.2.1 N.2.2.1 N.2.2.2.1 N.2.2.2.2) : xG p l e R s m args below meth c Q CA D A ws0 c0 s0 pc L st sh σ := by
  have hx := C.1
  unfold xstep at h
  rw [ht] at h
  obtain ⟨rfl, h1⟩ := xn1 hv
  obtain ⟨st', g1, rfl⟩ := xto_of h
  obtain ⟨x, z, r, rfl, rfl⟩ := xbinl_of g1
  intro H locs ws tys ls cs hP hK hD hS hW hE hL hs
  obtain ⟨zy, cr, rfl, rfl, hs1⟩ := hs.lg
  obtain ⟨zx, cr, rfl, rfl, hs2⟩ := hs1.lg
  refine lv_lmul hx hb (xd_of h1) ?_
  exact xs_top k hP hK hD hS hW hE hL ⟨_, rfl, by unfold lmul'; rw [x64, x64]⟩ hs2
theorem snd_land (C : xCx p R s m meth c X CA A mi) {y : MethodName} {cc : ByteArray} {ml : Nat} (hown : s.vm.findClass y.cls = some m.cls) (hb : c.code = cc) (hml : c.maxLocals = ml) {a b n : Nat} {N : xN} (ht : tb mi pc = some (.land, a, b, n)) (hv : xvl y cc ml pc (.land, a, b, n) = true) (h : xstep X mi pc L st sh σ = some N) (k : xG p l e R s m args below meth c Q CA D A ws0 c0 s0 N.1 N.2.1 N.2.2.1 N.2.2.2.1 N.2.2.2.2) : xG p l e R s m args below meth c Q CA D A ws0 c0 s0 pc L st sh σ := by
  have hx := C.1
  unfold xstep at h
  rw [ht] at h
  obtain ⟨rfl, h1⟩ := xn1 hv
  obtain ⟨st', g1, rfl⟩ := xto_of h
  obtain ⟨x, z, r, rfl, rfl⟩ := xbinl_of g1
  intro H locs ws tys ls cs hP hK hD hS hW hE hL hs
  obtain ⟨zy, cr, rfl, rfl, hs1⟩ := hs.lg
  obtain ⟨zx, cr, rfl, rfl, hs2⟩ := hs1.lg
  refine lv_land hx hb (xd_of h1) ?_
  exact xs_top k hP hK hD hS hW hE hL ⟨_, rfl, by unfold land'; rw [x64, x64]⟩ hs2
theorem snd_lor (C : xCx p R s m meth c X CA A mi) {y : MethodName} {cc : ByteArray} {ml : Nat} (hown : s.vm.findClass y.cls = some m.cls) (hb : c.code = cc) (hml : c.maxLocals = ml) {a b n : Nat} {N : xN} (ht : tb mi pc = some (.lor, a, b, n)) (hv : xvl y cc ml pc (.lor, a, b, n) = true) (h : xstep X mi pc L st sh σ = some N) (k : xG p l e R s m args below meth c Q CA D A ws0 c0 s0 N.1 N.2.1 N.2.2.1 N.2.2.2.1 N.2.2.2.2) : xG p l e R s m args below meth c Q CA D A ws0 c0 s0 pc L st sh σ := by
  have hx := C.1
  unfold xstep at h
  rw [ht] at h
  obtain ⟨rfl, h1⟩ := xn1 hv
  obtain ⟨st', g1, rfl⟩ := xto_of h
  obtain ⟨x, z, r, rfl, rfl⟩ := xbinl_of g1
  intro H locs ws tys ls cs hP hK hD hS hW hE hL hs
  obtain ⟨zy, cr, rfl, rfl, hs1⟩ := hs.lg
  obtain ⟨zx, cr, rfl, rfl, hs2⟩ := hs1.lg
  refine lv_lor hx hb (xd_of h1) ?_
  exact xs_top k hP hK hD hS hW hE hL ⟨_, rfl, by unfold lor'; rw [x64, x64]⟩ hs2
theorem snd_lshl (C : xCx p R s m meth c X CA A mi) {y : MethodName} {cc : ByteArray} {ml : Nat} (hown : s.vm.findClass y.cls = some m.cls) (hb : c.code = cc) (hml : c.maxLocals = ml) {a b n : Nat} {N : xN} (ht : tb mi pc = some (.lshl, a, b, n)) (hv : xvl y cc ml pc (.lshl, a, b, n) = true) (h : xstep X mi pc L st sh σ = some N) (k : xG p l e R s m args below meth c Q CA D A ws0 c0 s0 N.1 N.2.1 N.2.2.1 N.2.2.2.1 N.2.2.2.2) : xG p l e R s m args below meth c Q CA D A ws0 c0 s0 pc L st sh σ := by
  have hx := C.1
  unfold xstep at h
  rw [ht] at h
  obtain ⟨rfl, h1⟩ := xn1 hv
  obtain ⟨st', g1, rfl⟩ := xto_of h
  obtain ⟨x, z, r, rfl, rfl⟩ := xshf_of g1
  intro H locs ws tys ls cs hP hK hD hS hW hE hL hs
  obtain ⟨zy, cr, rfl, rfl, hs1⟩ := hs.i
  obtain ⟨zx, cr, rfl, rfl, hs2⟩ := hs1.lg
  refine lv_lshl hx hb (xd_of h1) rfl ?_
  exact xs_top k hP hK hD hS hW hE hL ⟨_, rfl, by unfold lshl'; rw [x64, x32]⟩ hs2
theorem snd_lshr (C : xCx p R s m meth c X CA A mi) {y : MethodName} {cc : ByteArray} {ml : Nat} (hown : s.vm.findClass y.cls = some m.cls) (hb : c.code = cc) (hml : c.maxLocals = ml) {a b n : Nat} {N : xN} (ht : tb mi pc = some (.lshr, a, b, n)) (hv : xvl y cc ml pc (.lshr, a, b, n) = true) (h : xstep X mi pc L st sh σ = some N) (k : xG p l e R s m args below meth c Q CA D A ws0 c0 s0 N.1 N.2.1 N.2.2.1 N.2.2.2.1 N.2.2.2.2) : xG p l e R s m args below meth c Q CA D A ws0 c0 s0 pc L st sh σ := by
  have hx := C.1
  unfold xstep at h
  rw [ht] at h
  obtain ⟨rfl, h1⟩ := xn1 hv
  obtain ⟨st', g1, rfl⟩ := xto_of h
  obtain ⟨x, z, r, rfl, rfl⟩ := xshf_of g1
  intro H locs ws tys ls cs hP hK hD hS hW hE hL hs
  obtain ⟨zy, cr, rfl, rfl, hs1⟩ := hs.i
  obtain ⟨zx, cr, rfl, rfl, hs2⟩ := hs1.lg
  refine lv_lshr hx hb (xd_of h1) rfl ?_
  exact xs_top k hP hK hD hS hW hE hL ⟨_, rfl, by unfold lshr'; rw [x64, x32]⟩ hs2
theorem snd_lushr (C : xCx p R s m meth c X CA A mi) {y : MethodName} {cc : ByteArray} {ml : Nat} (hown : s.vm.findClass y.cls = some m.cls) (hb : c.code = cc) (hml : c.maxLocals = ml) {a b n : Nat} {N : xN} (ht : tb mi pc = some (.lushr, a, b, n)) (hv : xvl y cc ml pc (.lushr, a, b, n) = true) (h : xstep X mi pc L st sh σ = some N) (k : xG p l e R s m args below meth c Q CA D A ws0 c0 s0 N.1 N.2.1 N.2.2.1 N.2.2.2.1 N.2.2.2.2) : xG p l e R s m args below meth c Q CA D A ws0 c0 s0 pc L st sh σ := by
  have hx := C.1
  unfold xstep at h
  rw [ht] at h
  obtain ⟨rfl, h1⟩ := xn1 hv
  obtain ⟨st', g1, rfl⟩ := xto_of h
  obtain ⟨x, z, r, rfl, rfl⟩ := xshf_of g1
  intro H locs ws tys ls cs hP hK hD hS hW hE hL hs
  obtain ⟨zy, cr, rfl, rfl, hs1⟩ := hs.i
  obtain ⟨zx, cr, rfl, rfl, hs2⟩ := hs1.lg
  refine lv_lushr hx hb (xd_of h1) rfl ?_
  exact xs_top k hP hK hD hS hW hE hL ⟨_, rfl, by unfold lushr'; rw [x64, x32]⟩ hs2
theorem snd_ineg (C : xCx p R s m meth c X CA A mi) {y : MethodName} {cc : ByteArray} {ml : Nat} (hown : s.vm.findClass y.cls = some m.cls) (hb : c.code = cc) (hml : c.maxLocals = ml) {a b n : Nat} {N : xN} (ht : tb mi pc = some (.ineg, a, b, n)) (hv : xvl y cc ml pc (.ineg, a, b, n) = true) (h : xstep X mi pc L st sh σ = some N) (k : xG p l e R s m args below meth c Q CA D A ws0 c0 s0 N.1 N.2.1 N.2.2.1 N.2.2.2.1 N.2.2.2.2) : xG p l e R s m args below meth c Q CA D A ws0 c0 s0 pc L st sh σ := by
  have hx := C.1
  unfold xstep at h
  rw [ht] at h
  obtain ⟨rfl, h1⟩ := xn1 hv
  obtain ⟨st', g1, rfl⟩ := xto_of h
  obtain ⟨x, r, rfl, rfl⟩ := xun_of g1
  intro H locs ws tys ls cs hP hK hD hS hW hE hL hs
  obtain ⟨zx, cr, rfl, rfl, hs1⟩ := hs.i
  refine lv_ineg hx hb (xd_of h1) ?_
  exact xs_top k hP hK hD hS hW hE hL ⟨_, rfl, by unfold xneg; rw [x32]⟩ hs1
theorem snd_i2c (C : xCx p R s m meth c X CA A mi) {y : MethodName} {cc : ByteArray} {ml : Nat} (hown : s.vm.findClass y.cls = some m.cls) (hb : c.code = cc) (hml : c.maxLocals = ml) {a b n : Nat} {N : xN} (ht : tb mi pc = some (.i2c, a, b, n)) (hv : xvl y cc ml pc (.i2c, a, b, n) = true) (h : xstep X mi pc L st sh σ = some N) (k : xG p l e R s m args below meth c Q CA D A ws0 c0 s0 N.1 N.2.1 N.2.2.1 N.2.2.2.1 N.2.2.2.2) : xG p l e R s m args below meth c Q CA D A ws0 c0 s0 pc L st sh σ := by
  have hx := C.1
  unfold xstep at h
  rw [ht] at h
  obtain ⟨rfl, h1⟩ := xn1 hv
  obtain ⟨st', g1, rfl⟩ := xto_of h
  obtain ⟨x, r, rfl, rfl⟩ := xun_of g1
  intro H locs ws tys ls cs hP hK hD hS hW hE hL hs
  obtain ⟨zx, cr, rfl, rfl, hs1⟩ := hs.i
  refine lv_i2c hx hb (xd_of h1) rfl ?_
  exact xs_top k hP hK hD hS hW hE hL ⟨_, rfl, by unfold xi2c; rw [x32]⟩ hs1
theorem snd_i2b (C : xCx p R s m meth c X CA A mi) {y : MethodName} {cc : ByteArray} {ml : Nat} (hown : s.vm.findClass y.cls = some m.cls) (hb : c.code = cc) (hml : c.maxLocals = ml) {a b n : Nat} {N : xN} (ht : tb mi pc = some (.i2b, a, b, n)) (hv : xvl y cc ml pc (.i2b, a, b, n) = true) (h : xstep X mi pc L st sh σ = some N) (k : xG p l e R s m args below meth c Q CA D A ws0 c0 s0 N.1 N.2.1 N.2.2.1 N.2.2.2.1 N.2.2.2.2) : xG p l e R s m args below meth c Q CA D A ws0 c0 s0 pc L st sh σ := by
  have hx := C.1
  unfold xstep at h
  rw [ht] at h
  obtain ⟨rfl, h1⟩ := xn1 hv
  obtain ⟨st', g1, rfl⟩ := xto_of h
  obtain ⟨x, r, rfl, rfl⟩ := xun_of g1
  intro H locs ws tys ls cs hP hK hD hS hW hE hL hs
  obtain ⟨zx, cr, rfl, rfl, hs1⟩ := hs.i
  refine lv_i2b hx hb (xd_of h1) rfl ?_
  exact xs_top k hP hK hD hS hW hE hL ⟨_, rfl, by unfold xi2b; rw [x32]⟩ hs1
theorem snd_idiv (C : xCx p R s m meth c X CA A mi) {y : MethodName} {cc : ByteArray} {ml : Nat} (hown : s.vm.findClass y.cls = some m.cls) (hb : c.code = cc) (hml : c.maxLocals = ml) {a b n : Nat} {N : xN} (ht : tb mi pc = some (.idiv, a, b, n)) (hv : xvl y cc ml pc (.idiv, a, b, n) = true) (h : xstep X mi pc L st sh σ = some N) (k : xG p l e R s m args below meth c Q CA D A ws0 c0 s0 N.1 N.2.1 N.2.2.1 N.2.2.2.1 N.2.2.2.2) : xG p l e R s m args below meth c Q CA D A ws0 c0 s0 pc L st sh σ := by
  have hx := C.1
  unfold xstep at h
  rw [ht] at h
  obtain ⟨rfl, h1⟩ := xn1 hv
  dsimp only at h
  split at h
  · rename_i z x r
    split at h
    · cases h
    · rename_i hz
      cases h
      intro H locs ws tys ls cs hP hK hD hS hW hE hL hs
      obtain ⟨zy, cr, rfl, rfl, hs1⟩ := hs.i
      obtain ⟨zx, cr, rfl, rfl, hs2⟩ := hs1.i
      refine lv_idiv hx hb (xd_of h1) (fun g => hz (by rw [g]; rfl)) ?_
      exact xs_top k hP hK hD hS hW hE hL ⟨_, rfl, by unfold xdiv; rw [x32, x32]⟩ hs2
  · cases h
theorem snd_irem (C : xCx p R s m meth c X CA A mi) {y : MethodName} {cc : ByteArray} {ml : Nat} (hown : s.vm.findClass y.cls = some m.cls) (hb : c.code = cc) (hml : c.maxLocals = ml) {a b n : Nat} {N : xN} (ht : tb mi pc = some (.irem, a, b, n)) (hv : xvl y cc ml pc (.irem, a, b, n) = true) (h : xstep X mi pc L st sh σ = some N) (k : xG p l e R s m args below meth c Q CA D A ws0 c0 s0 N.1 N.2.1 N.2.2.1 N.2.2.2.1 N.2.2.2.2) : xG p l e R s m args below meth c Q CA D A ws0 c0 s0 pc L st sh σ := by
  have hx := C.1
  unfold xstep at h
  rw [ht] at h
  obtain ⟨rfl, h1⟩ := xn1 hv
  dsimp only at h
  split at h
  · rename_i z x r
    split at h
    · cases h
    · rename_i hz
      cases h
      intro H locs ws tys ls cs hP hK hD hS hW hE hL hs
      obtain ⟨zy, cr, rfl, rfl, hs1⟩ := hs.i
      obtain ⟨zx, cr, rfl, rfl, hs2⟩ := hs1.i
      refine lv_irem hx hb (xd_of h1) (fun g => hz (by rw [g]; rfl)) ?_
      exact xs_top k hP hK hD hS hW hE hL ⟨_, rfl, by unfold xrem; rw [x32, x32]⟩ hs2
  · cases h
theorem snd_lcmp (C : xCx p R s m meth c X CA A mi) {y : MethodName} {cc : ByteArray} {ml : Nat} (hown : s.vm.findClass y.cls = some m.cls) (hb : c.code = cc) (hml : c.maxLocals = ml) {a b n : Nat} {N : xN} (ht : tb mi pc = some (.lcmp, a, b, n)) (hv : xvl y cc ml pc (.lcmp, a, b, n) = true) (h : xstep X mi pc L st sh σ = some N) (k : xG p l e R s m args below meth c Q CA D A ws0 c0 s0 N.1 N.2.1 N.2.2.1 N.2.2.2.1 N.2.2.2.2) : xG p l e R s m args below meth c Q CA D A ws0 c0 s0 pc L st sh σ := by
  have hx := C.1
  unfold xstep at h
  rw [ht] at h
  obtain ⟨rfl, h1⟩ := xn1 hv
  dsimp only at h
  split at h
  · rename_i z x r
    cases h
    intro H locs ws tys ls cs hP hK hD hS hW hE hL hs
    obtain ⟨zy, cr, rfl, rfl, hs1⟩ := hs.lg
    obtain ⟨zx, cr, rfl, rfl, hs2⟩ := hs1.lg
    refine W.lcmp hx hb (xd_of h1) ?_
    exact xs_top k hP hK hD hS hW hE hL ⟨_, rfl, (xcmp_eq _ _).symm⟩ hs2
  · cases h
theorem snd_i2l (C : xCx p R s m meth c X CA A mi) {y : MethodName} {cc : ByteArray} {ml : Nat} (hown : s.vm.findClass y.cls = some m.cls) (hb : c.code = cc) (hml : c.maxLocals = ml) {a b n : Nat} {N : xN} (ht : tb mi pc = some (.i2l, a, b, n)) (hv : xvl y cc ml pc (.i2l, a, b, n) = true) (h : xstep X mi pc L st sh σ = some N) (k : xG p l e R s m args below meth c Q CA D A ws0 c0 s0 N.1 N.2.1 N.2.2.1 N.2.2.2.1 N.2.2.2.2) : xG p l e R s m args below meth c Q CA D A ws0 c0 s0 pc L st sh σ := by
  have hx := C.1
  unfold xstep at h
  rw [ht] at h
  obtain ⟨rfl, h1⟩ := xn1 hv
  dsimp only at h
  split at h
  · rename_i x r
    cases h
    intro H locs ws tys ls cs hP hK hD hS hW hE hL hs
    obtain ⟨zx, cr, rfl, rfl, hs1⟩ := hs.i
    refine lv_i2l hx hb (xd_of h1) rfl ?_
    exact xs_top k hP hK hD hS hW hE hL ⟨_, rfl, (Int32.toInt_toInt64 zx).symm⟩ hs1
  · cases h
theorem snd_l2i (C : xCx p R s m meth c X CA A mi) {y : MethodName} {cc : ByteArray} {ml : Nat} (hown : s.vm.findClass y.cls = some m.cls) (hb : c.code = cc) (hml : c.maxLocals = ml) {a b n : Nat} {N : xN} (ht : tb mi pc = some (.l2i, a, b, n)) (hv : xvl y cc ml pc (.l2i, a, b, n) = true) (h : xstep X mi pc L st sh σ = some N) (k : xG p l e R s m args below meth c Q CA D A ws0 c0 s0 N.1 N.2.1 N.2.2.1 N.2.2.2.1 N.2.2.2.2) : xG p l e R s m args below meth c Q CA D A ws0 c0 s0 pc L st sh σ := by
  have hx := C.1
  unfold xstep at h
  rw [ht] at h
  obtain ⟨rfl, h1⟩ := xn1 hv
  dsimp only at h
  split at h
  · rename_i x r
    cases h
    intro H locs ws tys ls cs hP hK hD hS hW hE hL hs
    obtain ⟨zx, cr, rfl, rfl, hs1⟩ := hs.lg
    refine lv_l2i hx hb (xd_of h1) rfl ?_
    exact xs_top k hP hK hD hS hW hE hL ⟨_, rfl, by unfold xl2i; rw [x64]⟩ hs1
  · cases h
theorem snd_iconst {v : Int} (C : xCx p R s m meth c X CA A mi) {y : MethodName} {cc : ByteArray} {ml : Nat} (hown : s.vm.findClass y.cls = some m.cls) (hb : c.code = cc) (hml : c.maxLocals = ml) {a b n : Nat} {N : xN} (ht : tb mi pc = some (.iconst v, a, b, n)) (hv : xvl y cc ml pc (.iconst v, a, b, n) = true) (h : xstep X mi pc L st sh σ = some N) (k : xG p l e R s m args below meth c Q CA D A ws0 c0 s0 N.1 N.2.1 N.2.2.1 N.2.2.2.1 N.2.2.2.2) : xG p l e R s m args below meth c Q CA D A ws0 c0 s0 pc L st sh σ := by
  have hx := C.1
  unfold xstep at h
  rw [ht] at h
  cases h
  intro H locs ws tys ls cs hP hK hD hS hW hE hL hs
  have hv : ((n == 1 && xd cc pc (.iconst v) 1 && decide ((Int32.ofInt v).toInt = v)) || (n == 2 && xd cc pc (.bipush v) 2 && decide (((Int8.ofInt v).toInt32).toInt = v)) || (n == 3 && xd cc pc (.sipush v) 3 && decide (((Int16.ofInt v).toInt32).toInt = v)) || (decide ((Int32.ofInt v).toInt = v) && xw a (.constant y.cls b (Int32.ofInt v)) && ((n == 2 && xd cc pc (.ldc b) 2) || (n == 3 && xd cc pc (.ldc_w b) 3)))) = true := hv
  simp only [Bool.or_eq_true, Bool.and_eq_true, beq_iff_eq, decide_eq_true_eq] at hv
  rcases hv with ((⟨⟨rfl, h1⟩, h2⟩ | ⟨⟨rfl, h1⟩, h2⟩) | ⟨⟨rfl, h1⟩, h2⟩) | ⟨⟨h2, hw⟩, (⟨rfl, h1⟩ | ⟨rfl, h1⟩)⟩
  · exact lv_iconst hx hb (xd_of h1) rfl (xs_top k hP hK hD hS hW hE hL ⟨_, rfl, h2.symm⟩ hs)
  · exact lv_bipush hx hb (xd_of h1) rfl (xs_top k hP hK hD hS hW hE hL ⟨_, rfl, h2.symm⟩ hs)
  · exact lv_sipush hx hb (xd_of h1) rfl (xs_top k hP hK hD hS hW hE hL ⟨_, rfl, h2.symm⟩ hs)
  · exact lv_ldc hx hb hown (C.2.2.1.1 _ (xw_of hw) rfl args) (xd_of h1) (xs_top k hP hK hD hS hW hE hL ⟨_, rfl, h2.symm⟩ hs)
  · exact lv_ldcw hx hb hown (C.2.2.1.1 _ (xw_of hw) rfl args) (xd_of h1) (xs_top k hP hK hD hS hW hE hL ⟨_, rfl, h2.symm⟩ hs)
theorem snd_lconst {v : Int} (C : xCx p R s m meth c X CA A mi) {y : MethodName} {cc : ByteArray} {ml : Nat} (hown : s.vm.findClass y.cls = some m.cls) (hb : c.code = cc) (hml : c.maxLocals = ml) {a b n : Nat} {N : xN} (ht : tb mi pc = some (.sipush v, a, b, n)) (hv : xvl y cc ml pc (.sipush v, a, b, n) = true) (h : xstep X mi pc L st sh σ = some N) (k : xG p l e R s m args below meth c Q CA D A ws0 c0 s0 N.1 N.2.1 N.2.2.1 N.2.2.2.1 N.2.2.2.2) : xG p l e R s m args below meth c Q CA D A ws0 c0 s0 pc L st sh σ := by
  have hx := C.1
  unfold xstep at h
  rw [ht] at h
  cases h
  intro H locs ws tys ls cs hP hK hD hS hW hE hL hs
  have hv : ((n == 1 && v == 0 && xd cc pc (.lconst 0) 1) || (n == 1 && v == 1 && xd cc pc (.lconst 1) 1) || (n == 3 && xd cc pc (.ldc2_w b) 3 && xw a (.constantLong y.cls b (Int64.ofInt v)) && decide ((Int64.ofInt v).toInt = v))) = true := hv
  simp only [Bool.or_eq_true, Bool.and_eq_true, beq_iff_eq, decide_eq_true_eq] at hv
  rcases hv with (⟨⟨rfl, rfl⟩, h1⟩ | ⟨⟨rfl, rfl⟩, h1⟩) | ⟨⟨⟨rfl, h1⟩, hw⟩, h2⟩
  · exact lv_lconst hx hb (xd_of h1) rfl (xs_top k hP hK hD hS hW hE hL ⟨_, rfl, rfl⟩ hs)
  · exact lv_lconst hx hb (xd_of h1) rfl (xs_top k hP hK hD hS hW hE hL ⟨_, rfl, rfl⟩ hs)
  · exact lv_ldc2 hx hb hown (C.2.2.1.1 _ (xw_of hw) rfl args) (xd_of h1) (xs_top k hP hK hD hS hW hE hL ⟨_, rfl, h2.symm⟩ hs)
theorem snd_ldcs {v : Nat} (C : xCx p R s m meth c X CA A mi) {y : MethodName} {cc : ByteArray} {ml : Nat} (hown : s.vm.findClass y.cls = some m.cls) (hb : c.code = cc) (hml : c.maxLocals = ml) {a b n : Nat} {N : xN} (ht : tb mi pc = some (.ldc v, a, b, n)) (hv : xvl y cc ml pc (.ldc v, a, b, n) = true) (h : xstep X mi pc L st sh σ = some N) (k : xG p l e R s m args below meth c Q CA D A ws0 c0 s0 N.1 N.2.1 N.2.2.1 N.2.2.2.1 N.2.2.2.2) : xG p l e R s m args below meth c Q CA D A ws0 c0 s0 pc L st sh σ := by
  have hx := C.1
  unfold xstep at h
  rw [ht] at h
  cases h
  intro H locs ws tys ls cs hP hK hD hS hW hE hL hs
  have hv : (n == 2 && xd cc pc (.ldc b) 2 && xw a (.stringRef y.cls b (xtext v)) && decide (10 ≤ v ∧ v < 23)) = true := hv
  simp only [Bool.and_eq_true, beq_iff_eq, decide_eq_true_eq] at hv
  obtain ⟨⟨⟨rfl, h1⟩, hw⟩, h2, h3⟩ := hv
  exact va_ldcS hx hb hown (C.2.2.1.2.2.2.2.2.2 _ _ _ v (xw_of hw) h2 h3 rfl) (xd_of h1) (xs_top k hP hK hD hS hW hE hL (show (if v = 98 then _ else _) by rw [if_neg (by omega)]) hs)
theorem snd_null (C : xCx p R s m meth c X CA A mi) {y : MethodName} {cc : ByteArray} {ml : Nat} (hown : s.vm.findClass y.cls = some m.cls) (hb : c.code = cc) (hml : c.maxLocals = ml) {a b n : Nat} {N : xN} (ht : tb mi pc = some (.aconst_null, a, b, n)) (hv : xvl y cc ml pc (.aconst_null, a, b, n) = true) (h : xstep X mi pc L st sh σ = some N) (k : xG p l e R s m args below meth c Q CA D A ws0 c0 s0 N.1 N.2.1 N.2.2.1 N.2.2.2.1 N.2.2.2.2) : xG p l e R s m args below meth c Q CA D A ws0 c0 s0 pc L st sh σ := by
  have hx := C.1
  unfold xstep at h
  rw [ht] at h
  obtain ⟨rfl, h1⟩ := xn1 hv
  cases h
  intro H locs ws tys ls cs hP hK hD hS hW hE hL hs
  exact lv_null hx hb (xd_of h1) (xs_top k hP hK hD hS hW hE hL rfl hs)
theorem snd_iload {i : Nat} (C : xCx p R s m meth c X CA A mi) {y : MethodName} {cc : ByteArray} {ml : Nat} (hown : s.vm.findClass y.cls = some m.cls) (hb : c.code = cc) (hml : c.maxLocals = ml) {a b n : Nat} {N : xN} (ht : tb mi pc = some (.iload i, a, b, n)) (hv : xvl y cc ml pc (.iload i, a, b, n) = true) (h : xstep X mi pc L st sh σ = some N) (k : xG p l e R s m args below meth c Q CA D A ws0 c0 s0 N.1 N.2.1 N.2.2.1 N.2.2.2.1 N.2.2.2.2) : xG p l e R s m args below meth c Q CA D A ws0 c0 s0 pc L st sh σ := by
  have hx := C.1
  unfold xstep at h
  rw [ht] at h
  dsimp only at h
  split at h
  · rename_i x hl
    cases h
    intro H locs ws tys ls cs hP hK hD hS hW hE hL hs
    obtain ⟨cv, h2, zx, rfl, rfl⟩ := hL.2.2 _ _ hl
    have hv : ((n == 1 && decide (i < 4) && xd cc pc (.iload_n (Fin.ofNat 4 i)) 1) || (n == 2 && xd cc pc (.iload i) 2)) = true := hv
    simp only [Bool.or_eq_true, Bool.and_eq_true, beq_iff_eq, decide_eq_true_eq] at hv
    rcases hv with ⟨⟨rfl, h4⟩, h1⟩ | ⟨rfl, h1⟩
    · exact lv_iload_n hx hb (xd_of h1) (xfin4 h4) h2 (xs_top k hP hK hD hS hW hE hL ⟨_, rfl, rfl⟩ hs)
    · exact lv_iload hx hb (xd_of h1) h2 (xs_top k hP hK hD hS hW hE hL ⟨_, rfl, rfl⟩ hs)
  · cases h
theorem snd_lload {i : Nat} (C : xCx p R s m meth c X CA A mi) {y : MethodName} {cc : ByteArray} {ml : Nat} (hown : s.vm.findClass y.cls = some m.cls) (hb : c.code = cc) (hml : c.maxLocals = ml) {a b n : Nat} {N : xN} (ht : tb mi pc = some (.lload i, a, b, n)) (hv : xvl y cc ml pc (.lload i, a, b, n) = true) (h : xstep X mi pc L st sh σ = some N) (k : xG p l e R s m args below meth c Q CA D A ws0 c0 s0 N.1 N.2.1 N.2.2.1 N.2.2.2.1 N.2.2.2.2) : xG p l e R s m args below meth c Q CA D A ws0 c0 s0 pc L st sh σ := by
  have hx := C.1
  unfold xstep at h
  rw [ht] at h
  dsimp only at h
  split at h
  · rename_i x hl
    cases h
    intro H locs ws tys ls cs hP hK hD hS hW hE hL hs
    obtain ⟨cv, h2, zx, rfl, rfl⟩ := hL.2.2 _ _ hl
    have hv : ((n == 1 && decide (i < 4) && xd cc pc (.lload_n (Fin.ofNat 4 i)) 1) || (n == 2 && xd cc pc (.lload i) 2)) = true := hv
    simp only [Bool.or_eq_true, Bool.and_eq_true, beq_iff_eq, decide_eq_true_eq] at hv
    rcases hv with ⟨⟨rfl, h4⟩, h1⟩ | ⟨rfl, h1⟩
    · exact lv_lload_n hx hb (xd_of h1) (xfin4 h4) h2 (xs_top k hP hK hD hS hW hE hL ⟨_, rfl, rfl⟩ hs)
    · exact lv_lload hx hb (xd_of h1) h2 (xs_top k hP hK hD hS hW hE hL ⟨_, rfl, rfl⟩ hs)
  · cases h
end XT
