/-! the step rows, second half: locals, stack, branches -/
section XU
variable {p : Program} {l : Launch} {e : Env} {R : Room} {s : State} {m : MethodId} {args : Array Value} {below : List Frame} {meth : Method} {c : Code} {Q : State → Prop}
variable {X : Nat × (Nat → Int)} {CA : Nat → Nat} {D : va_G} {A : Nat → Prop} {ws0 : va_W} {c0 s0 mi pc : Nat} {L : List (Option xV)} {st : List xV} {sh : List xSh} {σ : xM}
theorem snd_aload {i : Nat} (C : xCx p R s m meth c X CA A mi) {y : MethodName} {cc : ByteArray} {ml : Nat} (hown : s.vm.findClass y.cls = some m.cls) (hb : c.code = cc) (hml : c.maxLocals = ml) {a b n : Nat} {N : xN} (ht : tb mi pc = some (.aload i, a, b, n)) (hv : xvl y cc ml pc (.aload i, a, b, n) = true) (h : xstep X mi pc L st sh σ = some N) (k : xG p l e R s m args below meth c Q CA D A ws0 c0 s0 N.1 N.2.1 N.2.2.1 N.2.2.2.1 N.2.2.2.2) : xG p l e R s m args below meth c Q CA D A ws0 c0 s0 pc L st sh σ := by
  have hx := C.1
  unfold xstep at h
  rw [ht] at h
  dsimp only at h
  split at h
  · rename_i x hl
    cases h
    intro H locs ws tys ls cs hP hK hD hS hW hE hL hs
    obtain ⟨cv, h2, hr⟩ := hL.2.2 _ _ hl
    have hv : ((n == 1 && decide (i < 4) && xd cc pc (.aload_n (Fin.ofNat 4 i)) 1) || (n == 2 && xd cc pc (.aload i) 2)) = true := hv
    simp only [Bool.or_eq_true, Bool.and_eq_true, beq_iff_eq, decide_eq_true_eq] at hv
    have hcv : cv = .null ∨ ∃ q, cv = .ref q := by
      rcases x with (_ | q) | q
      · exact Or.inl hr
      · obtain ⟨q, e, -, h⟩ := hr
        exact Or.inr ⟨q, h⟩
      · have hr : (if q = 98 then (cv = .null ∨ ∃ a, cv = .ref a) else cv = .ref (CA q)) := hr
        split at hr
        · exact hr
        · exact Or.inr ⟨_, hr⟩
    rcases hv with ⟨⟨rfl, h4⟩, h1⟩ | ⟨rfl, h1⟩
    · rcases hcv with rfl | ⟨q, rfl⟩
      · exact lv_aload_nN hx hb (xd_of h1) (xfin4 h4) h2 (xs_top k hP hK hD hS hW hE hL hr hs)
      · exact lv_aload_n hx hb (xd_of h1) (xfin4 h4) h2 (xs_top k hP hK hD hS hW hE hL hr hs)
    · rcases hcv with rfl | ⟨q, rfl⟩
      · exact lv_aloadN hx hb (xd_of h1) h2 (xs_top k hP hK hD hS hW hE hL hr hs)
      · exact lv_aload hx hb (xd_of h1) h2 (xs_top k hP hK hD hS hW hE hL hr hs)
  · cases h
theorem snd_istore {i : Nat} (C : xCx p R s m meth c X CA A mi) {y : MethodName} {cc : ByteArray} {ml : Nat} (hown : s.vm.findClass y.cls = some m.cls) (hb : c.code = cc) (hml : c.maxLocals = ml) {a b n : Nat} {N : xN} (ht : tb mi pc = some (.istore i, a, b, n)) (hv : xvl y cc ml pc (.istore i, a, b, n) = true) (h : xstep X mi pc L st sh σ = some N) (k : xG p l e R s m args below meth c Q CA D A ws0 c0 s0 N.1 N.2.1 N.2.2.1 N.2.2.2.1 N.2.2.2.2) : xG p l e R s m args below meth c Q CA D A ws0 c0 s0 pc L st sh σ := by
  have hx := C.1
  unfold xstep at h
  rw [ht] at h
  dsimp only at h
  split at h
  · rename_i x r
    cases h
    intro H locs ws tys ls cs hP hK hD hS hW hE hL hs
    obtain ⟨zx, cr, rfl, rfl, hs1⟩ := hs.i
    have hv : (decide (i < ml) && (n == 1 && decide (i < 4) && xd cc pc (.istore_n (Fin.ofNat 4 i)) 1 || n == 2 && xd cc pc (.istore i) 2)) = true := hv
    simp only [Bool.or_eq_true, Bool.and_eq_true, beq_iff_eq, decide_eq_true_eq] at hv
    obtain ⟨lv, h2, h3⟩ := hL.lv
    obtain ⟨hi, hv⟩ := hv
    rcases hv with ⟨⟨rfl, h4⟩, h1⟩ | ⟨rfl, h1⟩
    · exact lv_istore_n hx hb (xd_of h1) (xfin4 h4) h2 (by rw [hml]; exact hi) rfl (fun ls' hl' => k H locs ws tys ls' cr hP hK hD hS hW hE (xLR.st1 h3 ⟨zx, rfl, rfl⟩ hl') hs1)
    · exact lv_istore hx hb (xd_of h1) h2 (by rw [hml]; exact hi) rfl (fun ls' hl' => k H locs ws tys ls' cr hP hK hD hS hW hE (xLR.st1 h3 ⟨zx, rfl, rfl⟩ hl') hs1)
  · cases h
theorem snd_lstore {i : Nat} (C : xCx p R s m meth c X CA A mi) {y : MethodName} {cc : ByteArray} {ml : Nat} (hown : s.vm.findClass y.cls = some m.cls) (hb : c.code = cc) (hml : c.maxLocals = ml) {a b n : Nat} {N : xN} (ht : tb mi pc = some (.lstore i, a, b, n)) (hv : xvl y cc ml pc (.lstore i, a, b, n) = true) (h : xstep X mi pc L st sh σ = some N) (k : xG p l e R s m args below meth c Q CA D A ws0 c0 s0 N.1 N.2.1 N.2.2.1 N.2.2.2.1 N.2.2.2.2) : xG p l e R s m args below meth c Q CA D A ws0 c0 s0 pc L st sh σ := by
  have hx := C.1
  unfold xstep at h
  rw [ht] at h
  dsimp only at h
  split at h
  · rename_i x r
    cases h
    intro H locs ws tys ls cs hP hK hD hS hW hE hL hs
    obtain ⟨zx, cr, rfl, rfl, hs1⟩ := hs.lg
    have hv : (decide (i + 1 < ml) && (n == 1 && decide (i < 4) && xd cc pc (.lstore_n (Fin.ofNat 4 i)) 1 || n == 2 && xd cc pc (.lstore i) 2)) = true := hv
    simp only [Bool.or_eq_true, Bool.and_eq_true, beq_iff_eq, decide_eq_true_eq] at hv
    obtain ⟨lv, h2, h3⟩ := hL.lv
    obtain ⟨hi, hv⟩ := hv
    rcases hv with ⟨⟨rfl, h4⟩, h1⟩ | ⟨rfl, h1⟩
    · exact lv_lstore_n hx hb (xd_of h1) (xfin4 h4) h2 (by rw [hml]; exact hi) rfl (fun ls' hl' => k H locs ws tys ls' cr hP hK hD hS hW hE (xLR.st2 h3 ⟨zx, rfl, rfl⟩ hl') hs1)
    · exact lv_lstore hx hb (xd_of h1) h2 (by rw [hml]; exact hi) rfl (fun ls' hl' => k H locs ws tys ls' cr hP hK hD hS hW hE (xLR.st2 h3 ⟨zx, rfl, rfl⟩ hl') hs1)
  · cases h
theorem snd_astore {i : Nat} (C : xCx p R s m meth c X CA A mi) {y : MethodName} {cc : ByteArray} {ml : Nat} (hown : s.vm.findClass y.cls = some m.cls) (hb : c.code = cc) (hml : c.maxLocals = ml) {a b n : Nat} {N : xN} (ht : tb mi pc = some (.astore i, a, b, n)) (hv : xvl y cc ml pc (.astore i, a, b, n) = true) (h : xstep X mi pc L st sh σ = some N) (k : xG p l e R s m args below meth c Q CA D A ws0 c0 s0 N.1 N.2.1 N.2.2.1 N.2.2.2.1 N.2.2.2.2) : xG p l e R s m args below meth c Q CA D A ws0 c0 s0 pc L st sh σ := by
  have hx := C.1
  unfold xstep at h
  rw [ht] at h
  dsimp only at h
  split at h
  · rename_i x r
    cases h
    intro H locs ws tys ls cs hP hK hD hS hW hE hL hs
    obtain ⟨cv, cr, rfl, hr, hs1⟩ := hs.q
    have hv : (decide (i < ml) && (n == 1 && decide (i < 4) && xd cc pc (.astore_n (Fin.ofNat 4 i)) 1 || n == 2 && xd cc pc (.astore i) 2)) = true := hv
    simp only [Bool.or_eq_true, Bool.and_eq_true, beq_iff_eq, decide_eq_true_eq] at hv
    obtain ⟨lv, h2, h3⟩ := hL.lv
    obtain ⟨hi, hv⟩ := hv
    have hcv : cv = .null ∨ ∃ q, cv = .ref q := by
      rcases x with _ | q
      · exact Or.inl hr
      · obtain ⟨q, e, -, h⟩ := hr
        exact Or.inr ⟨q, h⟩
    rcases hv with ⟨⟨rfl, h4⟩, h1⟩ | ⟨rfl, h1⟩
    · rcases hcv with rfl | ⟨q, rfl⟩
      · exact lv_astore_nN hx hb (xd_of h1) (xfin4 h4) h2 (by rw [hml]; exact hi) rfl (fun ls' hl' => k H locs ws tys ls' cr hP hK hD hS hW hE (xLR.st1 h3 hr hl') hs1)
      · exact lv_astore_n hx hb (xd_of h1) (xfin4 h4) h2 (by rw [hml]; exact hi) rfl (fun ls' hl' => k H locs ws tys ls' cr hP hK hD hS hW hE (xLR.st1 h3 hr hl') hs1)
    · rcases hcv with rfl | ⟨q, rfl⟩
      · exact lv_astoreN hx hb (xd_of h1) h2 (by rw [hml]; exact hi) rfl (fun ls' hl' => k H locs ws tys ls' cr hP hK hD hS hW hE (xLR.st1 h3 hr hl') hs1)
      · exact lv_astore hx hb (xd_of h1) h2 (by rw [hml]; exact hi) rfl (fun ls' hl' => k H locs ws tys ls' cr hP hK hD hS hW hE (xLR.st1 h3 hr hl') hs1)
  · cases h
theorem snd_iinc {i : Nat} {v : Int} (C : xCx p R s m meth c X CA A mi) {y : MethodName} {cc : ByteArray} {ml : Nat} (hown : s.vm.findClass y.cls = some m.cls) (hb : c.code = cc) (hml : c.maxLocals = ml) {a b n : Nat} {N : xN} (ht : tb mi pc = some (.iinc i v, a, b, n)) (hv : xvl y cc ml pc (.iinc i v, a, b, n) = true) (h : xstep X mi pc L st sh σ = some N) (k : xG p l e R s m args below meth c Q CA D A ws0 c0 s0 N.1 N.2.1 N.2.2.1 N.2.2.2.1 N.2.2.2.2) : xG p l e R s m args below meth c Q CA D A ws0 c0 s0 pc L st sh σ := by
  have hx := C.1
  unfold xstep at h
  rw [ht] at h
  dsimp only at h
  split at h
  · rename_i x hl
    cases h
    intro H locs ws tys ls cs hP hK hD hS hW hE hL hs
    obtain ⟨lv, h2, h3⟩ := hL.lv
    obtain ⟨cv, hm, zx, rfl, rfl⟩ := h3 _ _ hl
    have hv : (decide (i < ml) && n == 3 && xd cc pc (.iinc i v) 3) = true := hv
    simp only [Bool.and_eq_true, beq_iff_eq, decide_eq_true_eq] at hv
    obtain ⟨⟨hi, rfl⟩, h1⟩ := hv
    obtain ⟨q, hq⟩ := List.getElem?_of_mem hm
    exact lv_iinc hx hb (xd_of h1) h2 hq rfl (by rw [hml]; exact hi) rfl (fun ls' hl' => k H locs ws tys ls' cs hP hK hD hS hW hE (xLR.st1 h3 ⟨_, rfl, by unfold xadd; rw [x32]⟩ hl') hs)
  · cases h
theorem snd_dup (C : xCx p R s m meth c X CA A mi) {y : MethodName} {cc : ByteArray} {ml : Nat} (hown : s.vm.findClass y.cls = some m.cls) (hb : c.code = cc) (hml : c.maxLocals = ml) {a b n : Nat} {N : xN} (ht : tb mi pc = some (.dup, a, b, n)) (hv : xvl y cc ml pc (.dup, a, b, n) = true) (h : xstep X mi pc L st sh σ = some N) (k : xG p l e R s m args below meth c Q CA D A ws0 c0 s0 N.1 N.2.1 N.2.2.1 N.2.2.2.1 N.2.2.2.2) : xG p l e R s m args below meth c Q CA D A ws0 c0 s0 pc L st sh σ := by
  have hx := C.1
  unfold xstep at h
  rw [ht] at h
  obtain ⟨rfl, h1⟩ := xn1 hv
  dsimp only at h
  split at h
  · rename_i q r
    cases h
    intro H locs ws tys ls cs hP hK hD hS hW hE hL hs
    obtain ⟨cv, cr, rfl, hr, hs1⟩ := hs.q
    exact lv_dup hx hb (xd_of h1) hr.cat (xs_top k hP hK hD hS hW hE hL hr ⟨hr, hs1⟩)
  · rename_i x r
    cases h
    intro H locs ws tys ls cs hP hK hD hS hW hE hL hs
    obtain ⟨cv, cr, rfl, hr, hs1⟩ := hs.q
    exact lv_dup hx hb (xd_of h1) hr.cat (xs_top k hP hK hD hS hW hE hL hr ⟨hr, hs1⟩)
  · cases h
theorem snd_pop (C : xCx p R s m meth c X CA A mi) {y : MethodName} {cc : ByteArray} {ml : Nat} (hown : s.vm.findClass y.cls = some m.cls) (hb : c.code = cc) (hml : c.maxLocals = ml) {a b n : Nat} {N : xN} (ht : tb mi pc = some (.pop, a, b, n)) (hv : xvl y cc ml pc (.pop, a, b, n) = true) (h : xstep X mi pc L st sh σ = some N) (k : xG p l e R s m args below meth c Q CA D A ws0 c0 s0 N.1 N.2.1 N.2.2.1 N.2.2.2.1 N.2.2.2.2) : xG p l e R s m args below meth c Q CA D A ws0 c0 s0 pc L st sh σ := by
  have hx := C.1
  unfold xstep at h
  rw [ht] at h
  obtain ⟨rfl, h1⟩ := xn1 hv
  dsimp only at h
  split at h
  · rename_i q r
    cases h
    intro H locs ws tys ls cs hP hK hD hS hW hE hL hs
    obtain ⟨cv, cr, rfl, hr, hs1⟩ := hs.q
    exact lv_pop hx hb (xd_of h1) hr.cat (k H locs ws tys ls cr hP hK hD hS hW hE hL hs1)
  · rename_i x r
    cases h
    intro H locs ws tys ls cs hP hK hD hS hW hE hL hs
    obtain ⟨cv, cr, rfl, hr, hs1⟩ := hs.q
    exact lv_pop hx hb (xd_of h1) hr.cat (k H locs ws tys ls cr hP hK hD hS hW hE hL hs1)
  · cases h
theorem snd_dup2 (C : xCx p R s m meth c X CA A mi) {y : MethodName} {cc : ByteArray} {ml : Nat} (hown : s.vm.findClass y.cls = some m.cls) (hb : c.code = cc) (hml : c.maxLocals = ml) {a b n : Nat} {N : xN} (ht : tb mi pc = some (.dup2, a, b, n)) (hv : xvl y cc ml pc (.dup2, a, b, n) = true) (h : xstep X mi pc L st sh σ = some N) (k : xG p l e R s m args below meth c Q CA D A ws0 c0 s0 N.1 N.2.1 N.2.2.1 N.2.2.2.1 N.2.2.2.2) : xG p l e R s m args below meth c Q CA D A ws0 c0 s0 pc L st sh σ := by
  have hx := C.1
  unfold xstep at h
  rw [ht] at h
  obtain ⟨rfl, h1⟩ := xn1 hv
  dsimp only at h
  split at h
  · rename_i q r
    cases h
    intro H locs ws tys ls cs hP hK hD hS hW hE hL hs
    obtain ⟨cv, cr, rfl, hr, hs1⟩ := hs.q
    obtain ⟨cw, cr, rfl, hr2, hs2⟩ := hs1.q
    exact lv_dup2_11 hx hb (xd_of h1) hr.cat hr2.cat (xs_top k hP hK hD hS hW hE hL hr ⟨hr2, hr, hr2, hs2⟩)
  · cases h
theorem x_lt (x y : Int32) : x < y ↔ x.toInt < y.toInt := Int32.lt_iff_toInt_lt
theorem x_le (x y : Int32) : x ≤ y ↔ x.toInt ≤ y.toInt := Int32.le_iff_toInt_le
theorem x_eq (x y : Int32) : x = y ↔ x.toInt = y.toInt := Int32.toInt_inj.symm
theorem x_tg {pc : Nat} {t : Int} (h : 0 ≤ t) : (pc : Int) + (t - pc) = (t.toNat : Int) := by omega
theorem snd_ifc {cn : ClassFile.Cond} {t : Int} (C : xCx p R s m meth c X CA A mi) {y : MethodName} {cc : ByteArray} {ml : Nat} (hown : s.vm.findClass y.cls = some m.cls) (hb : c.code = cc) (hml : c.maxLocals = ml) {a b n : Nat} {N : xN} (ht : tb mi pc = some (.ifCond cn t, a, b, n)) (hv : xvl y cc ml pc (.ifCond cn t, a, b, n) = true) (h : xstep X mi pc L st sh σ = some N) (k : xG p l e R s m args below meth c Q CA D A ws0 c0 s0 N.1 N.2.1 N.2.2.1 N.2.2.2.1 N.2.2.2.2) : xG p l e R s m args below meth c Q CA D A ws0 c0 s0 pc L st sh σ := by
  have hx := C.1
  unfold xstep at h
  rw [ht] at h
  have hv : (n == 3 && decide (0 ≤ t) && xd cc pc (.ifCond cn (t - pc)) 3) = true := hv
  simp only [Bool.and_eq_true, beq_iff_eq, decide_eq_true_eq] at hv
  obtain ⟨⟨rfl, h2⟩, h1⟩ := hv
  dsimp only at h
  split at h
  · rename_i x r
    intro H locs ws tys ls cs hP hK hD hS hW hE hL hs
    obtain ⟨zx, cr, rfl, rfl, hs1⟩ := hs.i
    cases cn with
    | eq =>
      have e : (zx = 0) ↔ (zx.toInt = 0) := x_eq zx (0 : Int32)
      refine lv_if_eq hx hb (xd_of h1) (x_tg h2) (fun q => ?_) (fun q => ?_)
      · have h : (if zx.toInt = 0 then some (t.toNat, L, r, sh, σ) else some (pc + 3, L, r, sh, σ)) = some N := h
        rw [if_pos (e.mp q)] at h
        cases h
        exact k H locs ws tys ls cr hP hK hD hS hW hE hL hs1
      · have h : (if zx.toInt = 0 then some (t.toNat, L, r, sh, σ) else some (pc + 3, L, r, sh, σ)) = some N := h
        rw [if_neg (fun z => q (e.mpr z))] at h
        cases h
        exact k H locs ws tys ls cr hP hK hD hS hW hE hL hs1
    | ne =>
      have e : (zx = 0) ↔ (zx.toInt = 0) := x_eq zx (0 : Int32)
      refine lv_if_ne hx hb (xd_of h1) (x_tg h2) (fun q => ?_) (fun q => ?_)
      · have h : (if zx.toInt ≠ 0 then some (t.toNat, L, r, sh, σ) else some (pc + 3, L, r, sh, σ)) = some N := h
        rw [if_pos (fun z => q (e.mpr z))] at h
        cases h
        exact k H locs ws tys ls cr hP hK hD hS hW hE hL hs1
      · have h : (if zx.toInt ≠ 0 then some (t.toNat, L, r, sh, σ) else some (pc + 3, L, r, sh, σ)) = some N := h
        rw [if_neg (fun z => z (e.mp q))] at h
        cases h
        exact k H locs ws tys ls cr hP hK hD hS hW hE hL hs1
    | lt =>
      have e : (zx < 0) ↔ (zx.toInt < 0) := x_lt zx (0 : Int32)
      refine lv_if_lt hx hb (xd_of h1) (x_tg h2) (fun q => ?_) (fun q => ?_)
      · have h : (if zx.toInt < 0 then some (t.toNat, L, r, sh, σ) else some (pc + 3, L, r, sh, σ)) = some N := h
        rw [if_pos (e.mp q)] at h
        cases h
        exact k H locs ws tys ls cr hP hK hD hS hW hE hL hs1
      · have h : (if zx.toInt < 0 then some (t.toNat, L, r, sh, σ) else some (pc + 3, L, r, sh, σ)) = some N := h
        rw [if_neg (fun z => q (e.mpr z))] at h
        cases h
        exact k H locs ws tys ls cr hP hK hD hS hW hE hL hs1
    | ge =>
      have e : (0 ≤ zx) ↔ (0 ≤ zx.toInt) := x_le (0 : Int32) zx
      refine lv_if_ge hx hb (xd_of h1) (x_tg h2) (fun q => ?_) (fun q => ?_)
      · have h : (if 0 ≤ zx.toInt then some (t.toNat, L, r, sh, σ) else some (pc + 3, L, r, sh, σ)) = some N := h
        rw [if_pos (e.mp q)] at h
        cases h
        exact k H locs ws tys ls cr hP hK hD hS hW hE hL hs1
      · have h : (if 0 ≤ zx.toInt then some (t.toNat, L, r, sh, σ) else some (pc + 3, L, r, sh, σ)) = some N := h
        rw [if_neg (fun z => q (e.mpr z))] at h
        cases h
        exact k H locs ws tys ls cr hP hK hD hS hW hE hL hs1
    | gt =>
      have e : (0 < zx) ↔ (0 < zx.toInt) := x_lt (0 : Int32) zx
      refine lv_if_gt hx hb (xd_of h1) (x_tg h2) (fun q => ?_) (fun q => ?_)
      · have h : (if 0 < zx.toInt then some (t.toNat, L, r, sh, σ) else some (pc + 3, L, r, sh, σ)) = some N := h
        rw [if_pos (e.mp q)] at h
        cases h
        exact k H locs ws tys ls cr hP hK hD hS hW hE hL hs1
      · have h : (if 0 < zx.toInt then some (t.toNat, L, r, sh, σ) else some (pc + 3, L, r, sh, σ)) = some N := h
        rw [if_neg (fun z => q (e.mpr z))] at h
        cases h
        exact k H locs ws tys ls cr hP hK hD hS hW hE hL hs1
    | le =>
      have e : (zx ≤ 0) ↔ (zx.toInt ≤ 0) := x_le zx (0 : Int32)
      refine lv_if_le hx hb (xd_of h1) (x_tg h2) (fun q => ?_) (fun q => ?_)
      · have h : (if zx.toInt ≤ 0 then some (t.toNat, L, r, sh, σ) else some (pc + 3, L, r, sh, σ)) = some N := h
        rw [if_pos (e.mp q)] at h
        cases h
        exact k H locs ws tys ls cr hP hK hD hS hW hE hL hs1
      · have h : (if zx.toInt ≤ 0 then some (t.toNat, L, r, sh, σ) else some (pc + 3, L, r, sh, σ)) = some N := h
        rw [if_neg (fun z => q (e.mpr z))] at h
        cases h
        exact k H locs ws tys ls cr hP hK hD hS hW hE hL hs1
  · cases h
theorem snd_icmp {cn : ClassFile.Cond} {t : Int} (C : xCx p R s m meth c X CA A mi) {y : MethodName} {cc : ByteArray} {ml : Nat} (hown : s.vm.findClass y.cls = some m.cls) (hb : c.code = cc) (hml : c.maxLocals = ml) {a b n : Nat} {N : xN} (ht : tb mi pc = some (.if_icmp cn t, a, b, n)) (hv : xvl y cc ml pc (.if_icmp cn t, a, b, n) = true) (h : xstep X mi pc L st sh σ = some N) (k : xG p l e R s m args below meth c Q CA D A ws0 c0 s0 N.1 N.2.1 N.2.2.1 N.2.2.2.1 N.2.2.2.2) : xG p l e R s m args below meth c Q CA D A ws0 c0 s0 pc L st sh σ := by
  have hx := C.1
  unfold xstep at h
  rw [ht] at h
  have hv : (n == 3 && decide (0 ≤ t) && xd cc pc (.if_icmp cn (t - pc)) 3) = true := hv
  simp only [Bool.and_eq_true, beq_iff_eq, decide_eq_true_eq] at hv
  obtain ⟨⟨rfl, h2⟩, h1⟩ := hv
  dsimp only at h
  split at h
  · rename_i z x r
    intro H locs ws tys ls cs hP hK hD hS hW hE hL hs
    obtain ⟨zy, cr, rfl, rfl, hs0⟩ := hs.i
    obtain ⟨zx, cr, rfl, rfl, hs1⟩ := hs0.i
    cases cn with
    | eq =>
      have e : (zx = zy) ↔ (zx.toInt = zy.toInt) := x_eq zx zy
      refine lv_icmp_eq hx hb (xd_of h1) (x_tg h2) (fun q => ?_) (fun q => ?_)
      · have h : (if zx.toInt = zy.toInt then some (t.toNat, L, r, sh, σ) else some (pc + 3, L, r, sh, σ)) = some N := h
        rw [if_pos (e.mp q)] at h
        cases h
        exact k H locs ws tys ls cr hP hK hD hS hW hE hL hs1
      · have h : (if zx.toInt = zy.toInt then some (t.toNat, L, r, sh, σ) else some (pc + 3, L, r, sh, σ)) = some N := h
        rw [if_neg (fun z => q (e.mpr z))] at h
        cases h
        exact k H locs ws tys ls cr hP hK hD hS hW hE hL hs1
    | ne =>
      have e : (zx = zy) ↔ (zx.toInt = zy.toInt) := x_eq zx zy
      refine lv_icmp_ne hx hb (xd_of h1) (x_tg h2) (fun q => ?_) (fun q => ?_)
      · have h : (if zx.toInt ≠ zy.toInt then some (t.toNat, L, r, sh, σ) else some (pc + 3, L, r, sh, σ)) = some N := h
        rw [if_pos (fun z => q (e.mpr z))] at h
        cases h
        exact k H locs ws tys ls cr hP hK hD hS hW hE hL hs1
      · have h : (if zx.toInt ≠ zy.toInt then some (t.toNat, L, r, sh, σ) else some (pc + 3, L, r, sh, σ)) = some N := h
        rw [if_neg (fun z => z (e.mp q))] at h
        cases h
        exact k H locs ws tys ls cr hP hK hD hS hW hE hL hs1
    | lt =>
      have e : (zx < zy) ↔ (zx.toInt < zy.toInt) := x_lt zx zy
      refine lv_icmp_lt hx hb (xd_of h1) (x_tg h2) (fun q => ?_) (fun q => ?_)
      · have h : (if zx.toInt < zy.toInt then some (t.toNat, L, r, sh, σ) else some (pc + 3, L, r, sh, σ)) = some N := h
        rw [if_pos (e.mp q)] at h
        cases h
        exact k H locs ws tys ls cr hP hK hD hS hW hE hL hs1
      · have h : (if zx.toInt < zy.toInt then some (t.toNat, L, r, sh, σ) else some (pc + 3, L, r, sh, σ)) = some N := h
        rw [if_neg (fun z => q (e.mpr z))] at h
        cases h
        exact k H locs ws tys ls cr hP hK hD hS hW hE hL hs1
    | ge =>
      have e : (zy ≤ zx) ↔ (zy.toInt ≤ zx.toInt) := x_le zy zx
      refine lv_icmp_ge hx hb (xd_of h1) (x_tg h2) (fun q => ?_) (fun q => ?_)
      · have h : (if zy.toInt ≤ zx.toInt then some (t.toNat, L, r, sh, σ) else some (pc + 3, L, r, sh, σ)) = some N := h
        rw [if_pos (e.mp q)] at h
        cases h
        exact k H locs ws tys ls cr hP hK hD hS hW hE hL hs1
      · have h : (if zy.toInt ≤ zx.toInt then some (t.toNat, L, r, sh, σ) else some (pc + 3, L, r, sh, σ)) = some N := h
        rw [if_neg (fun z => q (e.mpr z))] at h
        cases h
        exact k H locs ws tys ls cr hP hK hD hS hW hE hL hs1
    | gt =>
      have e : (zy < zx) ↔ (zy.toInt < zx.toInt) := x_lt zy zx
      refine lv_icmp_gt hx hb (xd_of h1) (x_tg h2) (fun q => ?_) (fun q => ?_)
      · have h : (if zy.toInt < zx.toInt then some (t.toNat, L, r, sh, σ) else some (pc + 3, L, r, sh, σ)) = some N := h
        rw [if_pos (e.mp q)] at h
        cases h
        exact k H locs ws tys ls cr hP hK hD hS hW hE hL hs1
      · have h : (if zy.toInt < zx.toInt then some (t.toNat, L, r, sh, σ) else some (pc + 3, L, r, sh, σ)) = some N := h
        rw [if_neg (fun z => q (e.mpr z))] at h
        cases h
        exact k H locs ws tys ls cr hP hK hD hS hW hE hL hs1
    | le =>
      have e : (zx ≤ zy) ↔ (zx.toInt ≤ zy.toInt) := x_le zx zy
      refine lv_icmp_le hx hb (xd_of h1) (x_tg h2) (fun q => ?_) (fun q => ?_)
      · have h : (if zx.toInt ≤ zy.toInt then some (t.toNat, L, r, sh, σ) else some (pc + 3, L, r, sh, σ)) = some N := h
        rw [if_pos (e.mp q)] at h
        cases h
        exact k H locs ws tys ls cr hP hK hD hS hW hE hL hs1
      · have h : (if zx.toInt ≤ zy.toInt then some (t.toNat, L, r, sh, σ) else some (pc + 3, L, r, sh, σ)) = some N := h
        rw [if_neg (fun z => q (e.mpr z))] at h
        cases h
        exact k H locs ws tys ls cr hP hK hD hS hW hE hL hs1
  · cases h
theorem snd_goto {t : Int} (C : xCx p R s m meth c X CA A mi) {y : MethodName} {cc : ByteArray} {ml : Nat} (hown : s.vm.findClass y.cls = some m.cls) (hb : c.code = cc) (hml : c.maxLocals = ml) {a b n : Nat} {N : xN} (ht : tb mi pc = some (.goto t, a, b, n)) (hv : xvl y cc ml pc (.goto t, a, b, n) = true) (h : xstep X mi pc L st sh σ = some N) (k : xG p l e R s m args below meth c Q CA D A ws0 c0 s0 N.1 N.2.1 N.2.2.1 N.2.2.2.1 N.2.2.2.2) : xG p l e R s m args below meth c Q CA D A ws0 c0 s0 pc L st sh σ := by
  have hx := C.1
  unfold xstep at h
  rw [ht] at h
  have hv : (n == 3 && decide (0 ≤ t) && xd cc pc (.goto (t - pc)) 3) = true := hv
  simp only [Bool.and_eq_true, beq_iff_eq, decide_eq_true_eq] at hv
  obtain ⟨⟨rfl, h2⟩, h1⟩ := hv
  cases h
  intro H locs ws tys ls cs hP hK hD hS hW hE hL hs
  exact lv_goto hx hb (xd_of h1) (x_tg h2) (k H locs ws tys ls cs hP hK hD hS hW hE hL hs)
theorem snd_ifnull {t : Int} (C : xCx p R s m meth c X CA A mi) {y : MethodName} {cc : ByteArray} {ml : Nat} (hown : s.vm.findClass y.cls = some m.cls) (hb : c.code = cc) (hml : c.maxLocals = ml) {a b n : Nat} {N : xN} (ht : tb mi pc = some (.ifnull t, a, b, n)) (hv : xvl y cc ml pc (.ifnull t, a, b, n) = true) (h : xstep X mi pc L st sh σ = some N) (k : xG p l e R s m args below meth c Q CA D A ws0 c0 s0 N.1 N.2.1 N.2.2.1 N.2.2.2.1 N.2.2.2.2) : xG p l e R s m args below meth c Q CA D A ws0 c0 s0 pc L st sh σ := by
  have hx := C.1
  unfold xstep at h
  rw [ht] at h
  have hv : (n == 3 && decide (0 ≤ t) && xd cc pc (.ifnull (t - pc)) 3) = true := hv
  simp only [Bool.and_eq_true, beq_iff_eq, decide_eq_true_eq] at hv
  obtain ⟨⟨rfl, h2⟩, h1⟩ := hv
  dsimp only at h
  split at h
  · rename_i r
    cases h
    intro H locs ws tys ls cs hP hK hD hS hW hE hL hs
    obtain ⟨cv, cr, rfl, hr, hs1⟩ := hs.q
    have hr : cv = .null := hr
    subst hr
    exact lv_ifnullN hx hb (xd_of h1) (x_tg h2) (k H locs ws tys ls cr hP hK hD hS hW hE hL hs1)
  · rename_i q r
    cases h
    intro H locs ws tys ls cs hP hK hD hS hW hE hL hs
    obtain ⟨a, e, cr, rfl, -, hs1⟩ := hs.r
    exact lv_ifnull hx hb (xd_of h1) (k H locs ws tys ls cr hP hK hD hS hW hE hL hs1)
  · cases h
theorem snd_table {dt lo hi : Int} {ts : Array Int} (C : xCx p R s m meth c X CA A mi) {y : MethodName} {cc : ByteArray} {ml : Nat} (hown : s.vm.findClass y.cls = some m.cls) (hb : c.code = cc) (hml : c.maxLocals = ml) {a b n : Nat} {N : xN} (ht : tb mi pc = some (.tableswitch dt lo hi ts, a, b, n)) (hv : xvl y cc ml pc (.tableswitch dt lo hi ts, a, b, n) = true) (h : xstep X mi pc L st sh σ = some N) (k : xG p l e R s m args below meth c Q CA D A ws0 c0 s0 N.1 N.2.1 N.2.2.1 N.2.2.2.1 N.2.2.2.2) : xG p l e R s m args below meth c Q CA D A ws0 c0 s0 pc L st sh σ := by
  have hx := C.1
  unfold xstep at h
  rw [ht] at h
  have hv : (decide (0 ≤ dt) && ts.all (fun t => decide (0 ≤ t)) && decide ((ts.size : Int) = hi - lo + 1) && xd cc pc (.tableswitch (dt - pc) lo hi (ts.map (fun t => t - pc))) n) = true := hv
  simp only [Bool.and_eq_true, decide_eq_true_eq] at hv
  obtain ⟨⟨⟨h2, h3⟩, h4⟩, h1⟩ := hv
  dsimp only at h
  split at h
  · rename_i x r
    intro H locs ws tys ls cs hP hK hD hS hW hE hL hs
    obtain ⟨zx, cr, rfl, rfl, hs1⟩ := hs.i
    split at h
    · rename_i hq
      cases h
      exact lv_tableOut hx hb (xd_of h1) hq (x_tg h2) (k H locs ws tys ls cr hP hK hD hS hW hE hL hs1)
    · rename_i hq
      cases h
      have hlt : (zx.toInt - lo).toNat < ts.size := by omega
      have h5 : (0 : Int) ≤ ts[(zx.toInt - lo).toNat] := by
        have := (Array.all_eq_true.mp h3) _ hlt
        simpa using this
      refine lv_tableIn (tgt := (ts.getD (zx.toInt - lo).toNat dt).toNat) hx hb (xd_of h1) (fun z => hq (Or.inl z)) (fun z => hq (Or.inr z)) (off := ts[(zx.toInt - lo).toNat] - pc) ?_ ?_ (k H locs ws tys ls cr hP hK hD hS hW hE hL hs1)
      · rw [Array.getElem?_map, Array.getElem?_eq_getElem hlt]
        rfl
      · rw [Array.getD_eq_getD_getElem?, Array.getElem?_eq_getElem hlt]
        exact x_tg h5
  · cases h
theorem x_look {pc : Nat} {dt x : Int} (h : 0 ≤ dt) : ∀ (ps : List (Int × Int)), ps.all (fun t => decide (0 ≤ t.2)) = true → (pc : Int) + Op.lookupswitch.offset (ps.map (fun t => (t.1, t.2 - (pc : Int)))) (dt - pc) x = ((xlook dt x ps).toNat : Int)
  | [], _ => by
    show (pc : Int) + (dt - pc) = _
    exact x_tg h
  | (k, t) :: r, hr => by
    have h1 : 0 ≤ t ∧ r.all (fun t => decide (0 ≤ t.2)) = true := by simpa using hr
    have e := Op.lookupswitch.offset_cons k (t - (pc : Int)) (r.map (fun t => (t.1, t.2 - (pc : Int)))) (dt - pc) x
    rw [List.map_cons]
    unfold xlook
    by_cases hx : x = k
    · subst hx
      rw [e, if_pos rfl, if_pos rfl]
      exact x_tg h1.1
    · rw [e, if_neg (fun z => hx z.symm), if_neg hx]
      exact x_look h r h1.2
theorem snd_look {dt : Int} {ps : Array (Int × Int)} (C : xCx p R s m meth c X CA A mi) {y : MethodName} {cc : ByteArray} {ml : Nat} (hown : s.vm.findClass y.cls = some m.cls) (hb : c.code = cc) (hml : c.maxLocals = ml) {a b n : Nat} {N : xN} (ht : tb mi pc = some (.lookupswitch dt ps, a, b, n)) (hv : xvl y cc ml pc (.lookupswitch dt ps, a, b, n) = true) (h : xstep X mi pc L st sh σ = some N) (k : xG p l e R s m args below meth c Q CA D A ws0 c0 s0 N.1 N.2.1 N.2.2.1 N.2.2.2.1 N.2.2.2.2) : xG p l e R s m args below meth c Q CA D A ws0 c0 s0 pc L st sh σ := by
  have hx := C.1
  unfold xstep at h
  rw [ht] at h
  have hv : (decide (0 ≤ dt) && ps.all (fun t => decide (0 ≤ t.2)) && (((ps.map (fun t => (t.1, t.2 - (pc : Int)))).toList.zip ((ps.map (fun t => (t.1, t.2 - (pc : Int)))).toList.drop 1)).all (fun (a, next) => a.1 < next.1)) && xd cc pc (.lookupswitch (dt - pc) (ps.map (fun t => (t.1, t.2 - pc)))) n) = true := hv
  simp only [Bool.and_eq_true, decide_eq_true_eq] at hv
  obtain ⟨⟨⟨h2, h3⟩, h4⟩, h1⟩ := hv
  dsimp only at h
  split at h
  · rename_i x r
    intro H locs ws tys ls cs hP hK hD hS hW hE hL hs
    obtain ⟨zx, cr, rfl, rfl, hs1⟩ := hs.i
    cases h
    refine lv_lookup (tgt := (xlook dt zx.toInt ps.toList).toNat) hx hb (xd_of h1) h4 rfl ?_ (k H locs ws tys ls cr hP hK hD hS hW hE hL hs1)
    rw [Array.toList_map]
    exact x_look h2 ps.toList (by simpa using h3)
  · cases h
end XU
