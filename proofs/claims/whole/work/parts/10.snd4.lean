/-! the step rows, fourth: statics, arrays, new cells -/
section XY
variable {p : Program} {l : Launch} {e : Env} {R : Room} {s : State} {m : MethodId} {args : Array Value} {below : List Frame} {meth : Method} {c : Code} {Q : State → Prop}
variable {X : Nat × (Nat → Int)} {CA : Nat → Nat} {D : va_G} {A : Nat → Prop} {ws0 : va_W} {c0 s0 mi pc : Nat} {L : List (Option xV)} {st : List xV} {sh : List xSh} {σ : xM}
theorem snd_gets {w : Nat} (C : xCx p R s m meth c X CA A mi) {y : MethodName} {cc : ByteArray} {ml : Nat} (hown : s.vm.findClass y.cls = some m.cls) (hb : c.code = cc) (hml : c.maxLocals = ml) {a b n : Nat} {N : xN} (ht : tb mi pc = some (.getstatic w, a, b, n)) (hv : xvl y cc ml pc (.getstatic w, a, b, n) = true) (h : xstep X mi pc L st sh σ = some N) (hc0 : c0 ≤ sh.length) (hs0 : s0 ≤ xns sh) (hrc : N.2.2.2.1.length - c0 ≤ R.cells) (hrs : xns N.2.2.2.1 - s0 ≤ R.slots) (k : xG p l e R s m args below meth c Q CA D A ws0 c0 s0 N.1 N.2.1 N.2.2.1 N.2.2.2.1 N.2.2.2.2) : xG p l e R s m args below meth c Q CA D A ws0 c0 s0 pc L st sh σ := by
  have hx := C.1
  unfold xstep at h
  rw [ht] at h
  have hv : (n == 3 && (match xfl w y.cls (xsf a) with
          | some (i, nest) => xd cc pc (.getstatic i) 3 && (!nest || decide (a ≤ 5))
          | none => false)) = true := hv
  obtain ⟨rfl, hv2⟩ := x_n3 hv
  clear hv
  dsimp only at h
  intro H locs ws tys ls cs hP hK hD hS hW hE hL hs
  have C0 := C.2.2.1
  split at hv2
  · rename_i i nest hfl
    simp only [Bool.and_eq_true, Bool.or_eq_true, Bool.not_eq_true', decide_eq_true_eq] at hv2
    obtain ⟨hd, hn⟩ := hv2
    unfold xst at h
    by_cases h5 : a ≤ 5
    · rw [if_pos h5] at h
      cases h
      have hvr : xVR ws CA (vc a) (.ref (CA a)) := show (if a = 98 then _ else _) by rw [if_neg (by omega)]
      rcases xfl_of hfl with ⟨-, hm⟩ | ⟨-, host, hm⟩
      · exact va_gets hx hb (C0.2.2.2.1 a h5) hS hown (C0.1 _ hm rfl args) (fun _ h => h) (xd_of hd) (xs_top k hP hK hD hS hW hE hL hvr hs)
      · exact va_getsN hx hb (C0.2.2.2.1 a h5) hS hown (C0.1 _ hm rfl args) (fun _ h => h) (xd_of hd) (xs_top k hP hK hD hS hW hE hL hvr hs)
    · rcases xfl_of hfl with ⟨-, hm⟩ | ⟨hz, host, hm⟩
      · rw [if_neg h5] at h
        by_cases h20 : a = 20
        · subst h20
          cases h
          exact va_gets hx hb C0.2.2.2.2.1 hS hown (C0.1 _ hm rfl args) (fun _ h => h) (xd_of hd) (xs_top k hP hK hD hS hW hE hL ⟨1, rfl, rfl⟩ hs)
        · rw [if_neg h20] at h
          by_cases h21 : a = 21
          · subst h21
            cases h
            rcases C0.2.2.2.2.2.1 with hz | ⟨t, hz⟩
            · exact va_gets hx hb hz hS hown (C0.1 _ hm rfl args) (fun _ h => h) (xd_of hd) (xs_top k hP hK hD hS hW hE hL (Or.inl rfl) hs)
            · exact va_gets hx hb hz hS hown (C0.1 _ hm rfl args) (fun _ h => h) (xd_of hd) (xs_top k hP hK hD hS hW hE hL (Or.inr ⟨t, rfl⟩) hs)
          · rw [if_neg h21] at h
            cases h
      · rw [hz] at hn
        rcases hn with hn | hn
        · cases hn
        · exact absurd hn h5
  · cases hv2
theorem x_98 {X : Nat × (Nat → Int)} {c : Nat} {q : Nat × Nat × (Nat → Int)} (h : xca X c = some q) : c ≠ 98 := by
  intro h98
  subst h98
  cases h
theorem x_in {i : Int32} {n : Nat} (h : 0 ≤ i.toInt ∧ i.toInt < (n : Int)) : vp_in i n := vp_in_iff.mpr h
theorem x_tn (i : Int32) : i.toNatClampNeg = i.toInt.toNat := rfl
theorem snd_alen (C : xCx p R s m meth c X CA A mi) {y : MethodName} {cc : ByteArray} {ml : Nat} (hown : s.vm.findClass y.cls = some m.cls) (hb : c.code = cc) (hml : c.maxLocals = ml) {a b n : Nat} {N : xN} (ht : tb mi pc = some (.arraylength, a, b, n)) (hv : xvl y cc ml pc (.arraylength, a, b, n) = true) (h : xstep X mi pc L st sh σ = some N) (hc0 : c0 ≤ sh.length) (hs0 : s0 ≤ xns sh) (hrc : N.2.2.2.1.length - c0 ≤ R.cells) (hrs : xns N.2.2.2.1 - s0 ≤ R.slots) (k : xG p l e R s m args below meth c Q CA D A ws0 c0 s0 N.1 N.2.1 N.2.2.1 N.2.2.2.1 N.2.2.2.2) : xG p l e R s m args below meth c Q CA D A ws0 c0 s0 pc L st sh σ := by
  have hx := C.1
  unfold xstep at h
  rw [ht] at h
  obtain ⟨rfl, h1⟩ := xn1 hv
  dsimp only at h
  intro H locs ws tys ls cs hP hK hD hS hW hE hL hs
  split at h
  · rename_i c1 r
    split at h
    · rename_i m1 ety f1 hca
      cases h
      obtain ⟨cr, rfl, hs1⟩ := hs.cc (x_98 hca)
      obtain ⟨g1, g2, -⟩ := C.2.2.1.2.1 _ _ _ _ hca
      exact va_tlen hx hb g1 hS rfl (xd_of h1) (xs_top k hP hK hD hS hW hE hL ⟨_, rfl, (nI_toInt (by omega)).symm⟩ hs1)
    · cases h
  · cases h
theorem snd_iaload (C : xCx p R s m meth c X CA A mi) {y : MethodName} {cc : ByteArray} {ml : Nat} (hown : s.vm.findClass y.cls = some m.cls) (hb : c.code = cc) (hml : c.maxLocals = ml) {a b n : Nat} {N : xN} (ht : tb mi pc = some (.iaload, a, b, n)) (hv : xvl y cc ml pc (.iaload, a, b, n) = true) (h : xstep X mi pc L st sh σ = some N) (hc0 : c0 ≤ sh.length) (hs0 : s0 ≤ xns sh) (hrc : N.2.2.2.1.length - c0 ≤ R.cells) (hrs : xns N.2.2.2.1 - s0 ≤ R.slots) (k : xG p l e R s m args below meth c Q CA D A ws0 c0 s0 N.1 N.2.1 N.2.2.1 N.2.2.2.1 N.2.2.2.2) : xG p l e R s m args below meth c Q CA D A ws0 c0 s0 pc L st sh σ := by
  have hx := C.1
  unfold xstep at h
  rw [ht] at h
  obtain ⟨rfl, h1⟩ := xn1 hv
  dsimp only at h
  intro H locs ws tys ls cs hP hK hD hS hW hE hL hs
  split at h
  · rename_i i k0 r
    obtain ⟨zi, cr0, rfl, rfl, hs0⟩ := hs.i
    obtain ⟨q, e0, cr, rfl, hk, hs1⟩ := hs0.r
    split at h
    · rename_i n1 hsh
      split at h
      · rename_i hin
        cases h
        obtain ⟨q', e1, hk1, cA, t0, hty, hn, hor⟩ := hW.2 k0 _ hsh
        rw [hk] at hk1
        cases hk1
        have hlt : zi.toInt.toNat < n1 := by omega
        rcases hor with ⟨g, hg1, rfl, hg3⟩ | ⟨g, hg1, rfl, hg3⟩
        · exact va_iald hx hb hK hP k0 t0 hk hty (x_in hin) (xd_of h1) (xs_top k hP hK hD hS hW hE hL ⟨_, rfl, hg3 _ hlt⟩ hs1)
        · omega
      · cases h
    · cases h
  · rename_i i c1 r
    obtain ⟨zi, cr0, rfl, rfl, hs0⟩ := hs.i
    split at h
    · rename_i n1 f hca
      split at h
      · rename_i hin
        cases h
        obtain ⟨cr, rfl, hs1⟩ := hs0.cc (x_98 hca)
        obtain ⟨g1, g2, g3⟩ := C.2.2.1.2.1 _ _ _ _ hca
        have hlt : zi.toInt.toNat < n1 := by omega
        exact va_ti hx hb g1 hS (x_in hin) rfl (xd_of h1) (xs_top k hP hK hD hS hW hE hL ⟨_, rfl, (g3 _ hlt).symm⟩ hs1)
      · cases h
    · cases h
  · cases h
theorem snd_baload (C : xCx p R s m meth c X CA A mi) {y : MethodName} {cc : ByteArray} {ml : Nat} (hown : s.vm.findClass y.cls = some m.cls) (hb : c.code = cc) (hml : c.maxLocals = ml) {a b n : Nat} {N : xN} (ht : tb mi pc = some (.baload, a, b, n)) (hv : xvl y cc ml pc (.baload, a, b, n) = true) (h : xstep X mi pc L st sh σ = some N) (hc0 : c0 ≤ sh.length) (hs0 : s0 ≤ xns sh) (hrc : N.2.2.2.1.length - c0 ≤ R.cells) (hrs : xns N.2.2.2.1 - s0 ≤ R.slots) (k : xG p l e R s m args below meth c Q CA D A ws0 c0 s0 N.1 N.2.1 N.2.2.1 N.2.2.2.1 N.2.2.2.2) : xG p l e R s m args below meth c Q CA D A ws0 c0 s0 pc L st sh σ := by
  have hx := C.1
  unfold xstep at h
  rw [ht] at h
  obtain ⟨rfl, h1⟩ := xn1 hv
  dsimp only at h
  intro H locs ws tys ls cs hP hK hD hS hW hE hL hs
  split at h
  · rename_i i k0 r
    obtain ⟨zi, cr0, rfl, rfl, hs0⟩ := hs.i
    obtain ⟨q, e0, cr, rfl, hk, hs1⟩ := hs0.r
    split at h
    · rename_i n1 hsh
      split at h
      · rename_i hin
        cases h
        obtain ⟨q', e1, hk1, cA, t0, hty, hn, hor⟩ := hW.2 k0 _ hsh
        rw [hk] at hk1
        cases hk1
        have hlt : zi.toInt.toNat < n1 := by omega
        rcases hor with ⟨g, hg1, rfl, hg3⟩ | ⟨g, hg1, rfl, hg3⟩
        · exact va_zald hx hb hK hP k0 t0 hk hty (x_in hin) (xd_of h1) (xs_top k hP hK hD hS hW hE hL ⟨_, rfl, hg3 _ hlt⟩ hs1)
        · omega
      · cases h
    · cases h
  · rename_i i c1 r
    obtain ⟨zi, cr0, rfl, rfl, hs0⟩ := hs.i
    split at h
    · rename_i n1 f hca
      split at h
      · rename_i hin
        cases h
        obtain ⟨cr, rfl, hs1⟩ := hs0.cc (x_98 hca)
        obtain ⟨g1, g2, g3⟩ := C.2.2.1.2.1 _ _ _ _ hca
        have hlt : zi.toInt.toNat < n1 := by omega
        exact va_tb hx hb g1 hS (x_in hin) rfl (xd_of h1) (xs_top k hP hK hD hS hW hE hL ⟨_, rfl, (g3 _ hlt).symm⟩ hs1)
      · cases h
    · cases h
  · cases h
theorem snd_laload (C : xCx p R s m meth c X CA A mi) {y : MethodName} {cc : ByteArray} {ml : Nat} (hown : s.vm.findClass y.cls = some m.cls) (hb : c.code = cc) (hml : c.maxLocals = ml) {a b n : Nat} {N : xN} (ht : tb mi pc = some (.laload, a, b, n)) (hv : xvl y cc ml pc (.laload, a, b, n) = true) (h : xstep X mi pc L st sh σ = some N) (hc0 : c0 ≤ sh.length) (hs0 : s0 ≤ xns sh) (hrc : N.2.2.2.1.length - c0 ≤ R.cells) (hrs : xns N.2.2.2.1 - s0 ≤ R.slots) (k : xG p l e R s m args below meth c Q CA D A ws0 c0 s0 N.1 N.2.1 N.2.2.1 N.2.2.2.1 N.2.2.2.2) : xG p l e R s m args below meth c Q CA D A ws0 c0 s0 pc L st sh σ := by
  have hx := C.1
  unfold xstep at h
  rw [ht] at h
  obtain ⟨rfl, h1⟩ := xn1 hv
  dsimp only at h
  intro H locs ws tys ls cs hP hK hD hS hW hE hL hs
  split at h
  · rename_i i k0 r
    obtain ⟨zi, cr0, rfl, rfl, hs0⟩ := hs.i
    obtain ⟨q, e0, cr, rfl, hk, hs1⟩ := hs0.r
    split at h
    · rename_i n1 hsh
      split at h
      · rename_i hin
        cases h
        obtain ⟨q', e1, hk1, cA, t0, hty, hn, hor⟩ := hW.2 k0 _ hsh
        rw [hk] at hk1
        cases hk1
        have hlt : zi.toInt.toNat < n1 := by omega
        rcases hor with ⟨g, hg1, rfl, hg3⟩ | ⟨g, hg1, rfl, hg3⟩
        · omega
        · exact va_lald hx hb hK hP k0 t0 hk hty (x_in hin) (xd_of h1) (xs_top k hP hK hD hS hW hE hL ⟨_, rfl, hg3 _ hlt⟩ hs1)
      · cases h
    · cases h
  · cases h
/-- the world behind a store into an array -/
theorem xWR.sta {ws : va_W} {tys : List (ClassId × FieldType)} {k0 ety n q i : Nat} {x : Int} {e' : va_E} {e0 : va_E} (hW : xWR CA sh σ ws tys) (hsh : sh[k0]? = some (.inr (ety, n))) (hk : ws[k0]? = some (q, e0)) (hc : xCR ws tys CA (.inr (ety, n)) (fun b => if b = i then x else σ k0 b) e') : xWR CA sh (xwr σ k0 i x) (ws.set k0 (q, e')) tys := by
  have hE : xExt ws (ws.set k0 (q, e')) := xExt.set hk
  refine ⟨by rw [List.length_set]; exact hW.1, fun k2 q2 h2 => ?_⟩
  by_cases hkk : k2 = k0
  · subst hkk
    rw [hsh] at h2
    cases h2
    refine ⟨q, e', List.getElem?_set_self (List.getElem?_eq_some_iff.mp hk).1, ?_⟩
    rw [x_wr_self]
    exact hc.ext hE (fun _ _ h => h)
  · obtain ⟨a2, e2, h5, h6⟩ := hW.2 k2 q2 h2
    refine ⟨a2, e2, by rw [List.getElem?_set_ne (Ne.symm hkk)]; exact h5, ?_⟩
    rw [x_wr_ne hkk]
    exact h6.ext hE (fun _ _ h => h)
theorem snd_iastore (C : xCx p R s m meth c X CA A mi) {y : MethodName} {cc : ByteArray} {ml : Nat} (hown : s.vm.findClass y.cls = some m.cls) (hb : c.code = cc) (hml : c.maxLocals = ml) {a b n : Nat} {N : xN} (ht : tb mi pc = some (.iastore, a, b, n)) (hv : xvl y cc ml pc (.iastore, a, b, n) = true) (h : xstep X mi pc L st sh σ = some N) (hc0 : c0 ≤ sh.length) (hs0 : s0 ≤ xns sh) (hrc : N.2.2.2.1.length - c0 ≤ R.cells) (hrs : xns N.2.2.2.1 - s0 ≤ R.slots) (k : xG p l e R s m args below meth c Q CA D A ws0 c0 s0 N.1 N.2.1 N.2.2.1 N.2.2.2.1 N.2.2.2.2) : xG p l e R s m args below meth c Q CA D A ws0 c0 s0 pc L st sh σ := by
  have hx := C.1
  unfold xstep at h
  rw [ht] at h
  obtain ⟨rfl, h1⟩ := xn1 hv
  dsimp only at h
  intro H locs ws tys ls cs hP hK hD hS hW hE hL hs
  split at h
  · rename_i x i k0 r
    obtain ⟨zx, cr1, rfl, rfl, hsa⟩ := hs.i
    obtain ⟨zi, cr0, rfl, rfl, hs0⟩ := hsa.i
    obtain ⟨q, e0, cr, rfl, hk, hs1⟩ := hs0.r
    split at h
    · rename_i n1 hsh
      split at h
      · rename_i hin
        cases h
        obtain ⟨q', e1, hk1, cA, t0, hty, hn, hor⟩ := hW.2 k0 _ hsh
        rw [hk] at hk1
        cases hk1
        have hlt : zi.toInt.toNat < n1 := by omega
        rcases hor with ⟨g, hg1, rfl, hg3⟩ | ⟨g, hg1, rfl, hg3⟩
        · refine va_iast hx hb hK hP hD hS k0 t0 hk hty (x_in hin) (xd_of h1) (fun H1 locs1 g1 g2 g3 => ?_)
          have hE2 := xExt.set (e' := .inl (cA, n1, .inl (upd g zi.toNatClampNeg zx))) hk
          refine k H1 locs1 _ tys ls cr g1 hK g2 g3 (xWR.sta hW hsh hk ⟨cA, t0, hty, hn, Or.inl ⟨_, hg1, rfl, fun j hj => ?_⟩⟩) (hE.tr hE2) (hL.ext hE2) (hs1.ext hE2)
          have hx2 : zx.toInt = (zx).toInt := by
            rfl
          by_cases hj2 : j = zi.toInt.toNat
          · subst hj2
            dsimp only
            rw [if_pos rfl, hx2]
            show _ = (if _ then _ else _ : Int32).toInt
            rw [if_pos (x_tn zi).symm]
          · dsimp only
            rw [if_neg hj2, hg3 j hj]
            show _ = (if _ then _ else _ : Int32).toInt
            rw [if_neg (show ¬ j = zi.toNatClampNeg from hj2)]
        · omega
      · cases h
    · cases h
  · cases h
theorem x_z01 {z : Int32} (h : z.toInt = 0 ∨ z.toInt = 1) : z.toInt = (vp_nar .boolean z).toInt := by
  have hz : z = 0 ∨ z = 1 := by
    rcases h with h | h
    · exact Or.inl ((x_eq z 0).mpr (by rw [h]; rfl))
    · exact Or.inr ((x_eq z 1).mpr (by rw [h]; rfl))
  rcases hz with rfl | rfl <;> rfl
theorem snd_bastore (C : xCx p R s m meth c X CA A mi) {y : MethodName} {cc : ByteArray} {ml : Nat} (hown : s.vm.findClass y.cls = some m.cls) (hb : c.code = cc) (hml : c.maxLocals = ml) {a b n : Nat} {N : xN} (ht : tb mi pc = some (.bastore, a, b, n)) (hv : xvl y cc ml pc (.bastore, a, b, n) = true) (h : xstep X mi pc L st sh σ = some N) (hc0 : c0 ≤ sh.length) (hs0 : s0 ≤ xns sh) (hrc : N.2.2.2.1.length - c0 ≤ R.cells) (hrs : xns N.2.2.2.1 - s0 ≤ R.slots) (k : xG p l e R s m args below meth c Q CA D A ws0 c0 s0 N.1 N.2.1 N.2.2.1 N.2.2.2.1 N.2.2.2.2) : xG p l e R s m args below meth c Q CA D A ws0 c0 s0 pc L st sh σ := by
  have hx := C.1
  unfold xstep at h
  rw [ht] at h
  obtain ⟨rfl, h1⟩ := xn1 hv
  dsimp only at h
  intro H locs ws tys ls cs hP hK hD hS hW hE hL hs
  split at h
  · rename_i x i k0 r
    obtain ⟨zx, cr1, rfl, rfl, hsa⟩ := hs.i
    obtain ⟨zi, cr0, rfl, rfl, hs0⟩ := hsa.i
    obtain ⟨q, e0, cr, rfl, hk, hs1⟩ := hs0.r
    split at h
    · rename_i n1 hsh
      split at h
      · rename_i hin
        cases h
        obtain ⟨q', e1, hk1, cA, t0, hty, hn, hor⟩ := hW.2 k0 _ hsh
        rw [hk] at hk1
        cases hk1
        have hlt : zi.toInt.toNat < n1 := by omega
        rcases hor with ⟨g, hg1, rfl, hg3⟩ | ⟨g, hg1, rfl, hg3⟩
        · refine va_zast hx hb hK hP hD hS k0 t0 hk hty (x_in hin.1) (xd_of h1) (fun H1 locs1 g1 g2 g3 => ?_)
          have hE2 := xExt.set (e' := .inl (cA, n1, .inl (upd g zi.toNatClampNeg (vp_nar .boolean zx)))) hk
          refine k H1 locs1 _ tys ls cr g1 hK g2 g3 (xWR.sta hW hsh hk ⟨cA, t0, hty, hn, Or.inl ⟨_, hg1, rfl, fun j hj => ?_⟩⟩) (hE.tr hE2) (hL.ext hE2) (hs1.ext hE2)
          have hx2 : zx.toInt = ((vp_nar .boolean zx)).toInt := by
            exact x_z01 hin.2
          by_cases hj2 : j = zi.toInt.toNat
          · subst hj2
            dsimp only
            rw [if_pos rfl, hx2]
            show _ = (if _ then _ else _ : Int32).toInt
            rw [if_pos (x_tn zi).symm]
          · dsimp only
            rw [if_neg hj2, hg3 j hj]
            show _ = (if _ then _ else _ : Int32).toInt
            rw [if_neg (show ¬ j = zi.toNatClampNeg from hj2)]
        · omega
      · cases h
    · cases h
  · cases h
theorem snd_lastore (C : xCx p R s m meth c X CA A mi) {y : MethodName} {cc : ByteArray} {ml : Nat} (hown : s.vm.findClass y.cls = some m.cls) (hb : c.code = cc) (hml : c.maxLocals = ml) {a b n : Nat} {N : xN} (ht : tb mi pc = some (.lastore, a, b, n)) (hv : xvl y cc ml pc (.lastore, a, b, n) = true) (h : xstep X mi pc L st sh σ = some N) (hc0 : c0 ≤ sh.length) (hs0 : s0 ≤ xns sh) (hrc : N.2.2.2.1.length - c0 ≤ R.cells) (hrs : xns N.2.2.2.1 - s0 ≤ R.slots) (k : xG p l e R s m args below meth c Q CA D A ws0 c0 s0 N.1 N.2.1 N.2.2.1 N.2.2.2.1 N.2.2.2.2) : xG p l e R s m args below meth c Q CA D A ws0 c0 s0 pc L st sh σ := by
  have hx := C.1
  unfold xstep at h
  rw [ht] at h
  obtain ⟨rfl, h1⟩ := xn1 hv
  dsimp only at h
  intro H locs ws tys ls cs hP hK hD hS hW hE hL hs
  split at h
  · rename_i x i k0 r
    obtain ⟨zx, cr1, rfl, rfl, hsa⟩ := hs.lg
    obtain ⟨zi, cr0, rfl, rfl, hs0⟩ := hsa.i
    obtain ⟨q, e0, cr, rfl, hk, hs1⟩ := hs0.r
    split at h
    · rename_i n1 hsh
      split at h
      · rename_i hin
        cases h
        obtain ⟨q', e1, hk1, cA, t0, hty, hn, hor⟩ := hW.2 k0 _ hsh
        rw [hk] at hk1
        cases hk1
        have hlt : zi.toInt.toNat < n1 := by omega
        rcases hor with ⟨g, hg1, rfl, hg3⟩ | ⟨g, hg1, rfl, hg3⟩
        · omega
        · refine va_last hx hb hK hP hD hS k0 t0 hk hty (x_in hin) (xd_of h1) (fun H1 locs1 g1 g2 g3 => ?_)
          have hE2 := xExt.set (e' := .inl (cA, n1, .inr (.inl (vp_updL g zi.toNatClampNeg zx)))) hk
          refine k H1 locs1 _ tys ls cr g1 hK g2 g3 (xWR.sta hW hsh hk ⟨cA, t0, hty, hn, Or.inr ⟨_, hg1, rfl, fun j hj => ?_⟩⟩) (hE.tr hE2) (hL.ext hE2) (hs1.ext hE2)
          have hx2 : zx.toInt = (zx).toInt := by
            rfl
          by_cases hj2 : j = zi.toInt.toNat
          · subst hj2
            dsimp only
            rw [if_pos rfl, hx2]
            show _ = (if _ then _ else _ : Int64).toInt
            rw [if_pos (x_tn zi).symm]
          · dsimp only
            rw [if_neg hj2, hg3 j hj]
            show _ = (if _ then _ else _ : Int64).toInt
            rw [if_neg (show ¬ j = zi.toNatClampNeg from hj2)]
      · cases h
    · cases h
  · cases h
theorem snd_objinit {w : Nat} (C : xCx p R s m meth c X CA A mi) {y : MethodName} {cc : ByteArray} {ml : Nat} (hown : s.vm.findClass y.cls = some m.cls) (hR : 1 ≤ R.frames ∧ 64 ≤ R.locals) (hoi : Cond.instanceMethod Lib.objectInit ∈ lw_tbl ∧ Cond.code Lib.objectInit ⟨#[0xb1]⟩ 1 none ∈ lw_tbl ∧ True) (hb : c.code = cc) (hml : c.maxLocals = ml) {a b n : Nat} {N : xN} (ht : tb mi pc = some (.invokespecial w, a, b, n)) (hv : xvl y cc ml pc (.invokespecial w, a, b, n) = true) (h : xstep X mi pc L st sh σ = some N) (hc0 : c0 ≤ sh.length) (hs0 : s0 ≤ xns sh) (hrc : N.2.2.2.1.length - c0 ≤ R.cells) (hrs : xns N.2.2.2.1 - s0 ≤ R.slots) (k : xG p l e R s m args below meth c Q CA D A ws0 c0 s0 N.1 N.2.1 N.2.2.1 N.2.2.2.1 N.2.2.2.2) : xG p l e R s m args below meth c Q CA D A ws0 c0 s0 pc L st sh σ := by
  have hx := C.1
  unfold xstep at h
  rw [ht] at h
  dsimp only at h
  by_cases ha : a = 9999
  · subst ha
    rw [if_pos rfl] at h
    have hv : (n == 3 && (xw w (.methodLink y.cls b Lib.objectInit) && xd cc pc (.invokespecial b) 3)) = true := hv
    simp only [Bool.and_eq_true, beq_iff_eq] at hv
    obtain ⟨rfl, hw, h1⟩ := hv
    intro H locs ws tys ls cs hP hK hD hS hW hE hL hs
    split at h
    · rename_i k0 r
      obtain ⟨q, e0, cr, rfl, hk, hs1⟩ := hs.r
      split at h
      · rename_i hcat
        cases h
        obtain ⟨i1, i2, -⟩ := hoi
        refine W.objInit hx hb hown (C.2.2.1.1 _ (xw_of hw) rfl args) (C.2.2.1.1 _ i1 rfl args) (C.2.2.1.1 _ i2 rfl args) rfl hL.1 rfl (xd_of h1) hR.1 ?_ (k H locs ws tys ls cr hP hK hD hS hW hE hL hs1)
        have := hs1.cats
        show 2 * 0 + _ + 12 ≤ _
        omega
      · cases h
    · cases h
  · rw [if_neg ha] at h
    cases h
theorem x_max (x y : Int32) : (if x < y then y else x).toInt = xmax x.toInt y.toInt := by
  unfold xmax
  by_cases h : x < y
  · rw [if_pos h, if_pos ((x_lt x y).mp h)]
  · rw [if_neg h, if_neg (fun z => h ((x_lt x y).mpr z))]
theorem x_min (x y : Int32) : (if y < x then y else x).toInt = xmin x.toInt y.toInt := by
  unfold xmin
  by_cases h : y < x
  · rw [if_pos h, if_pos ((x_lt y x).mp h)]
  · rw [if_neg h, if_neg (fun z => h ((x_lt y x).mpr z))]
theorem snd_math {w : Nat} (C : xCx p R s m meth c X CA A mi) {y : MethodName} {cc : ByteArray} {ml : Nat} (hown : s.vm.findClass y.cls = some m.cls) (hR : 1 ≤ R.frames ∧ 64 ≤ R.locals) (hma : Cond.static Lib.Math.max.name ∈ lw_tbl ∧ Cond.static Lib.Math.min.name ∈ lw_tbl ∧ Cond.initialized "java/lang/Math" ∈ lw_tbl ∧ Cond.code Lib.Math.max.name Lib.Math.max.code 2 (some .int) ∈ lw_tbl ∧ Cond.code Lib.Math.min.name Lib.Math.min.code 2 (some .int) ∈ lw_tbl) (hb : c.code = cc) (hml : c.maxLocals = ml) {a b n : Nat} {N : xN} (ht : tb mi pc = some (.invokestatic w, a, b, n)) (hv : xvl y cc ml pc (.invokestatic w, a, b, n) = true) (h : xstep X mi pc L st sh σ = some N) (hc0 : c0 ≤ sh.length) (hs0 : s0 ≤ xns sh) (hrc : N.2.2.2.1.length - c0 ≤ R.cells) (hrs : xns N.2.2.2.1 - s0 ≤ R.slots) (k : xG p l e R s m args below meth c Q CA D A ws0 c0 s0 N.1 N.2.1 N.2.2.1 N.2.2.2.1 N.2.2.2.2) : xG p l e R s m args below meth c Q CA D A ws0 c0 s0 pc L st sh σ := by
  have hx := C.1
  unfold xstep at h
  rw [ht] at h
  dsimp only at h
  intro H locs ws tys ls cs hP hK hD hS hW hE hL hs
  split at h
  · rename_i z x r
    obtain ⟨zy, cr0, rfl, rfl, hs0⟩ := hs.i
    obtain ⟨zx, cr, rfl, rfl, hs1⟩ := hs0.i
    split at h
    · rename_i hcat
      have hcats := hs1.cats
      split at h
      · rename_i ha
        subst ha
        cases h
        have hv : (n == 3 && (xw w (.methodLink y.cls b Lib.Math.max.name) && xd cc pc (.invokestatic b) 3)) = true := hv
        simp only [Bool.and_eq_true, beq_iff_eq] at hv
        obtain ⟨rfl, hw, h1⟩ := hv
        dsimp only at hrc hrs
        exact va_mmax hx hb hL.1.symm hown (C.2.2.1.1 _ (xw_of hw) rfl args) (C.2.2.1.1 _ hma.1 rfl args) (C.2.2.1.1 _ hma.2.2.1 rfl args) (C.2.2.1.1 _ hma.2.2.2.1 rfl args) hR.1 (by omega) hrc hrs (xd_of h1) (xs_top k hP hK hD hS hW hE hL ⟨_, rfl, (x_max _ _).symm⟩ hs1)
      · split at h
        · rename_i ha
          subst ha
          cases h
          have hv : (n == 3 && (xw w (.methodLink y.cls b Lib.Math.min.name) && xd cc pc (.invokestatic b) 3)) = true := hv
          simp only [Bool.and_eq_true, beq_iff_eq] at hv
          obtain ⟨rfl, hw, h1⟩ := hv
          dsimp only at hrc hrs
          exact va_mmin hx hb hL.1.symm hown (C.2.2.1.1 _ (xw_of hw) rfl args) (C.2.2.1.1 _ hma.2.1 rfl args) (C.2.2.1.1 _ hma.2.2.1 rfl args) (C.2.2.1.1 _ hma.2.2.2.2 rfl args) hR.1 (by omega) hrc hrs (xd_of h1) (xs_top k hP hK hD hS hW hE hL ⟨_, rfl, (x_min _ _).symm⟩ hs1)
        · cases h
    · cases h
  · cases h
theorem xns_app (sh : List xSh) (q : xSh) : xns (sh ++ [q]) = xns sh + xsz q := by simp [xns]
/-- the world with a new cell -/
theorem xWR.add {ws : va_W} {tys tys' : List (ClassId × FieldType)} {q : Nat} {e : va_E} {qs : xSh} {f : Nat → Int} (hW : xWR CA sh σ ws tys) (ht : ∀ (k : Nat) (z : ClassId × FieldType), tys[k]? = some z → tys'[k]? = some z) (hc : xCR (ws ++ [(q, e)]) tys' CA qs f e) : xWR CA (sh ++ [qs]) (xnew σ sh.length f) (ws ++ [(q, e)]) tys' := by
  refine ⟨by simp [hW.1], fun k2 q2 h2 => ?_⟩
  by_cases hkk : k2 < sh.length
  · rw [List.getElem?_append_left hkk] at h2
    obtain ⟨a2, e2, h5, h6⟩ := hW.2 k2 q2 h2
    refine ⟨a2, e2, by rw [List.getElem?_append_left (List.getElem?_eq_some_iff.mp h5).1]; exact h5, ?_⟩
    have : xnew σ sh.length f k2 = σ k2 := by
      funext b
      unfold xnew
      rw [if_neg (by omega)]
    rw [this]
    exact h6.ext xExt.app ht
  · have hlen := hW.1
    rw [List.getElem?_append_right (by omega)] at h2
    have hz : k2 - sh.length < 1 := (List.getElem?_eq_some_iff.mp h2).1
    have hk2 : k2 = sh.length := by omega
    subst hk2
    rw [Nat.sub_self] at h2
    cases h2
    refine ⟨q, e, by rw [← hlen, List.getElem?_append_right (by omega), Nat.sub_self]; rfl, ?_⟩
    have : xnew σ sh.length f sh.length = f := by
      funext b
      unfold xnew
      rw [if_pos rfl]
    rw [this]
    exact hc
theorem x_last {ws : va_W} {q n : Nat} {e : va_E} (h : ws.length = n) : (ws ++ [(q, e)])[n]? = some (q, e) := by
  rw [← h, List.getElem?_append_right (by omega), Nat.sub_self]
  rfl
theorem x_dv {t : Nat} {ty : FieldType} (h : xtt t ty = true) : (t = 3 ∧ defaultValue ty = .null) ∨ (t = 4 ∧ defaultValue ty = .null) ∨ (t = 2 ∧ defaultValue ty = .long 0) ∨ ((t = 0 ∨ t = 1) ∧ defaultValue ty = .int 0) := by
  unfold xtt at h
  split at h <;> first | (simp [defaultValue]; done) | (cases h; done)
theorem snd_new {w : Nat} (C : xCx p R s m meth c X CA A mi) {y : MethodName} {cc : ByteArray} {ml : Nat} (hown : s.vm.findClass y.cls = some m.cls) (hci : ∀ ci, ci < 13 → Cond.instantiable (xcn ci) (xnf ci) ∈ lw_tbl ∧ Cond.initialized (xcn ci) ∈ lw_tbl) (hb : c.code = cc) (hml : c.maxLocals = ml) {a b n : Nat} {N : xN} (ht : tb mi pc = some (.new w, a, b, n)) (hv : xvl y cc ml pc (.new w, a, b, n) = true) (h : xstep X mi pc L st sh σ = some N) (hc0 : c0 ≤ sh.length) (hs0 : s0 ≤ xns sh) (hrc : N.2.2.2.1.length - c0 ≤ R.cells) (hrs : xns N.2.2.2.1 - s0 ≤ R.slots) (k : xG p l e R s m args below meth c Q CA D A ws0 c0 s0 N.1 N.2.1 N.2.2.1 N.2.2.2.1 N.2.2.2.2) : xG p l e R s m args below meth c Q CA D A ws0 c0 s0 pc L st sh σ := by
  have hx := C.1
  unfold xstep at h
  rw [ht] at h
  have hv : (n == 3 && xw w (.classLink y.cls b (xcn a)) && xd cc pc (.new b) 3 && decide (a < 13)) = true := hv
  simp only [Bool.and_eq_true, beq_iff_eq, decide_eq_true_eq] at hv
  obtain ⟨⟨⟨rfl, hw⟩, h1⟩, ha⟩ := hv
  dsimp only at h
  rw [if_pos ha] at h
  cases h
  intro H locs ws tys ls cs hP hK hD hS hW hE hL hs
  obtain ⟨⟨Cn, T, N2⟩, hc⟩ : ∃ z, vwCl[a]? = some z := ⟨vwCl[a]'(by simpa using ha), List.getElem?_eq_getElem (by simpa using ha)⟩
  obtain ⟨hin, hN, hCn, ty0, k1, k2, k3⟩ := x_cls hc
  subst hN hCn
  have e1 : (sh ++ [Sum.inl (a, List.replicate (xnf a) (-1))]).length - c0 = sh.length - c0 + 1 := by simp; omega
  have e2 : xns (sh ++ [Sum.inl (a, List.replicate (xnf a) (-1))]) - s0 = xns sh - s0 + xnf a := by
    rw [xns_app]
    show xns sh + xnf a - s0 = _
    omega
  dsimp only at hrc hrs
  rw [e1] at hrc
  rw [e2] at hrs
  have hfs : ∀ j, j < xnf a → defaultValue (ty0 j) = vp_V ((List.range (xnf a)).map (fun j => defaultValue (ty0 j))) j := by
    intro j hj
    unfold vp_V
    simp [hj]
  refine va_new (own := y.cls) (C := xcn a) (T := T) (N := xnf a) hx hb (x_st0 hc C.2.2.1) (fun _ h => h) ty0 k1 hown (C.2.2.1.1 _ (xw_of hw) rfl args) (C.2.2.1.1 _ (hci a ha).1 rfl args) (C.2.2.1.1 _ (hci a ha).2 rfl args) hK hP hD hS C.2.2.2.1 hc hfs hrc hrs (xd_of h1) (fun q H1 g1 g2 g3 => ?_)
  have hA : xExt ws (ws ++ [(q, .inr (a, (List.range (xnf a)).map (fun j => defaultValue (ty0 j))))]) := xExt.app
  rw [← e1, ← e2]
  refine k H1 locs _ tys ls (.ref q :: cs) g1 hK g2 g3 (xWR.add hW (fun _ _ h => h) ⟨_, rfl, ha, by simp, by simp, fun j hj => ?_⟩) (hE.tr hA) (hL.ext hA) ⟨⟨q, _, x_last hW.1, rfl⟩, hs.ext hA⟩
  · refine ⟨defaultValue (ty0 j), by simp [hj], ?_⟩
    rcases x_dv (k3 j hj) with ⟨t3, hd⟩ | ⟨t4, hd⟩ | ⟨t2, hd⟩ | ⟨t01, hd⟩
    · rw [if_pos t3]
      exact ⟨-1, by simp [hj], by rw [hd]; rfl⟩
    · rw [if_neg (by omega), t4]
      exact ⟨vn, by dsimp only; rw [if_pos t4]; rfl, by rw [hd]; rfl⟩
    · rw [if_neg (by omega), t2]
      exact ⟨vl 0, by dsimp only; rw [if_neg (by omega)]; rfl, by rw [hd]; exact ⟨0, rfl, rfl⟩⟩
    · rcases t01 with t | t
      · rw [if_neg (by omega), t]
        exact ⟨vi 0, by dsimp only; rw [if_neg (by omega)]; rfl, by rw [hd]; exact ⟨0, rfl, rfl⟩⟩
      · rw [if_neg (by omega), t]
        exact ⟨vi 0, by dsimp only; rw [if_neg (by omega)]; rfl, by rw [hd]; exact ⟨0, rfl, rfl⟩⟩
theorem snd_newa {t : ArrayType} (C : xCx p R s m meth c X CA A mi) {y : MethodName} {cc : ByteArray} {ml : Nat} (hown : s.vm.findClass y.cls = some m.cls) (hb : c.code = cc) (hml : c.maxLocals = ml) {a b n : Nat} {N : xN} (ht : tb mi pc = some (.newarray t, a, b, n)) (hv : xvl y cc ml pc (.newarray t, a, b, n) = true) (h : xstep X mi pc L st sh σ = some N) (hc0 : c0 ≤ sh.length) (hs0 : s0 ≤ xns sh) (hrc : N.2.2.2.1.length - c0 ≤ R.cells) (hrs : xns N.2.2.2.1 - s0 ≤ R.slots) (k : xG p l e R s m args below meth c Q CA D A ws0 c0 s0 N.1 N.2.1 N.2.2.1 N.2.2.2.1 N.2.2.2.2) : xG p l e R s m args below meth c Q CA D A ws0 c0 s0 pc L st sh σ := by
  have hx := C.1
  unfold xstep at h
  rw [ht] at h
  have hv : (n == 2 && xd cc pc (.newarray t) 2 && xw a (.arrayClass (newarray.typeOf t))) = true := hv
  simp only [Bool.and_eq_true, beq_iff_eq] at hv
  obtain ⟨⟨rfl, h1⟩, hw⟩ := hv
  dsimp only at h
  intro H locs ws tys ls cs hP hK hD hS hW hE hL hs
  split at h
  · rename_i n1 r
    obtain ⟨zn, cr, rfl, rfl, hs1⟩ := hs.i
    split at h
    · rename_i ety hety
      split at h
      · rename_i hin
        cases h
        have e1 : (sh ++ [Sum.inr (ety, zn.toInt.toNat)]).length - c0 = sh.length - c0 + 1 := by simp; omega
        have e2 : xns (sh ++ [Sum.inr (ety, zn.toInt.toNat)]) - s0 = xns sh - s0 + zn.toInt.toNat := by
          rw [xns_app]
          show xns sh + zn.toInt.toNat - s0 = _
          omega
        dsimp only at hrc hrs
        rw [e1] at hrc
        rw [e2] at hrs
        have hz : ¬ zn < 0 := fun z => by
          have := (x_lt zn 0).mp z
          have h0 : (0 : Int32).toInt = 0 := rfl
          omega
        have key : ∃ (ty : FieldType) (a0 : vp_A), newarray.typeOf t = ty ∧ xaty ety = ty ∧ (∀ cA : ClassId, vp_cell cA a0 = arrV cA zn.toInt.toNat (fun _ => defaultValue ty)) ∧ componentBytes ty ≤ 8 ∧ ((ety < 2 ∧ a0 = (zn.toInt.toNat, .inl (fun _ => 0))) ∨ (ety = 2 ∧ a0 = (zn.toInt.toNat, .inr (.inl (fun _ => 0))))) := by
          unfold xety at hety
          split at hety
          · cases hety
            exact ⟨.int, (zn.toInt.toNat, .inl (fun _ => 0)), rfl, rfl, fun _ => rfl, by decide, Or.inl ⟨by omega, rfl⟩⟩
          · cases hety
            exact ⟨.boolean, (zn.toInt.toNat, .inl (fun _ => 0)), rfl, rfl, fun _ => rfl, by decide, Or.inl ⟨by omega, rfl⟩⟩
          · cases hety
            exact ⟨.long, (zn.toInt.toNat, .inr (.inl (fun _ => 0))), rfl, rfl, fun _ => rfl, by decide, Or.inr ⟨by omega, rfl⟩⟩
          · cases hety
        obtain ⟨ty, a0, hty, hat, hcell, hcb, hor⟩ := key
        have hbytes : zn.toInt.toNat * componentBytes ty ≤ 536870912 := Nat.le_trans (Nat.mul_le_mul (show zn.toInt.toNat ≤ 65536 by omega) hcb) (by decide)
        refine va_newa (a0 := a0) hx hb (C.2.2.1.1 _ (xw_of hw) rfl args) hty hK hP hD hS C.2.2.2.1 hcell hz rfl hbytes hrc hrs (xd_of h1) (fun q cA H1 hK1 g1 g2 g3 => ?_)
        have hA : xExt ws (ws ++ [(q, .inl (cA, a0))]) := xExt.app
        rw [← e1, ← e2]
        refine k H1 locs _ _ ls (.ref q :: cr) g1 hK1 g2 g3 (xWR.add hW (fun k2 z hz2 => by rw [List.getElem?_append_left (List.getElem?_eq_some_iff.mp hz2).1]; exact hz2) ⟨cA, tys.length, by rw [List.getElem?_append_right (by omega), Nat.sub_self, hat]; rfl, by omega, ?_⟩) (hE.tr hA) (hL.ext hA) ⟨⟨q, _, x_last hW.1, rfl⟩, hs1.ext hA⟩
        · rcases hor with ⟨g4, rfl⟩ | ⟨g4, rfl⟩
          · exact Or.inl ⟨_, g4, rfl, fun _ _ => rfl⟩
          · exact Or.inr ⟨_, g4, rfl, fun _ _ => rfl⟩
      · cases h
    · cases h
  · cases h
end XY
