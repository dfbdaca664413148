/-! the step rows, third: fields, statics, arrays, new cells -/
section XX
variable {p : Program} {l : Launch} {e : Env} {R : Room} {s : State} {m : MethodId} {args : Array Value} {below : List Frame} {meth : Method} {c : Code} {Q : State → Prop}
variable {X : Nat × (Nat → Int)} {CA : Nat → Nat} {D : va_G} {A : Nat → Prop} {ws0 : va_W} {c0 s0 mi pc : Nat} {L : List (Option xV)} {st : List xV} {sh : List xSh} {σ : xM}
theorem xfl_of {w i : Nat} {o : String} {f : String × String × String} {nest : Bool} (h : xfl w o f = some (i, nest)) : (nest = false ∧ Cond.fieldLink o i f.1 f.2.1 f.2.2 ∈ lw_tbl) ∨ (nest = true ∧ ∃ host, Cond.fieldLinkNest o i f.1 f.2.1 f.2.2 host ∈ lw_tbl) := by
  unfold xfl at h
  split at h
  · rename_i o' i' r nm ds hw
    split at h
    · rename_i hq
      obtain ⟨rfl, rfl, rfl, rfl⟩ := hq
      cases h
      exact Or.inl ⟨rfl, List.mem_of_getElem? hw⟩
    · cases h
  · rename_i o' i' r nm ds host hw
    split at h
    · rename_i hq
      obtain ⟨rfl, rfl, rfl, rfl⟩ := hq
      cases h
      exact Or.inr ⟨rfl, host, List.mem_of_getElem? hw⟩
    · cases h
  · cases h
theorem xfd_of {ci j : Nat} {f : String × String × String × Bool} (h : xfd ci j = some f) : ∃ (C : String) (T : u_T) (N : Nat), vwCl[ci]? = some (C, T, N) ∧ j < N ∧ f = T j := by
  unfold xfd at h
  split at h
  · rename_i C T N hq
    split at h
    · rename_i hj
      exact ⟨C, T, N, hq, hj, (Option.some.inj h).symm⟩
    · cases h
  · cases h
theorem x_st0 {ci : Nat} {C : String} {T : u_T} {N : Nat} (hc : vwCl[ci]? = some (C, T, N)) (C0 : xC X CA A s) : ∀ w ∈ u_ws C T N, w.before args s = true := fun w hw => C0.1 w ((x_cls hc).1 w hw) (x_good (ci := ci) w hw) args
/-- a read of a field of ours -/
theorem x_getf (hx : p.tables.exec = Jvm.exec) {cc : ByteArray} (hb : c.code = cc) (C0 : xC X CA A s) {y : MethodName} (hown : s.vm.findClass y.cls = some m.cls) {a b w : Nat} {H : Heap} {locs : List Loc} {cells slots : Nat} {ws : va_W} {tys : List (ClassId × FieldType)} {ls : Array Slot} {q q0 : Nat} {fs : List Value} {v : Value} {cr : List Value} (hP : va_P D vwCl ws H) (hK : va_K D vwCl tys s) (he : ws[q0]? = some (q, .inr (a, fs))) (hf : fs[b]? = some v)
    (hv : (match xfd a b with
          | some f => (match xfl w y.cls (f.1, f.2.1, f.2.2.1) with
            | some (i, _) => xd cc pc (.getfield i) 3
            | none => false)
          | none => false) = true)
    (k : W p l e R s m args below meth c H locs cells slots Q (F0 m (pc + 3) ls (v :: cr))) : W p l e R s m args below meth c H locs cells slots Q (F0 m pc ls (.ref q :: cr)) := by
  split at hv
  · rename_i f hfd
    obtain ⟨Cn, T, N, hc, hj, rfl⟩ := xfd_of hfd
    split at hv
    · rename_i i nest hfl
      rcases xfl_of hfl with ⟨-, hm⟩ | ⟨-, host, hm⟩
      · exact va_get (own := y.cls) (C := Cn) (T := T) (N := N) (ref := (T b).1) (index := i) hx hb (x_st0 hc C0) (fun _ h => h) hown hK hP q0 he hc b hj (C0.1 _ hm rfl args) (fun _ h => h) hf (xd_of hv) k
      · exact va_getN (own := y.cls) (C := Cn) (T := T) (N := N) (ref := (T b).1) (index := i) (host := host) hx hb (x_st0 hc C0) (fun _ h => h) hown hK hP q0 he hc b hj (C0.1 _ hm rfl args) (fun _ h => h) hf (xd_of hv) k
    · cases hv
  · cases hv
theorem x_n3 {n : Nat} {b : Bool} (h : (n == 3 && b) = true) : n = 3 ∧ b = true := by simpa using h
theorem snd_getf {w : Nat} (C : xCx p R s m meth c X CA A mi) {y : MethodName} {cc : ByteArray} {ml : Nat} (hown : s.vm.findClass y.cls = some m.cls) (hb : c.code = cc) (hml : c.maxLocals = ml) {a b n : Nat} {N : xN} (ht : tb mi pc = some (.getfield w, a, b, n)) (hv : xvl y cc ml pc (.getfield w, a, b, n) = true) (h : xstep X mi pc L st sh σ = some N) (hc0 : c0 ≤ sh.length) (hs0 : s0 ≤ xns sh) (hrc : N.2.2.2.1.length - c0 ≤ R.cells) (hrs : xns N.2.2.2.1 - s0 ≤ R.slots) (k : xG p l e R s m args below meth c Q CA D A ws0 c0 s0 N.1 N.2.1 N.2.2.1 N.2.2.2.1 N.2.2.2.2) : xG p l e R s m args below meth c Q CA D A ws0 c0 s0 pc L st sh σ := by
  have hx := C.1
  unfold xstep at h
  rw [ht] at h
  have hv : (if a = 13 then (n == 3 && (match xfl w y.cls (if b = 0 then ("java/lang/String", "coder", "B") else ("java/lang/String", "value", "[B")) with
          | some (i, false) => xd cc pc (.getfield i) 3
          | _ => false)) else (n == 3 && (match xfd a b with
          | some f => (match xfl w y.cls (f.1, f.2.1, f.2.2.1) with
            | some (i, _) => xd cc pc (.getfield i) 3
            | none => false)
          | none => false))) = true := hv
  dsimp only at h
  intro H locs ws tys ls cs hP hK hD hS hW hE hL hs
  split at h
  · rename_i k0 r
    obtain ⟨q, e0, cr, rfl, hk, hs1⟩ := hs.r
    split at h
    · rename_i ci rs hsh
      split at h
      · rename_i hci
        subst hci
        obtain ⟨q', e1, hk1, fs, rfl, hc13, hrl, hfl, hf⟩ := hW.2 k0 _ hsh
        rw [hk] at hk1
        cases hk1
        rw [if_neg (by omega)] at hv
        obtain ⟨rfl, hv⟩ := x_n3 hv
        have hb13 : b < xnf ci := by
          split at hv
          · rename_i f hfd
            obtain ⟨Cn, T, N2, hc, hj, -⟩ := xfd_of hfd
            have := (x_cls hc).2.1
            omega
          · cases hv
        obtain ⟨cv, hcv, hfv⟩ := hf b hb13
        split at h
        · rename_i ht3
          rw [if_pos ht3] at hfv
          obtain ⟨x, hx1, hx2⟩ := hfv
          rw [hx1] at h
          cases h
          exact x_getf hx hb C.2.2.1 hown hP hK hk hcv hv (xs_top k hP hK hD hS hW hE hL hx2 hs1)
        · rename_i ht3
          rw [if_neg ht3] at hfv
          obtain ⟨v, hx1, hx2⟩ := hfv
          rw [hx1] at h
          cases h
          exact x_getf hx hb C.2.2.1 hown hP hK hk hcv hv (xs_top k hP hK hD hS hW hE hL hx2 hs1)
      · cases h
    · cases h
  · rename_i k0 r
    split at h
    · rename_i hq
      obtain ⟨rfl, hq1, hq2⟩ := hq
      obtain ⟨cr, rfl, hs1⟩ := hs.cc (by omega)
      rw [if_pos rfl] at hv
      obtain ⟨rfl, hv⟩ := x_n3 hv
      obtain ⟨g1, g2, g3⟩ := C.2.2.1.2.2.1 k0 hq1 hq2
      split at h
      · rename_i hb0
        subst hb0
        cases h
        rw [if_pos rfl] at hv
        split at hv
        · rename_i i hfl
          rcases xfl_of hfl with ⟨-, hm⟩ | ⟨hz, -⟩
          · exact vk_getf hx hb g2 hS hown (C.2.2.1.1 _ hm rfl args) (fun _ h => h) (xd_of hv) (xs_top k hP hK hD hS hW hE hL ⟨0, rfl, rfl⟩ hs1)
          · cases hz
        · cases hv
      · rename_i hb0
        split at h
        · cases h
          rw [if_neg hb0] at hv
          split at hv
          · rename_i i hfl
            rcases xfl_of hfl with ⟨-, hm⟩ | ⟨hz, -⟩
            · exact vk_getf hx hb g3 hS hown (C.2.2.1.1 _ hm rfl args) (fun _ h => h) (xd_of hv) (xs_top k hP hK hD hS hW hE hL (show (if k0 + 30 = 98 then _ else _) by rw [if_neg (by omega)]) hs1)
            · cases hz
          · cases hv
        · cases h
    · cases h
  · cases h
theorem x_wr_self {σ : xM} {k j : Nat} {x : Int} : xwr σ k j x k = fun b => if b = j then x else σ k b := by
  funext b
  unfold xwr
  by_cases h : b = j <;> simp [h]
theorem x_wr_ne {σ : xM} {k k2 j : Nat} {x : Int} (h : k2 ≠ k) : xwr σ k j x k2 = σ k2 := by
  funext b
  unfold xwr
  rw [if_neg (fun z => h z.1)]
/-- the world behind a write of a field -/
theorem xWR.putf {ws : va_W} {tys : List (ClassId × FieldType)} {k0 ci b q : Nat} {rs : List Int} {fs : List Value} {v : xV} {cv : Value} {x : Int} (hW : xWR CA sh σ ws tys) (hsh : sh[k0]? = some (.inl (ci, rs))) (hk : ws[k0]? = some (q, .inr (ci, fs))) (h3 : xtc ci b ≠ 3) (hx : xenc (xtc ci b) v = some x) (hv : xVR ws CA v cv) : xWR CA sh (xwr σ k0 b x) (ws.set k0 (q, .inr (ci, fs.set b cv))) tys := by
  have hE : xExt ws (ws.set k0 (q, .inr (ci, fs.set b cv))) := xExt.set hk
  refine ⟨by rw [List.length_set]; exact hW.1, fun k2 q2 h2 => ?_⟩
  by_cases hkk : k2 = k0
  · subst hkk
    rw [hsh] at h2
    cases h2
    obtain ⟨q', e1, hk1, fs', he, hc13, hrl, hfl, hf⟩ := hW.2 k2 _ hsh
    rw [hk] at hk1
    cases hk1
    cases he
    refine ⟨q, _, List.getElem?_set_self (List.getElem?_eq_some_iff.mp hk).1, fs.set b cv, rfl, hc13, hrl, by rw [List.length_set]; exact hfl, fun j hj => ?_⟩
    obtain ⟨c1, hc1, hj1⟩ := hf j hj
    by_cases hjb : j = b
    · subst hjb
      refine ⟨cv, List.getElem?_set_self (by omega), ?_⟩
      rw [if_neg h3]
      refine ⟨v, ?_, hv.ext hE⟩
      rw [x_wr_self]
      dsimp only
      rw [if_pos rfl]
      revert hx
      unfold xenc
      split <;> intro hx
      · rename_i ht; rw [ht]; cases hx; rfl
      · rename_i ht; rw [ht]; split at hx <;> cases hx; rfl
      · rename_i ht; rw [ht]; cases hx; rfl
      · rename_i ht
        rw [ht]
        cases hx
        show some (if _ then _ else _) = _
        rw [if_neg (by omega)]
        rfl
      · cases hx
    · refine ⟨c1, by rw [List.getElem?_set_ne (Ne.symm hjb)]; exact hc1, ?_⟩
      rw [x_wr_self]
      dsimp only
      split at hj1
      · rename_i ht3
        rw [if_pos ht3]
        obtain ⟨z, hz, hr⟩ := hj1
        exact ⟨z, hz, hr.ext hE⟩
      · rename_i ht3
        rw [if_neg ht3, if_neg hjb]
        obtain ⟨z, hz, hr⟩ := hj1
        exact ⟨z, hz, hr.ext hE⟩
  · obtain ⟨a2, e2, h5, h6⟩ := hW.2 k2 q2 h2
    refine ⟨a2, e2, by rw [List.getElem?_set_ne (Ne.symm hkk)]; exact h5, ?_⟩
    rw [x_wr_ne hkk]
    exact h6.ext hE (fun _ _ h => h)
theorem xWR.putr {ws : va_W} {tys : List (ClassId × FieldType)} {k0 ci b q : Nat} {rs : List Int} {fs : List Value} {v : xV} {cv : Value} {x : Int} (hW : xWR CA sh σ ws tys) (hsh : sh[k0]? = some (.inl (ci, rs))) (hk : ws[k0]? = some (q, .inr (ci, fs))) (h3 : xtc ci b = 3) (hb : b < rs.length) (hx : xenr v = some x) (hv : xVR ws CA v cv) : xWR CA (sh.set k0 (.inl (ci, rs.set b x))) σ (ws.set k0 (q, .inr (ci, fs.set b cv))) tys := by
  have hE : xExt ws (ws.set k0 (q, .inr (ci, fs.set b cv))) := xExt.set hk
  have hxv : xref x = v := by
    unfold xenr at hx
    split at hx
    · cases hx; rfl
    · rename_i k
      cases hx
      show Sum.inr (Sum.inl (if _ then _ else _)) = _
      rw [if_neg (by omega)]
      rfl
    · cases hx
  refine ⟨by rw [List.length_set, List.length_set]; exact hW.1, fun k2 q2 h2 => ?_⟩
  by_cases hkk : k2 = k0
  · subst hkk
    rw [List.getElem?_set_self (List.getElem?_eq_some_iff.mp hsh).1] at h2
    cases h2
    obtain ⟨q', e1, hk1, fs', he, hc13, hrl, hfl, hf⟩ := hW.2 k2 _ hsh
    rw [hk] at hk1
    cases hk1
    cases he
    refine ⟨q, _, List.getElem?_set_self (List.getElem?_eq_some_iff.mp hk).1, fs.set b cv, rfl, hc13, by rw [List.length_set]; exact hrl, by rw [List.length_set]; exact hfl, fun j hj => ?_⟩
    obtain ⟨c1, hc1, hj1⟩ := hf j hj
    by_cases hjb : j = b
    · subst hjb
      refine ⟨cv, List.getElem?_set_self (by omega), ?_⟩
      rw [if_pos h3]
      exact ⟨x, List.getElem?_set_self hb, by rw [hxv]; exact hv.ext hE⟩
    · refine ⟨c1, by rw [List.getElem?_set_ne (Ne.symm hjb)]; exact hc1, ?_⟩
      split at hj1
      · rename_i ht3
        rw [if_pos ht3]
        obtain ⟨z, hz, hr⟩ := hj1
        exact ⟨z, by rw [List.getElem?_set_ne (Ne.symm hjb)]; exact hz, hr.ext hE⟩
      · rename_i ht3
        rw [if_neg ht3]
        obtain ⟨z, hz, hr⟩ := hj1
        exact ⟨z, hz, hr.ext hE⟩
  · rw [List.getElem?_set_ne (Ne.symm hkk)] at h2
    obtain ⟨a2, e2, h5, h6⟩ := hW.2 k2 q2 h2
    exact ⟨a2, e2, by rw [List.getElem?_set_ne (Ne.symm hkk)]; exact h5, h6.ext hE (fun _ _ h => h)⟩
/-- a write of a field of ours -/
theorem x_putf (hx : p.tables.exec = Jvm.exec) {cc : ByteArray} (hb : c.code = cc) (C0 : xC X CA A s) {y : MethodName} (hown : s.vm.findClass y.cls = some m.cls) (hnm : meth.name = y.name) {a b w : Nat} {H : Heap} {locs : List Loc} {cells slots : Nat} {ws : va_W} {tys : List (ClassId × FieldType)} {ls : Array Slot} {q q0 : Nat} {fs : List Value} {v : Value} {cr : List Value} (hP : va_P D vwCl ws H) (hK : va_K D vwCl tys s) (hD : va_D A ws) (hS : va_S A s.heap H locs) (he : ws[q0]? = some (q, .inr (a, fs))) (hl : fs.length = xnf a) (hfit : ∀ ty, xtt (xtc a b) ty = true → narrow ty v = v ∧ fits ty v = true)
    (hv : (match xfd a b with
          | some f => (match parseFieldDescriptor f.2.2.1 with
            | some ty => xtt (xtc a b) ty
            | none => false) && (match xfl w y.cls (f.1, f.2.1, f.2.2.1) with
            | some (i, nest) => xd cc pc (.putfield i) 3 && (!f.2.2.2 || (!nest && decide (y.name = "<init>") && decide (f.1 = y.cls)))
            | none => false)
          | none => false) = true)
    (k : ∀ (H1 : Heap) (locs1 : List Loc), va_P D vwCl (ws.set q0 (q, .inr (a, fs.set b v))) H1 → va_D A (ws.set q0 (q, .inr (a, fs.set b v))) → va_S A s.heap H1 locs1 → W p l e R s m args below meth c H1 locs1 cells slots Q (F0 m (pc + 3) ls cr)) : W p l e R s m args below meth c H locs cells slots Q (F0 m pc ls (v :: .ref q :: cr)) := by
  split at hv
  · rename_i f hfd
    obtain ⟨Cn, T, N, hc, hj, rfl⟩ := xfd_of hfd
    obtain ⟨-, hN, -, ty0, k1, k2, -⟩ := x_cls hc
    rw [Bool.and_eq_true] at hv
    obtain ⟨hv1, hv2⟩ := hv
    split at hv1
    · rename_i ty hty
      obtain ⟨f1, f2⟩ := hfit ty hv1
      split at hv2
      · rename_i i nest hfl
        simp only [Bool.and_eq_true, Bool.or_eq_true, Bool.not_eq_true', decide_eq_true_eq] at hv2
        obtain ⟨hd, hor⟩ := hv2
        by_cases hfin : (T b).2.2.2 = false
        · rcases xfl_of hfl with ⟨-, hm⟩ | ⟨-, host, hm⟩
          · exact va_put (own := y.cls) (C := Cn) (T := T) (N := N) (ref := (T b).1) (index := i) hx hb (x_st0 hc C0) (fun _ h => h) ty0 k1 k2 hown hK hP hD hS q0 he hc b hj (C0.1 _ hm rfl args) (fun _ h => h) hfin hty f1 f2 (by omega) (xd_of hd) k
          · exact va_putN (own := y.cls) (C := Cn) (T := T) (N := N) (ref := (T b).1) (index := i) (host := host) hx hb (x_st0 hc C0) (fun _ h => h) ty0 k1 k2 hown hK hP hD hS q0 he hc b hj (C0.1 _ hm rfl args) (fun _ h => h) hfin hty f1 f2 (by omega) (xd_of hd) k
        · rcases hor with hor | ⟨⟨hn, hi⟩, ho⟩
          · exact absurd hor hfin
          · rcases xfl_of hfl with ⟨-, hm⟩ | ⟨hz, -⟩
            · exact va_putF (own := y.cls) (C := Cn) (T := T) (N := N) (ref := (T b).1) (index := i) hx hb (x_st0 hc C0) (fun _ h => h) ty0 k1 k2 hown hK hP hD hS q0 he hc b hj (C0.1 _ hm rfl args) (fun _ h => h) (by simpa using hfin) (hnm.trans hi) ho hty f1 f2 (by omega) (xd_of hd) k
            · rw [hz] at hn; cases hn
      · cases hv2
    · cases hv1
  · cases hv
theorem x_nar {ty : FieldType} {t : Nat} {x : Int} {ws : va_W} {v : xV} {cv : Value} (ht : xtt t ty = true) (hv : xVR ws CA v cv) (h : (t ≠ 3 ∧ xenc t v = some x) ∨ (t = 3 ∧ xenr v = some x)) : narrow ty cv = cv ∧ fits ty cv = true := by
  rcases h with ⟨h3, h⟩ | ⟨h3, h⟩
  · unfold xenc at h
    split at h
    · obtain ⟨z, rfl, -⟩ := hv
      unfold xtt at ht
      split at ht <;> first | (exact ⟨rfl, rfl⟩) | (cases ht; done) | skip
      all_goals first | omega | (simp_all; done) | skip
    · obtain ⟨z, rfl, hz⟩ := hv
      split at h
      · rename_i hq
        have hz2 : z = 0 ∨ z = 1 := by
          rcases hq with hq | hq
          · exact Or.inl ((x_eq z 0).mpr (by rw [← hz, hq]; rfl))
          · exact Or.inr ((x_eq z 1).mpr (by rw [← hz, hq]; rfl))
        unfold xtt at ht
        split at ht <;> first | (rcases hz2 with rfl | rfl <;> exact ⟨rfl, rfl⟩) | (cases ht; done) | skip
        all_goals first | omega | (simp_all; done) | skip
      · cases h
    · obtain ⟨z, rfl, -⟩ := hv
      unfold xtt at ht
      split at ht <;> first | (exact ⟨rfl, rfl⟩) | (cases ht; done) | skip
      all_goals first | omega | (simp_all; done) | skip
    · rename_i cn
      have hv : (if cn = 98 then (cv = .null ∨ ∃ a, cv = .ref a) else cv = .ref (CA cn)) := hv
      have hcv : cv = .null ∨ ∃ q, cv = .ref q := by
        split at hv
        · exact hv
        · exact Or.inr ⟨_, hv⟩
      unfold xtt at ht
      split at ht <;> first | (rcases hcv with rfl | ⟨q, rfl⟩ <;> exact ⟨rfl, rfl⟩) | (cases ht; done) | skip
      all_goals first | omega | (simp_all; done) | skip
    · cases h
  · subst h3
    have hcv : cv = .null ∨ ∃ q, cv = .ref q := by
      unfold xenr at h
      split at h
      · exact Or.inl hv
      · obtain ⟨q, e, -, hq⟩ := hv
        exact Or.inr ⟨q, hq⟩
      · cases h
    unfold xtt at ht
    split at ht <;> first | (rcases hcv with rfl | ⟨q, rfl⟩ <;> exact ⟨rfl, rfl⟩) | (cases ht; done) | skip
    all_goals first | omega | (simp_all; done) | skip
theorem xns_set {sh : List xSh} {k0 ci : Nat} {rs rs' : List Int} (h : sh[k0]? = some (.inl (ci, rs))) : xns (sh.set k0 (.inl (ci, rs'))) = xns sh := by
  unfold xns
  rw [List.map_set, show xsz (.inl (ci, rs')) = xsz (.inl (ci, rs)) from rfl]
  congr 1
  apply List.ext_getElem?
  intro i
  by_cases hi : i = k0
  · subst hi
    rw [List.getElem?_set_self (by rw [List.length_map]; exact (List.getElem?_eq_some_iff.mp h).1), List.getElem?_map, h]
    rfl
  · rw [List.getElem?_set_ne (Ne.symm hi)]
theorem snd_putf {w : Nat} (C : xCx p R s m meth c X CA A mi) {y : MethodName} {cc : ByteArray} {ml : Nat} (hown : s.vm.findClass y.cls = some m.cls) (hnm : meth.name = y.name) (hb : c.code = cc) (hml : c.maxLocals = ml) {a b n : Nat} {N : xN} (ht : tb mi pc = some (.putfield w, a, b, n)) (hv : xvl y cc ml pc (.putfield w, a, b, n) = true) (h : xstep X mi pc L st sh σ = some N) (hc0 : c0 ≤ sh.length) (hs0 : s0 ≤ xns sh) (hrc : N.2.2.2.1.length - c0 ≤ R.cells) (hrs : xns N.2.2.2.1 - s0 ≤ R.slots) (k : xG p l e R s m args below meth c Q CA D A ws0 c0 s0 N.1 N.2.1 N.2.2.1 N.2.2.2.1 N.2.2.2.2) : xG p l e R s m args below meth c Q CA D A ws0 c0 s0 pc L st sh σ := by
  have hx := C.1
  unfold xstep at h
  rw [ht] at h
  have hv : (n == 3 && (match xfd a b with
          | some f => (match parseFieldDescriptor f.2.2.1 with
            | some ty => xtt (xtc a b) ty
            | none => false) && (match xfl w y.cls (f.1, f.2.1, f.2.2.1) with
            | some (i, nest) => xd cc pc (.putfield i) 3 && (!f.2.2.2 || (!nest && decide (y.name = "<init>") && decide (f.1 = y.cls)))
            | none => false)
          | none => false)) = true := hv
  obtain ⟨rfl, hv⟩ := x_n3 hv
  dsimp only at h
  intro H locs ws tys ls cs hP hK hD hS hW hE hL hs
  split at h
  · rename_i v k0 r
    obtain ⟨cv, cr0, rfl, hr, hs0⟩ := hs.q
    obtain ⟨q, e0, cr, rfl, hk, hs1⟩ := hs0.r
    split at h
    · rename_i ci rs hsh
      split at h
      · rename_i hci
        subst hci
        obtain ⟨q', e1, hk1, fs, rfl, hc13, hrl, hfl, hf⟩ := hW.2 k0 _ hsh
        rw [hk] at hk1
        cases hk1
        split at h
        · rename_i ht3
          split at h
          · rename_i x hx1
            split at h
            · rename_i hbl
              cases h
              refine x_putf hx hb C.2.2.1 hown hnm hP hK hD hS hk hfl (fun ty ht => x_nar ht hr (Or.inr ⟨ht3, hx1⟩)) hv (fun H1 locs1 g1 g2 g3 => ?_)
              have hE2 : xExt ws (ws.set k0 (q, .inr (ci, fs.set b cv))) := xExt.set hk
              have kk := k H1 locs1 _ tys ls cr g1 hK g2 g3 (xWR.putr hW hsh hk ht3 hbl hx1 hr) (hE.tr hE2) (hL.ext hE2) (hs1.ext hE2)
              rw [List.length_set, xns_set hsh] at kk
              exact kk
            · cases h
          · cases h
        · rename_i ht3
          split at h
          · rename_i x hx1
            cases h
            refine x_putf hx hb C.2.2.1 hown hnm hP hK hD hS hk hfl (fun ty ht => x_nar ht hr (Or.inl ⟨ht3, hx1⟩)) hv (fun H1 locs1 g1 g2 g3 => ?_)
            have hE2 : xExt ws (ws.set k0 (q, .inr (ci, fs.set b cv))) := xExt.set hk
            exact k H1 locs1 _ tys ls cr g1 hK g2 g3 (xWR.putf hW hsh hk ht3 hx1 hr) (hE.tr hE2) (hL.ext hE2) (hs1.ext hE2)
          · cases h
      · cases h
    · cases h
  · cases h
end XX
