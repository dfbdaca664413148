/-! calls, and the whole run -/
section XN
variable {p : Program} {l : Launch} {e : Env} {R : Room} {s : State} {m : MethodId} {args : Array Value} {below : List Frame} {meth : Method} {c : Code} {Q : State → Prop}
variable {X : Nat × (Nat → Int)} {CA : Nat → Nat} {D : va_G} {A : Nat → Prop} {ws0 : va_W} {c0 s0 mi pc : Nat} {L : List (Option xV)} {st : List xV} {sh : List xSh} {σ : xM}
theorem xstep_mono {N : xN} (h : xstep X mi pc L st sh σ = some N) : sh.length ≤ N.2.2.2.1.length ∧ xns sh ≤ xns N.2.2.2.1 := by
  cases ht : tb mi pc with
  | none => unfold xstep at h; rw [ht] at h; cases h
  | some q =>
    obtain ⟨ins, a, b, n⟩ := q
    unfold xstep at h
    rw [ht] at h
    cases ins <;> first
      | (cases h; done)
      | (cases h; exact ⟨Nat.le_refl _, Nat.le_refl _⟩)
      | (obtain ⟨st', -, e⟩ := xto_of h; subst e; exact ⟨Nat.le_refl _, Nat.le_refl _⟩)
      | (dsimp only at h
         repeat' split at h
         all_goals first
           | (cases h; done)
           | (cases h; exact ⟨Nat.le_refl _, Nat.le_refl _⟩)
           | (unfold xbr at h; repeat' split at h
              all_goals (cases h; exact ⟨Nat.le_refl _, Nat.le_refl _⟩))
           | (cases h; exact ⟨by simp, by rw [xns_set (by assumption)]; exact Nat.le_refl _⟩)
           | (cases h; exact ⟨by simp, by rw [xns_app]; omega⟩))
theorem xloc_args {ws : va_W} : ∀ {As : List xV} {cs : List Value}, xSR ws CA As cs → ∀ (n i : Nat) (v : xV), (xloc As)[i]? = some (some v) → ∃ cv, (n + i, cv) ∈ lv_args n cs ∧ xVR ws CA v cv
  | [], [], _, n, i, v, h => by simp [xloc] at h
  | [], _ :: _, q, _, _, _, _ => q.elim
  | _ :: _, [], q, _, _, _, _ => q.elim
  | .inl (.inr x) :: As, c :: cs, ⟨hv, hr⟩, n, i, v, h => by
    have hc : c.category = 2 := hv.cat
    match i, h with
    | 0, h =>
      cases h
      exact ⟨c, List.mem_cons_self, hv⟩
    | 1, h => cases h
    | i + 2, h =>
      obtain ⟨cv, hm, hx⟩ := xloc_args hr (n + 2) i v h
      refine ⟨cv, ?_, hx⟩
      show _ ∈ (n, c) :: lv_args (if c.category = 2 then n + 2 else n + 1) cs
      rw [if_pos hc]
      rw [show n + (i + 2) = n + 2 + i by omega]
      exact List.mem_cons_of_mem _ hm
  | .inl (.inl x) :: As, c :: cs, ⟨hv, hr⟩, n, i, v, h => by
    have hc : c.category = 1 := hv.cat
    match i, h with
    | 0, h =>
      cases h
      exact ⟨c, List.mem_cons_self, hv⟩
    | i + 1, h =>
      obtain ⟨cv, hm, hx⟩ := xloc_args hr (n + 1) i v h
      refine ⟨cv, ?_, hx⟩
      show _ ∈ (n, c) :: lv_args (if c.category = 2 then n + 2 else n + 1) cs
      rw [if_neg (by omega)]
      rw [show n + (i + 1) = n + 1 + i by omega]
      exact List.mem_cons_of_mem _ hm
  | .inr x :: As, c :: cs, ⟨hv, hr⟩, n, i, v, h => by
    have hc : c.category = 1 := hv.cat
    match i, h with
    | 0, h =>
      cases h
      exact ⟨c, List.mem_cons_self, hv⟩
    | i + 1, h =>
      obtain ⟨cv, hm, hx⟩ := xloc_args hr (n + 1) i v h
      refine ⟨cv, ?_, hx⟩
      show _ ∈ (n, c) :: lv_args (if c.category = 2 then n + 2 else n + 1) cs
      rw [if_neg (by omega)]
      rw [show n + (i + 1) = n + 1 + i by omega]
      exact List.mem_cons_of_mem _ hm
theorem xloc_len {ws : va_W} : ∀ {As : List xV} {cs : List Value}, xSR ws CA As cs → (lg_sl cs).length = (xloc As).length
  | [], [], _ => rfl
  | [], _ :: _, q => q.elim
  | _ :: _, [], q => q.elim
  | .inl (.inr x) :: As, c :: cs, ⟨hv, hr⟩ => by
    have hc : c.category = 2 := hv.cat
    have := xloc_len hr
    unfold lg_sl at this ⊢
    rw [List.flatMap_cons, if_pos hc, List.length_append, this]
    show 2 + _ = (xloc As).length + 1 + 1
    omega
  | .inl (.inl x) :: As, c :: cs, ⟨hv, hr⟩ => by
    have hc : c.category = 1 := hv.cat
    have := xloc_len hr
    unfold lg_sl at this ⊢
    rw [List.flatMap_cons, if_neg (by omega), List.length_append, this]
    show 1 + _ = (xloc As).length + 1
    omega
  | .inr x :: As, c :: cs, ⟨hv, hr⟩ => by
    have hc : c.category = 1 := hv.cat
    have := xloc_len hr
    unfold lg_sl at this ⊢
    rw [List.flatMap_cons, if_neg (by omega), List.length_append, this]
    show 1 + _ = (xloc As).length + 1
    omega
/-- behind a call -/
theorem x_back {H : Heap} {locs : List Loc} {cells slots mc ms : Nat} {ls : Array Slot} {st0 rest : List Value} {ws : va_W} {v1 : Option xV} {sh1 : List xSh} {σ1 : xM} {aa : Array Value} (hr : va_Run p l e R s m args below meth c H locs cells slots mc ms (F0 m pc ls st0) rest (xQ D CA A ws v1 sh1 σ1 aa) A) (hS : va_S A s.heap H locs)
    (k : ∀ (H1 : Heap) (locs1 : List Loc) (ws1 : va_W) (tys1 : List (ClassId × FieldType)) (vo : Option Value), va_P D vwCl ws1 H1 → va_K D vwCl tys1 s → va_D A ws1 → va_S A s.heap H1 locs1 → xWR CA sh1 σ1 ws1 tys1 → xExt ws ws1 → xVRo ws1 CA v1 vo → W p l e R s m args below meth c H1 locs1 (cells + mc) (slots + ms) Q (F0 m (pc + 3) ls (vo.toList ++ rest))) : W p l e R s m args below meth c H locs cells slots Q (F0 m pc ls st0) := by
  intro T hT Xs
  obtain ⟨v, st₀, t, T', L', h0, X', hL', e1, e2, ⟨⟨vo, ws1, tys1, hv, hvo, ⟨w1, w2, w3, w4⟩, hE⟩, hz, hk⟩, stp⟩ := hr T hT Xs
  cases hv
  rw [h0] at hz hk
  rw [← e1] at w1 hz hk
  obtain ⟨t2, a1, b1⟩ := k T'.heap (locs ++ L') ws1 tys1 v w1 (va_K.moved (by rw [← e2]; exact X'.warmed.alike.symm) w2) w3 ⟨Nat.le_trans hS.1 hz, fun q h1 h2 => by rw [hk q (Nat.lt_of_lt_of_le h1 hS.1) h2]; exact hS.2.1 q h1 h2, fun q hq => by
      rcases List.mem_append.mp hq with h | h
      · exact hS.2.2 q h
      · exact hL' q h⟩ w4 hE hvo T' rfl X'
  exact ⟨t2, stp t2 a1, b1⟩
/-- a callee's start -/
def xPc (D : va_G) (X : Nat × (Nat → Int)) (CA : Nat → Nat) (A : Nat → Prop) (sh : List xSh) (σ : xM) (ws : va_W) (tys : List (ClassId × FieldType)) (av : List Value) : Array Value → State → Prop := fun a U => a = av.toArray ∧ xW D CA A sh σ ws tys U ∧ xC X CA A U ∧ ∀ q, U.heap.size ≤ q → A q
theorem xPc.blind {ws : va_W} {tys : List (ClassId × FieldType)} {av : List Value} : FrameBlind (xPc D X CA A sh σ ws tys av) := by
  intro a U g mk ⟨h1, ⟨w1, w2, w3, w4⟩, h3, h4⟩
  exact ⟨h1, ⟨w1, va_K.moved (u := U) (U := U.calling g mk a) (Vm.Alike.refl U.vm) w2, w3, w4⟩, xC.move (s := U) (U := U.calling g mk a) (State.WarmedH.refl U) (fun _ _ _ => rfl) h3, h4⟩
theorem xPc.at {ws : va_W} {tys : List (ClassId × FieldType)} {av : List Value} {H : Heap} {locs : List Loc} (hP : va_P D vwCl ws H) (hK : va_K D vwCl tys s) (hD : va_D A ws) (hS : va_S A s.heap H locs) (hW : xWR CA sh σ ws tys) (C0 : xC X CA A s) (hA : ∀ q, s.heap.size ≤ q → A q) : ∀ U : State, U.heap = H → s.WarmedH U.vm → xPc D X CA A sh σ ws tys av av.toArray U := fun U hU hw =>
  ⟨rfl, ⟨by rw [hU]; exact hP, va_K.moved hw.alike hK, hD, hW⟩, xC.move hw (fun a ha hn => by rw [hU]; exact hS.2.1 a ha hn) C0, fun q hq => hA q (Nat.le_trans hS.1 (by rw [← hU]; exact hq))⟩
theorem x_recv {H : Heap} {locs : List Loc} {ws : va_W} {tys : List (ClassId × FieldType)} {q : Option Nat ⊕ Nat} {ci : Nat} {cv : Value} (hP : va_P D vwCl ws H) (hK : va_K D vwCl tys s) (hS : va_S A s.heap H locs) (hW : xWR CA sh σ ws tys) (C0 : xC X CA A s) (h : xrc sh q = some ci) (hv : xVR ws CA (.inr q) cv) : ∃ b, cv = .ref b ∧ ∃ cell : Cell, H[b]? = some cell ∧ cell.vm.isStatics = false ∧ s.vm.findClass (xcn ci) = some cell.cls := by
  unfold xrc at h
  split at h
  · rename_i k
    split at h
    · rename_i c1 rs hsh
      cases h
      obtain ⟨b, e0, hk, hcv⟩ := hv
      obtain ⟨q', e1, hk1, fs, rfl, hc13, -⟩ := hW.2 k _ hsh
      rw [hk] at hk1
      cases hk1
      obtain ⟨⟨Cn, T, N2⟩, hc⟩ : ∃ z, vwCl[ci]? = some z := ⟨vwCl[ci]'(by simpa using hc13), List.getElem?_eq_getElem (by simpa using hc13)⟩
      obtain ⟨cell, g1, g2, g3⟩ := va_recv hK hP hc hk
      refine ⟨b, hcv, cell, g1, g2, ?_⟩
      rw [← (x_cls hc).2.2.1]
      exact g3
    · cases h
  · cases h
  · rename_i c1
    split at h
    · rename_i hc
      cases h
      have hv : (if c1 = 98 then (cv = .null ∨ ∃ a, cv = .ref a) else cv = .ref (CA c1)) := hv
      rw [if_neg (by omega)] at hv
      obtain ⟨cell, g1, g2, g3, -⟩ := (C0.2.2.1 c1 hc.1 hc.2).1.kept hS.2.1
      exact ⟨_, hv, cell, g1, g2, g3⟩
    · cases h
theorem xml_of {w i : Nat} {o : String} {z : MethodName} {nest : Bool} (h : xml w o z = some (i, nest)) : (nest = false ∧ Cond.methodLink o i z ∈ lw_tbl) ∨ (nest = true ∧ ∃ host, Cond.methodLinkNest o i z host ∈ lw_tbl) := by
  unfold xml at h
  split at h
  · rename_i o' i' r hw
    split at h
    · rename_i hq
      obtain ⟨rfl, rfl⟩ := hq
      cases h
      exact Or.inl ⟨rfl, List.mem_of_getElem? hw⟩
    · cases h
  · rename_i o' i' r host hw
    split at h
    · rename_i hq
      obtain ⟨rfl, rfl⟩ := hq
      cases h
      exact Or.inr ⟨rfl, host, List.mem_of_getElem? hw⟩
    · cases h
  · cases h
end XN
