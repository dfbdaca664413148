/-! one instruction of the small machine is one of the real one -/
theorem x32 (x : Int32) : Int32.ofInt x.toInt = x := by simp
theorem x64 (x : Int64) : Int64.ofInt x.toInt = x := by simp
section XS
variable {p : Program} {l : Launch} {e : Env} {R : Room} {s : State} {m : MethodId} {args : Array Value} {below : List Frame} {meth : Method} {c : Code} {Q : State → Prop}
/-- what holds all through a method's run -/
def xCx (p : Program) (R : Room) (s : State) (m : MethodId) (meth : Method) (c : Code) (X : Nat × (Nat → Int)) (CA : Nat → Nat) (A : Nat → Prop) (mi : Nat) : Prop :=
  p.tables.exec = Jvm.exec ∧ meth.locks = false ∧ xC X CA A s ∧ (∀ q, s.heap.size ≤ q → A q) ∧ ∃ (y : MethodName) (cc : ByteArray) (ml : Nat) (rt : Option FieldType), MT mi = some (y, cc, ml, rt) ∧ c.code = cc ∧ c.maxLocals = ml ∧ meth.sig.returnType = rt ∧ s.vm.findClass y.cls = some m.cls ∧ meth.name = y.name ∧ 1 ≤ R.frames ∧ 64 ≤ R.locals
def xsz (q : xSh) : Nat := match q with
  | .inl (ci, _) => xnf ci
  | .inr (_, n) => n
def xns (sh : List xSh) : Nat := (sh.map xsz).sum
/-- the real machine at a point where the small one is -/
def xG (p : Program) (l : Launch) (e : Env) (R : Room) (s : State) (m : MethodId) (args : Array Value) (below : List Frame) (meth : Method) (c : Code) (Q : State → Prop) (CA : Nat → Nat) (D : va_G) (A : Nat → Prop) (ws0 : va_W) (c0 s0 : Nat) (pc : Nat) (L : List (Option xV)) (st : List xV) (sh : List xSh) (σ : xM) : Prop :=
  ∀ (H : Heap) (locs : List Loc) (ws : va_W) (tys : List (ClassId × FieldType)) (ls : Array Slot) (cs : List Value), va_P D vwCl ws H → va_K D vwCl tys s → va_D A ws → va_S A s.heap H locs → xWR CA sh σ ws tys → xExt ws0 ws → xLR ws CA L ls c.maxLocals → xSR ws CA st cs → W p l e R s m args below meth c H locs (sh.length - c0) (xns sh - s0) Q (F0 m pc ls cs)
variable {X : Nat × (Nat → Int)} {CA : Nat → Nat} {D : va_G} {A : Nat → Prop} {ws0 : va_W} {c0 s0 mi pc : Nat} {L : List (Option xV)} {st : List xV} {sh : List xSh} {σ : xM}
/-- a push of an int -/
theorem xs_top {v : xV} {cv : Value} {r : List xV} {H : Heap} {locs : List Loc} {ws : va_W} {tys : List (ClassId × FieldType)} {ls : Array Slot} {cs : List Value} {pc' : Nat} (k : xG p l e R s m args below meth c Q CA D A ws0 c0 s0 pc' L (v :: r) sh σ) (hP : va_P D vwCl ws H) (hK : va_K D vwCl tys s) (hD : va_D A ws) (hS : va_S A s.heap H locs) (hW : xWR CA sh σ ws tys) (hE : xExt ws0 ws) (hL : xLR ws CA L ls c.maxLocals) (hv : xVR ws CA v cv) (hs : xSR ws CA r cs) : W p l e R s m args below meth c H locs (sh.length - c0) (xns sh - s0) Q (F0 m pc' ls (cv :: cs)) := k H locs ws tys ls (cv :: cs) hP hK hD hS hW hE hL ⟨hv, hs⟩
theorem xd_of {cc : ByteArray} {i : Instr} {n : Nat} (h : xd cc pc i n = true) : decode cc pc = .ok (i, n) := of_decide_eq_true h
theorem xw_of {w : Nat} {q : Cond} (h : xw w q = true) : q ∈ lw_tbl := List.mem_of_getElem? (of_decide_eq_true h)
theorem xSR.i {ws : va_W} {CA : Nat → Nat} {x : Int} {r : List xV} {cs : List Value} (h : xSR ws CA (.inl (.inl x) :: r) cs) : ∃ (z : Int32) (cr : List Value), cs = .int z :: cr ∧ x = z.toInt ∧ xSR ws CA r cr := by
  cases cs with
  | nil => exact h.elim
  | cons c cr =>
    obtain ⟨⟨z, h1, h2⟩, h3⟩ := h
    exact ⟨z, cr, by rw [h1], h2, h3⟩
theorem xSR.lg {ws : va_W} {CA : Nat → Nat} {x : Int} {r : List xV} {cs : List Value} (h : xSR ws CA (.inl (.inr x) :: r) cs) : ∃ (z : Int64) (cr : List Value), cs = .long z :: cr ∧ x = z.toInt ∧ xSR ws CA r cr := by
  cases cs with
  | nil => exact h.elim
  | cons c cr =>
    obtain ⟨⟨z, h1, h2⟩, h3⟩ := h
    exact ⟨z, cr, by rw [h1], h2, h3⟩
theorem xSR.r {ws : va_W} {CA : Nat → Nat} {k : Nat} {r : List xV} {cs : List Value} (h : xSR ws CA (.inr (.inl (some k)) :: r) cs) : ∃ (a : Nat) (e : va_E) (cr : List Value), cs = .ref a :: cr ∧ ws[k]? = some (a, e) ∧ xSR ws CA r cr := by
  cases cs with
  | nil => exact h.elim
  | cons c cr =>
    obtain ⟨⟨a, e, h1, h2⟩, h3⟩ := h
    exact ⟨a, e, cr, by rw [h2], h1, h3⟩
theorem xSR.cc {ws : va_W} {CA : Nat → Nat} {k : Nat} {r : List xV} {cs : List Value} (hk : k ≠ 98) (h : xSR ws CA (.inr (.inr k) :: r) cs) : ∃ (cr : List Value), cs = .ref (CA k) :: cr ∧ xSR ws CA r cr := by
  cases cs with
  | nil => exact h.elim
  | cons c cr =>
    obtain ⟨h1, h3⟩ := h
    have h1 : (if k = 98 then (c = .null ∨ ∃ a, c = .ref a) else c = .ref (CA k)) := h1
    rw [if_neg hk] at h1
    exact ⟨cr, by rw [h1], h3⟩
theorem xSR.q {ws : va_W} {CA : Nat → Nat} {v : xV} {r : List xV} {cs : List Value} (h : xSR ws CA (v :: r) cs) : ∃ (a : Value) (cr : List Value), cs = a :: cr ∧ xVR ws CA v a ∧ xSR ws CA r cr := by
  cases cs with
  | nil => exact h.elim
  | cons c cr => exact ⟨c, cr, rfl, h.1, h.2⟩
/-- locals behind a store of one slot -/
theorem xLR.lv {ws : va_W} {ls : Array Slot} {nL : Nat} (h : xLR ws CA L ls nL) : ∃ lv : List (Nat × Value), lv_has ls nL lv ∧ ∀ (i : Nat) (v : xV), L[i]? = some (some v) → ∃ cv, (i, cv) ∈ lv ∧ xVR ws CA v cv := by
  have key : ∀ n : Nat, ∃ lv : List (Nat × Value), (∀ q ∈ lv, ls[q.1]? = some (.val q.2)) ∧ ∀ (i : Nat) (v : xV), i < n → L[i]? = some (some v) → ∃ cv, (i, cv) ∈ lv ∧ xVR ws CA v cv := by
    intro n
    induction n with
    | zero => exact ⟨[], fun q hq => by simp at hq, fun i v hi => by omega⟩
    | succ n ih =>
      obtain ⟨lv, h1, h2⟩ := ih
      by_cases hn : ∃ v, L[n]? = some (some v)
      · obtain ⟨v, hv⟩ := hn
        obtain ⟨cv, hc, hr⟩ := h.2.2 n v hv
        refine ⟨(n, cv) :: lv, fun q hq => ?_, fun i w hi hw => ?_⟩
        · rcases List.mem_cons.mp hq with rfl | hq
          · exact hc
          · exact h1 q hq
        · by_cases hin : i = n
          · subst hin
            rw [hv] at hw
            cases hw
            exact ⟨cv, List.mem_cons_self, hr⟩
          · obtain ⟨cv', hm, hr'⟩ := h2 i w (by omega) hw
            exact ⟨cv', List.mem_cons_of_mem _ hm, hr'⟩
      · refine ⟨lv, h1, fun i w hi hw => ?_⟩
        by_cases hin : i = n
        · subst hin; exact absurd ⟨w, hw⟩ hn
        · exact h2 i w (by omega) hw
  obtain ⟨lv, h1, h2⟩ := key L.length
  exact ⟨lv, ⟨h.1, h.2.1, h1⟩, fun i v hv => h2 i v (List.getElem?_eq_some_iff.mp hv).1 hv⟩
theorem xclr_at {L : List (Option xV)} {i j : Nat} {v : xV} (h : (xclr L i)[j]? = some (some v)) : L[j]? = some (some v) ∧ (j + 1 = i → xcat v = 1) := by
  cases i with
  | zero => exact ⟨h, fun h => by omega⟩
  | succ i =>
    unfold xclr at h
    dsimp only at h
    split at h
    · rename_i o hx
      by_cases hj : j = i
      · subst hj
        rw [List.getElem?_set_self (List.getElem?_eq_some_iff.mp hx).1] at h
        have h : xkill o = some v := Option.some.inj h
        unfold xkill at h
        split at h
        · cases h
        · rename_i hno
          subst h
          refine ⟨hx, fun _ => ?_⟩
          rcases v with (v | v) | v
          · rfl
          · exact absurd rfl (hno v)
          · rfl
      · rw [List.getElem?_set_ne (Ne.symm hj)] at h
        exact ⟨h, fun g => by omega⟩
    · rename_i hx
      refine ⟨h, fun g => ?_⟩
      have hj : j = i := by omega
      subst hj
      rw [hx] at h
      cases h
theorem xLR.st1 {ws : va_W} {ls' : Array Slot} {nL i : Nat} {v : xV} {cv : Value} {lv : List (Nat × Value)} (hlv : ∀ (i : Nat) (v : xV), L[i]? = some (some v) → ∃ cv, (i, cv) ∈ lv ∧ xVR ws CA v cv) (hv : xVR ws CA v cv) (h : lv_has ls' nL ((i, cv) :: lv.filter (fun q => !(q.1 == i) && !(q.1 + 1 == i && q.2.category == 2)))) : xLR ws CA (xst1 L i v) ls' nL := by
  refine ⟨h.1, h.2.1, fun j w hw => ?_⟩
  unfold xst1 at hw
  by_cases hj : j = i
  · subst hj
    rw [List.getElem?_set] at hw
    simp only [if_true] at hw
    split at hw
    · cases hw
      exact ⟨cv, h.2.2 _ List.mem_cons_self, hv⟩
    · cases hw
  · rw [List.getElem?_set_ne (Ne.symm hj)] at hw
    obtain ⟨h1, h2⟩ := xclr_at hw
    obtain ⟨cw, hm, hr⟩ := hlv j w h1
    refine ⟨cw, h.2.2 (j, cw) (List.mem_cons_of_mem _ (List.mem_filter.mpr ⟨hm, ?_⟩)), hr⟩
    simp only [Bool.and_eq_true, Bool.not_eq_true', beq_eq_false_iff_ne, ne_eq, Bool.and_eq_false_iff]
    refine ⟨hj, ?_⟩
    by_cases hji : j + 1 = i
    · right
      have := h2 hji
      rw [hr.cat, this]
      simp
    · left
      exact hji
theorem xLR.st2 {ws : va_W} {ls' : Array Slot} {nL i : Nat} {v : xV} {cv : Value} {lv : List (Nat × Value)} (hlv : ∀ (i : Nat) (v : xV), L[i]? = some (some v) → ∃ cv, (i, cv) ∈ lv ∧ xVR ws CA v cv) (hv : xVR ws CA v cv) (h : lv_has ls' nL ((i, cv) :: lv.filter (fun q => !(q.1 == i) && (!(q.1 == i + 1) && !(q.1 + 1 == i && q.2.category == 2))))) : xLR ws CA (xst2 L i v) ls' nL := by
  refine ⟨h.1, h.2.1, fun j w hw => ?_⟩
  unfold xst2 at hw
  by_cases hj1 : j = i + 1
  · subst hj1
    rw [List.getElem?_set] at hw
    simp only [if_true] at hw
    split at hw <;> cases hw
  rw [List.getElem?_set_ne (Ne.symm hj1)] at hw
  by_cases hj : j = i
  · subst hj
    rw [List.getElem?_set] at hw
    simp only [if_true] at hw
    split at hw
    · cases hw
      exact ⟨cv, h.2.2 _ List.mem_cons_self, hv⟩
    · cases hw
  · rw [List.getElem?_set_ne (Ne.symm hj)] at hw
    obtain ⟨h1, h2⟩ := xclr_at hw
    obtain ⟨cw, hm, hr⟩ := hlv j w h1
    refine ⟨cw, h.2.2 (j, cw) (List.mem_cons_of_mem _ (List.mem_filter.mpr ⟨hm, ?_⟩)), hr⟩
    simp only [Bool.and_eq_true, Bool.not_eq_true', beq_eq_false_iff_ne, ne_eq, Bool.and_eq_false_iff]
    refine ⟨hj, hj1, ?_⟩
    by_cases hji : j + 1 = i
    · right
      have := h2 hji
      rw [hr.cat, this]
      simp
    · left
      exact hji
end XS
