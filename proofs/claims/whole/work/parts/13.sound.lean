/-! the whole run: by fuel -/
section XO
variable {X : Nat × (Nat → Int)} {CA : Nat → Nat} {D : va_G} {A : Nat → Prop}
def xP (X : Nat × (Nat → Int)) (CA : Nat → Nat) (D : va_G) (A : Nat → Prop) (f : Nat) : Prop := ∀ (d mi pc : Nat) (L : List (Option xV)) (st : List xV) (sh : List xSh) (σ : xM) (v : Option xV) (sh' : List xSh) (σ' : xM), xev X f d mi pc L st sh σ = some (v, sh', σ') → (sh.length ≤ sh'.length ∧ xns sh ≤ xns sh') ∧ ∀ (p : Program) (l : Launch) (e : Env) (R : Room) (s : State) (m : MethodId) (args : Array Value) (below : List Frame) (meth : Method) (c : Code) (ws0 : va_W) (c0 s0 : Nat) (Q : State → Prop), xCx p R s m meth c X CA A mi → d + 1 ≤ R.frames → 64 * (d + 1) ≤ R.locals → c0 ≤ sh.length → s0 ≤ xns sh → sh'.length - c0 ≤ R.cells → xns sh' - s0 ≤ R.slots → (∀ (pc1 : Nat) (L1 : List (Option xV)) (st1 : List xV), xret mi pc1 st1 = some v → xG p l e R s m args below meth c Q CA D A ws0 c0 s0 pc1 L1 st1 sh' σ') → xG p l e R s m args below meth c Q CA D A ws0 c0 s0 pc L st sh σ
/-- a callee's contract, out of its run -/
theorem x_met (G : xGl) {f : Nat} (IH : xP X CA D A f) {d mj : Nat} {As : List xV} {sh : List xSh} {σ : xM} {v1 : Option xV} {sh1 : List xSh} {σ1 : xM} (h : xev X f d mj 0 (xent mj As) [] sh σ = some (v1, sh1, σ1)) {y : MethodName} {cc : ByteArray} {ml : Nat} {rt : Option FieldType} (hMT : MT mj = some (y, cc, ml, rt)) (hpl : plainName y.cls = true) (hfit : xfits mj As = true) (l : Launch) {ws : va_W} {tys : List (ClassId × FieldType)} {csA : List Value} (hsA : xSR ws CA As csA) :
    Met l y [.code y cc ml rt] ({ frames := d + 1, cells := sh1.length - sh.length, slots := xns sh1 - xns sh, locals := 64 * (d + 1) }) (xPc D X CA A sh σ ws tys csA) (xQ D CA A ws v1 sh1 σ1) (sh1.length - sh.length) (xns sh1 - xns sh) A := by
  refine Met.ofW (cc := cc) (maxL := ml) (ret := rt) hpl rfl ?_
  intro p e s m args below meth c s₁ B hml hv
  obtain ⟨rfl, ⟨w1, w2, w3, w4⟩, hC, hA⟩ := hv
  have hlen : (xloc As).length ≤ ml := by
    unfold xfits at hfit
    rw [hMT] at hfit
    exact Nat.le_of_ble_eq_true hfit
  have hl := lv_entry csA (n := ml) (by rw [xloc_len hsA]; exact hlen)
  rw [lg_entry_eq]
  generalize (lg_sl csA ++ List.replicate (ml - (lg_sl csA).length) Slot.unset).toArray = ls at hl ⊢
  have CC : xCx p (headSpec [.code y cc ml rt] ({ frames := d + 1, cells := sh1.length - sh.length, slots := xns sh1 - xns sh, locals := 64 * (d + 1) })).room s m meth c X CA A mj := ⟨B.exec, B.notSynchronized, hC, hA, y, cc, ml, rt, hMT, B.bytes, hml, B.returns, findClass_of_methodNamed B.named, (name_of_methodNamed B.named B.method).1, Nat.le_add_left 1 d, by show 64 ≤ 64 * (d + 1); omega⟩
  have key := (IH d mj 0 (xent mj As) [] sh σ v1 sh1 σ1 h).2 p l e (headSpec [.code y cc ml rt] ({ frames := d + 1, cells := sh1.length - sh.length, slots := xns sh1 - xns sh, locals := 64 * (d + 1) })).room s m csA.toArray below meth c ws sh.length (xns sh) (MQ below (xQ D CA A ws v1 sh1 σ1) csA.toArray s (sh1.length - sh.length) (xns sh1 - xns sh) A) CC (Nat.le_refl _) (Nat.le_refl _) (Nat.le_refl _) (Nat.le_refl _) (Nat.le_refl _) (Nat.le_refl _) (fun pc1 L1 st1 h1 => snd_ret G CC h1)
  have k2 := key s.heap [] ws tys ls [] w1 w2 w3 va_S.rf w4 xExt.rf ⟨by rw [hml]; exact hl.1, hl.2.1, fun i v hi => ?_⟩ trivial
  · rw [Nat.sub_self, Nat.sub_self] at k2
    exact k2
  · unfold xent at hi
    rw [hMT] at hi
    dsimp only at hi
    by_cases hlt : i < (xloc As).length
    · rw [List.getElem?_append_left hlt] at hi
      obtain ⟨cv, hm, hr⟩ := xloc_args hsA 0 i v hi
      rw [Nat.zero_add] at hm
      exact ⟨cv, hl.2.2 _ hm, hr⟩
    · rw [List.getElem?_append_right (by omega), List.getElem?_replicate] at hi
      split at hi <;> cases hi
theorem xmok_of (G : xGl) {mi : Nat} {y : MethodName} {cc : ByteArray} {ml : Nat} {rt : Option FieldType} (h0 : mi ≠ 0) (hMT : MT mi = some (y, cc, ml, rt)) : Cond.code y cc ml rt ∈ lw_tbl ∧ Cond.initialized y.cls ∈ lw_tbl ∧ (xkd mi = 0 → Cond.static y ∈ lw_tbl) ∧ (xkd mi = 1 → Cond.instanceMethod y ∈ lw_tbl ∧ Cond.selects y.cls y y ∈ lw_tbl) ∧ (xkd mi = 2 → Cond.instanceMethod y ∈ lw_tbl) := by
  obtain ⟨h1, h⟩ := G.2.1 mi _ h0 hMT
  unfold xmok at h
  rw [hMT] at h
  cases hw : xmwi[mi]? with
  | none => rw [hw] at h; cases h
  | some q =>
    obtain ⟨a, b, c, d⟩ := q
    rw [hw] at h
    dsimp only at h
    rw [Bool.and_eq_true] at h
    obtain ⟨h2, h3⟩ := h
    refine ⟨h1, xw_of h2, fun hk => ?_, fun hk => ?_, fun hk => ?_⟩
    · rw [hk] at h3; exact xw_of h3
    · rw [hk] at h3
      have h3 : (xw c (.instanceMethod y) && xw d (.selects y.cls y y)) = true := h3
      rw [Bool.and_eq_true] at h3
      exact ⟨xw_of h3.1, xw_of h3.2⟩
    · rw [hk] at h3; exact xw_of h3
set_option maxHeartbeats 4000000 in
theorem x_sound (G : xGl) : ∀ f : Nat, xP X CA D A f := by
  intro f
  induction f with
  | zero => intro d mi pc L st sh σ v sh' σ' h; simp [xev] at h
  | succ f IH =>
    intro d mi pc L st sh σ v sh' σ' h
    rw [xev] at h
    cases h1 : xret mi pc st with
    | some v1 =>
      rw [h1] at h
      cases h
      exact ⟨⟨Nat.le_refl _, Nat.le_refl _⟩, fun p l e R s m args below meth c ws0 c0 s0 Q C _ _ _ _ _ _ K => K pc L st h1⟩
    | none =>
      rw [h1] at h
      dsimp only at h
      cases h2 : xcall mi pc st sh with
      | none =>
        rw [h2] at h
        dsimp only at h
        cases h3 : xstep X mi pc L st sh σ with
        | none => rw [h3] at h; cases h
        | some N =>
          obtain ⟨pc', L', st', sh2, σ2⟩ := N
          rw [h3] at h
          dsimp only at h
          obtain ⟨g1, g2⟩ := IH d mi pc' L' st' sh2 σ2 v sh' σ' h
          obtain ⟨m1, m2⟩ := xstep_mono h3
          dsimp only at m1 m2
          refine ⟨⟨Nat.le_trans m1 g1.1, Nat.le_trans m2 g1.2⟩, fun p l e R s m args below meth c ws0 c0 s0 Q C hf hl hc0 hs0 hrc hrs K => ?_⟩
          exact snd_step G C h3 hc0 hs0 (by dsimp only; have := g1.1; omega) (by dsimp only; have := g1.2; omega) (g2 p l e R s m args below meth c ws0 c0 s0 Q C hf hl (by omega) (by omega) hrc hrs K)
      | some q =>
        obtain ⟨mj, As, pc', r⟩ := q
        rw [h2] at h
        dsimp only at h
        cases d with
        | zero => cases h
        | succ d =>
          dsimp only at h
          cases h3 : xev X f d mj 0 (xent mj As) [] sh σ with
          | none => rw [h3] at h; cases h
          | some q =>
            obtain ⟨v1, sh1, σ1⟩ := q
            rw [h3] at h
            dsimp only at h
            obtain ⟨g1, g2⟩ := IH (d + 1) mi pc' L (v1.toList ++ r) sh1 σ1 v sh' σ' h
            obtain ⟨m1, m2⟩ := (IH d mj 0 (xent mj As) [] sh σ v1 sh1 σ1 h3).1
            refine ⟨⟨Nat.le_trans m1 g1.1, Nat.le_trans m2 g1.2⟩, fun p l e R s m args below meth c ws0 c0 s0 Q C hf hl hc0 hs0 hrc hrs K => ?_⟩
            have g3 := g2 p l e R s m args below meth c ws0 c0 s0 Q C hf hl (by omega) (by omega) hrc hrs K
            obtain ⟨y, cc, ml, rt, hMT, hb, hml, hr, hown, hnm, hR⟩ := C.2.2.2.2
            have C0 := C.2.2.1
            have hts : ∀ w ∈ ([] : List Cond), w.before args s = true := fun w hw => by cases hw
            intro H locs ws tys ls cs hP hK hD hS hW hE hL hs
            have hcell : sh.length - c0 + (sh1.length - sh.length) = sh1.length - c0 := by omega
            have hslot : xns sh - s0 + (xns sh1 - xns sh) = xns sh1 - s0 := by omega
            have hroom : sh.length - c0 + (sh1.length - sh.length) ≤ R.cells ∧ xns sh - s0 + (xns sh1 - xns sh) ≤ R.slots := by
              have := g1.1
              have := g1.2
              omega
            -- how it goes on
            have cont : ∀ (cr : List Value), pc' = pc + 3 → xSR ws CA r cr → ∀ (H1 : Heap) (locs1 : List Loc) (ws1 : va_W) (tys1 : List (ClassId × FieldType)) (vo : Option Value), va_P D vwCl ws1 H1 → va_K D vwCl tys1 s → va_D A ws1 → va_S A s.heap H1 locs1 → xWR CA sh1 σ1 ws1 tys1 → xExt ws ws1 → xVRo ws1 CA v1 vo → W p l e R s m args below meth c H1 locs1 (sh.length - c0 + (sh1.length - sh.length)) (xns sh - s0 + (xns sh1 - xns sh)) Q (F0 m (pc + 3) ls (vo.toList ++ cr)) := by
              intro cr hpc hcr H1 locs1 ws1 tys1 vo q1 q2 q3 q4 q5 q6 q7
              rw [hcell, hslot]
              subst hpc
              refine g3 H1 locs1 ws1 tys1 ls (vo.toList ++ cr) q1 q2 q3 q4 q5 (hE.tr q6) (hL.ext q6) (xSR.app ?_ (hcr.ext q6))
              cases v1 with
              | none => cases vo with
                | none => exact trivial
                | some _ => exact q7.elim
              | some _ => cases vo with
                | none => exact q7.elim
                | some _ => exact ⟨q7, trivial⟩
            cases ht : tb mi pc with
            | none => unfold xcall at h2; rw [ht] at h2; cases h2
            | some q =>
              obtain ⟨ins, a, b, n⟩ := q
              have hv := G.1 mi pc _ ht
              unfold xval at hv
              rw [hMT] at hv
              have hv : xvl y cc ml pc (ins, a, b, n) = true := hv
              unfold xcall at h2
              rw [ht] at h2
              cases ins with
              | invokestatic w =>
                dsimp only at h2
                split at h2
                · rename_i hcnd
                  obtain ⟨hlen, hcat, hfit⟩ := hcnd
                  cases h2
                  have h98 : mj ≠ 9998 := fun g => by rw [g] at hfit; revert hfit; unfold xfits; rw [show MT 9998 = none from rfl]; exact fun g => by cases g
                  have h97 : mj ≠ 9997 := fun g => by rw [g] at hfit; revert hfit; unfold xfits; rw [show MT 9997 = none from rfl]; exact fun g => by cases g
                  have hv : (n == 3 && (if mj = 9998 then xw w (.methodLink y.cls b Lib.Math.max.name) && xd cc pc (.invokestatic b) 3 else if mj = 9997 then xw w (.methodLink y.cls b Lib.Math.min.name) && xd cc pc (.invokestatic b) 3 else match MT mj with
                    | some (z, bz, mz, rz) => (match xml w y.cls z with
                      | some (i, false) => xd cc pc (.invokestatic i) 3
                      | _ => false) && decide (mz ≤ 40) && decide (mj ≠ 0) && decide (xkd mj = 0) && plainName z.cls && decide (z.cls ≠ "java/lang/invoke/MethodHandle" ∧ z.cls ≠ "java/lang/invoke/VarHandle") && decide ((parseMethodDescriptor z.desc).map (fun d => d.parameters.length) = some (xnp mj))
                    | none => false)) = true := hv
                  obtain ⟨rfl, hv2⟩ := x_n3 hv
                  clear hv
                  rw [if_neg h98, if_neg h97] at hv2
                  split at hv2
                  · rename_i z bz mz rz hMa
                    simp only [Bool.and_eq_true, decide_eq_true_eq] at hv2
                    obtain ⟨⟨⟨⟨⟨⟨hd, hmz⟩, ha0⟩, hkd⟩, hpl⟩, hnh⟩, hpd⟩ := hv2
                    split at hd
                    · rename_i i hxml
                      rcases xml_of hxml with ⟨-, hm⟩ | ⟨hz, -⟩
                      · obtain ⟨k1, k2, k3, -⟩ := xmok_of G ha0 hMa
                        have hmet := x_met G IH h3 hMa hpl hfit l (ws := ws) (tys := tys) (hs.take (xnp mj)).rev
                        have hG : GoodIn lw_tbl [Cond.code z bz mz rz] := fun w hw => by
                          rw [List.mem_singleton.mp hw]
                          exact ⟨k1, Or.inl rfl⟩
                        have hcs : cs.length = st.length := hs.len
                        refine x_back (va_runS (n := xnp mj) (As := (cs.take (xnp mj)).reverse) (rest := cs.drop (xnp mj)) ⟨C.1, hb, rfl, hown, hts⟩ hmet ⟨⟨rfl, rfl, by show d + 1 + 1 ≤ R.frames; omega, by show 8 + (mz + 11) + 64 * (d + 1) ≤ R.locals; omega, fun w hw a' U hwm => ?_, List.mem_singleton.mpr rfl, C0.1 _ k1 rfl args, C0.1 _ k2 rfl args, hnh, ?_, C0.1 _ hm rfl args⟩, C0.1 _ (k3 hkd) rfl args⟩ ⟨xPc.blind, xPc.at hP hK hD hS hW C0 C.2.2.2.1⟩ rfl ?_ hL.1 ?_ ?_ (xd_of hd) hroom) hS (cont _ rfl (hs.drop (xnp mj)))
                        · rw [List.mem_singleton.mp hw]
                          exact xgw_move hwm rfl (C0.1 _ k1 rfl #[]) a'
                        · intro sig hsig
                          rw [hsig] at hpd
                          exact (Option.some.inj hpd).symm
                        · show (cs.take (xnp mj)).reverse.length = xnp mj
                          rw [List.length_drop] at hlen
                          rw [List.length_reverse, List.length_take]
                          omega
                        · show cs = _
                          rw [List.reverse_reverse, List.take_append_drop]
                        · have := (hs.drop (xnp mj)).cats
                          show 2 * 0 + _ ≤ 8
                          omega
                      · cases hz
                    · cases hd
                  · cases hv2
                · cases h2
              | invokevirtual w =>
                dsimp only at h2
                split at h2
                · rename_i q1 r1 hdrop
                  split at h2
                  · rename_i hcnd
                    obtain ⟨hrc1, hcat, hfit⟩ := hcnd
                    cases h2
                    have hv : (n == 3 && (match MT mj with
                      | some (z, bz, mz, rz) => (match xml w y.cls z with
                        | some (i, false) => xd cc pc (.invokevirtual i) 3
                        | _ => false) && decide (mz ≤ 40) && decide (mj ≠ 0) && decide (xkd mj = 1) && plainName z.cls && decide (z.cls ≠ "java/lang/invoke/MethodHandle" ∧ z.cls ≠ "java/lang/invoke/VarHandle") && decide ((parseMethodDescriptor z.desc).map (fun d => d.parameters.length) = some (xnp mj)) && decide (xcn (xoc mj) = z.cls ∧ xoc mj < 14)
                      | none => false)) = true := hv
                    obtain ⟨rfl, hv2⟩ := x_n3 hv
                    clear hv
                    split at hv2
                    · rename_i z bz mz rz hMa
                      simp only [Bool.and_eq_true, decide_eq_true_eq] at hv2
                      obtain ⟨⟨⟨⟨⟨⟨⟨hd, hmz⟩, ha0⟩, hkd⟩, hpl⟩, hnh⟩, hpd⟩, hoc, -⟩ := hv2
                      split at hd
                      · rename_i i hxml
                        rcases xml_of hxml with ⟨-, hm⟩ | ⟨hz, -⟩
                        · obtain ⟨k1, k2, -, k4, -⟩ := xmok_of G ha0 hMa
                          obtain ⟨k4, k5⟩ := k4 hkd
                          have hsd := hs.drop (xnp mj)
                          rw [hdrop] at hsd
                          obtain ⟨cv, cr, hcd, hvr, hs1⟩ := hsd.q
                          obtain ⟨bb, rfl, hcellB⟩ := x_recv hP hK hS hW C0 hrc1 hvr
                          rw [hoc] at hcellB
                          have hsA : xSR ws CA (.inr q1 :: (st.take (xnp mj)).reverse) (.ref bb :: (cs.take (xnp mj)).reverse) := ⟨hvr, (hs.take (xnp mj)).rev⟩
                          have hmet := x_met G IH h3 hMa hpl hfit l (ws := ws) (tys := tys) hsA
                          have hcs : cs.length = st.length := hs.len
                          have hlen : xnp mj < cs.length := by
                            have := congrArg List.length hcd
                            rw [List.length_drop, List.length_cons] at this
                            omega
                          refine x_back (va_runV (n := xnp mj) (C := z.cls) (b := bb) (As := (cs.take (xnp mj)).reverse) (rest := cr) ⟨C.1, hb, rfl, hown, hts⟩ hmet ⟨⟨rfl, rfl, by show d + 1 + 1 ≤ R.frames; omega, by show 8 + (mz + 11) + 64 * (d + 1) ≤ R.locals; omega, fun w hw a' U hwm => ?_, List.mem_singleton.mpr rfl, C0.1 _ k1 rfl args, C0.1 _ k2 rfl args, hnh, ?_, C0.1 _ hm rfl args⟩, C0.1 _ k4 rfl args, C0.1 _ k5 rfl args⟩ ⟨xPc.blind, hcellB, xPc.at hP hK hD hS hW C0 C.2.2.2.1⟩ rfl ?_ hL.1 ?_ ?_ (xd_of hd) hroom) hS (cont _ rfl hs1)
                          · rw [List.mem_singleton.mp hw]
                            exact xgw_move hwm rfl (C0.1 _ k1 rfl #[]) a'
                          · intro sig hsig
                            rw [hsig] at hpd
                            exact (Option.some.inj hpd).symm
                          · show (cs.take (xnp mj)).reverse.length = xnp mj
                            rw [List.length_reverse, List.length_take]
                            omega
                          · show cs = _
                            rw [List.reverse_reverse, ← hcd, List.take_append_drop]
                          · have := hs1.cats
                            show 2 * 0 + _ ≤ 8
                            omega
                        · cases hz
                      · cases hd
                    · cases hv2
                  · cases h2
                · cases h2
              | invokespecial w =>
                dsimp only at h2
                split at h2
                · rename_i k0 r1 hdrop
                  split at h2
                  · rename_i hcnd
                    obtain ⟨h99, hrc1, hcat, hfit⟩ := hcnd
                    cases h2
                    have hv : (n == 3 && (if mj = 9999 then xw w (.methodLink y.cls b Lib.objectInit) && xd cc pc (.invokespecial b) 3 else (match MT mj with
                      | some (z, bz, mz, rz) => (match xml w y.cls z with
                        | some (i, _) => xd cc pc (.invokespecial i) 3
                        | _ => false) && decide (mz ≤ 40) && decide (mj ≠ 0) && decide (xkd mj = 2) && plainName z.cls && decide (z.cls ≠ "java/lang/invoke/MethodHandle" ∧ z.cls ≠ "java/lang/invoke/VarHandle") && decide ((parseMethodDescriptor z.desc).map (fun d => d.parameters.length) = some (xnp mj)) && decide (z.name = "<init>") && decide (rz = none)
                      | none => false))) = true := hv
                    obtain ⟨rfl, hv2⟩ := x_n3 hv
                    clear hv
                    rw [if_neg h99] at hv2
                    split at hv2
                    · rename_i z bz mz rz hMa
                      simp only [Bool.and_eq_true, decide_eq_true_eq] at hv2
                      obtain ⟨⟨⟨⟨⟨⟨⟨⟨hd, hmz⟩, ha0⟩, hkd⟩, hpl⟩, hnh⟩, hpd⟩, hini⟩, rfl⟩ := hv2
                      split at hd
                      · rename_i i nest hxml
                        obtain ⟨k1, k2, -, -, k4⟩ := xmok_of G ha0 hMa
                        have k4 := k4 hkd
                        have hsd := hs.drop (xnp mj)
                        rw [hdrop] at hsd
                        obtain ⟨bb, e0, cr, hcd, hk0, hs1⟩ := hsd.r
                        have hsA : xSR ws CA (vr k0 :: (st.take (xnp mj)).reverse) (.ref bb :: (cs.take (xnp mj)).reverse) := ⟨⟨bb, e0, hk0, rfl⟩, (hs.take (xnp mj)).rev⟩
                        have hmet := x_met G IH h3 hMa hpl hfit l (ws := ws) (tys := tys) hsA
                        have hlen : xnp mj < cs.length := by
                          have := congrArg List.length hcd
                          rw [List.length_drop, List.length_cons] at this
                          omega
                        have hl1 : (cs.take (xnp mj)).reverse.length = xnp mj := by
                          rw [List.length_reverse, List.length_take]
                          omega
                        have hst : cs = (cs.take (xnp mj)).reverse.reverse ++ .ref bb :: cr := by
                          rw [List.reverse_reverse, ← hcd, List.take_append_drop]
                        have hcat2 : 2 * (F0 m pc ls cs).monitorRoom + (cr.map fun v => v.category).sum ≤ 8 := by
                          have := hs1.cats
                          show 2 * 0 + _ ≤ 8
                          omega
                        have hcw : ∀ w ∈ [Cond.code z bz mz none], ∀ (a' : Array Value) (U : State), s.WarmedH U.vm → w.before a' U = true := fun w hw a' U hwm => by
                          rw [List.mem_singleton.mp hw]
                          exact xgw_move hwm rfl (C0.1 _ k1 rfl #[]) a'
                        have hsig : ∀ sig, parseMethodDescriptor z.desc = some sig → xnp mj = sig.parameters.length := fun sig hsig => by
                          rw [hsig] at hpd
                          exact (Option.some.inj hpd).symm
                        rcases xml_of hxml with ⟨-, hm⟩ | ⟨-, host, hm⟩
                        · exact x_back (va_runI (n := xnp mj) (b := bb) (As := (cs.take (xnp mj)).reverse) (rest := cr) ⟨C.1, hb, rfl, hown, hts⟩ hmet ⟨⟨rfl, rfl, by show d + 1 + 1 ≤ R.frames; omega, by show 8 + (mz + 11) + 64 * (d + 1) ≤ R.locals; omega, hcw, List.mem_singleton.mpr rfl, C0.1 _ k1 rfl args, C0.1 _ k2 rfl args, hnh, hsig, C0.1 _ hm rfl args⟩, hini, C0.1 _ k4 rfl args⟩ ⟨xPc.blind, xPc.at hP hK hD hS hW C0 C.2.2.2.1⟩ rfl hl1 hL.1 hst hcat2 (xd_of hd) hroom) hS (cont _ rfl hs1)
                        · exact x_back (va_runIN (n := xnp mj) (b := bb) (host := host) (As := (cs.take (xnp mj)).reverse) (rest := cr) ⟨C.1, hb, rfl, hown, hts⟩ hmet ⟨⟨⟨rfl, rfl, by show d + 1 + 1 ≤ R.frames; omega, by show 8 + (mz + 11) + 64 * (d + 1) ≤ R.locals; omega, hcw, List.mem_singleton.mpr rfl⟩, C0.1 _ k1 rfl args, C0.1 _ k2 rfl args, hnh, hsig, C0.1 _ hm rfl args⟩, hini, C0.1 _ k4 rfl args⟩ ⟨xPc.blind, xPc.at hP hK hD hS hW C0 C.2.2.2.1⟩ rfl hl1 hL.1 hst hcat2 (xd_of hd) hroom) hS (cont _ rfl hs1)
                      · cases hd
                    · cases hv2
                  · cases h2
                · cases h2
              | _ => cases h2
end XO
