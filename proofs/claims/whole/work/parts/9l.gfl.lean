/-! WALKS: goFrom, all of it -/
section GFL
variable {X : Nat × (Nat → Int)} {σ ω τ : xM} {k n len stop T0 L0 : Nat} {op : Nat → List Nat} {ct cl : Nat → Nat → Nat} {sy : Nat → Nat → Int} {wt : Nat → Nat → Nat} {ps : List (Nat → Nat)} {so on fgN ls : Int} {cd : Nat → Int}
theorem nsum_up {f : Nat → Nat → Nat} {p : Nat → Nat} {c i : Nat} : nsum (fun j => f j (upN p c i j)) (c + 1) = nsum (fun j => f j (p j)) c + f c i := by
  rw [nsum, nsum_cg c (fun j hj => by rw [upN_ne (by omega)]), upN_at]
theorem symP_up {p : Nat → Nat} {c i j : Nat} (h : j < c) : symP sy (upN p c i) j = symP sy p j := by
  unfold symP
  rw [upN_ne (by omega)]
theorem nsum_le {f : Nat → Nat} {b : Nat} : ∀ c, (∀ j, j < c → f j ≤ b) → nsum f c ≤ b * c
  | 0, _ => Nat.zero_le _
  | c + 1, h => by
    have a := nsum_le c (fun j hj => h j (by omega))
    have b' := h c (by omega)
    rw [nsum, Nat.mul_succ]
    omega
theorem cod_up {p : Nat → Nat} {c i : Nat} (hc : c ≤ 10) (h : ∀ j, j < c → p j < 20) (hi : i < 20) : lor' (cdN p c : Int) (lshl' (i : Int) (xmul 5 (c : Int))) = (cdN (upN p c i) (c + 1) : Int) := by
  have a := cdN_lt c (fun j hj => Nat.lt_trans (h j hj) (by decide) : ∀ j, j < c → p j < 32)
  have b := p55 (c := c) (by omega)
  have q : i * 2 ^ (5 * c) < 2 ^ 61 := by
    rw [p32]
    have : i * 32 ^ c ≤ 19 * 2 ^ 55 := Nat.mul_le_mul (by omega) b
    omega
  rw [x5 (by omega), lshl_nat (by omega) (by omega), lor_nat (by omega) (by omega), cdN, upN_at, cdN_cg c (fun j hj => upN_ne (by omega)), Nat.or_comm, Nat.mul_comm, ← Nat.two_pow_add_eq_or_of_lt (by rw [p32]; exact a), p32]
  congr 1
  rw [Nat.mul_comm, Nat.add_comm]
theorem pur_up {p : Nat → Nat} {c i : Nat} (h1 : ct c i ≤ T0 - nsum (fun j => ct j (p j)) c) (h2 : cl c i ≤ L0 - nsum (fun j => cl j (p j)) c) (hT : T0 ≤ 3) (hL : L0 ≤ 3) : xsub ((4 * (T0 - nsum (fun j => ct j (p j)) c) + (L0 - nsum (fun j => cl j (p j)) c) : Nat) : Int) ((4 * ct c i + cl c i : Nat) : Int) = ((4 * (T0 - nsum (fun j => ct j (upN p c i j)) (c + 1)) + (L0 - nsum (fun j => cl j (upN p c i j)) (c + 1)) : Nat) : Int) := by
  rw [nsum_up, nsum_up, xsub_eq (by omega) (by omega)]
  omega
theorem wt_up {p : Nat → Nat} {c i : Nat} (h : wt c i ≤ 7) (h2 : nsum (fun j => wt j (p j)) c ≤ 1000) : xadd (nsum (fun j => wt j (p j)) c : Int) (wt c i : Int) = (nsum (fun j => wt j (upN p c i j)) (c + 1) : Int) := by
  rw [nsum_up]
  exact xad (by omega)
theorem gf (hk : isWlk k) (hF : FX k n op ct cl sy wt so on fgN ls stop cd len ω) (hT : T0 ≤ 3) (hL : L0 ≤ 3) : ∀ (m c : Nat) (p : Nat → Nat) (σ : xM) (ps : List (Nat → Nat)), c + m = n → INV k n wt ω ps σ → (∀ j, j < c → p j ∈ op j) → okS (symP sy p) c → (∀ j, j < 8 → Rd σ (k + 1) c j = rdSt r0 (symP sy p) c j) → nsum (fun j => ct j (p j)) c ≤ T0 → nsum (fun j => cl j (p j)) c ≤ L0 → ps.length ≤ stop → (m = 0 → ps.length < stop ∧ nsum (fun j => ct j (p j)) c = T0 ∧ nsum (fun j => cl j (p j)) c = L0) → ∃ σ', (∀ f, m + 3 ≤ f → Ev X f 181 0 [some (vr k), some (vi c), some (vi ((4 * (T0 - nsum (fun j => ct j (p j)) c) + (L0 - nsum (fun j => cl j (p j)) c) : Nat) : Int)), some (vi (nsum (fun j => wt j (p j)) c : Int)), some (vl (cdN p c : Int)), none, none, none, none, none] [] SH σ = some (none, SH, σ')) ∧ INV k n wt ω (ps ++ ((enumF op m c p).filter (gdB (GD n ct cl sy wt so on fgN cd len T0 L0))).take (stop - ps.length)) σ' ∧ ∀ q, q ≤ c → ∀ j, j < 8 → Rd σ' (k + 1) q j = Rd σ (k + 1) q j := by
  obtain ⟨⟨w1, w2, w3⟩, rch, rch1, ⟨x12, x13, x14, x10, x11⟩, x16, ⟨y11, y2, yw, yl⟩, hst, hsy⟩ := hF
  intro m
  induction m with
  | zero =>
    intro c p σ ps e1 hI hp ok hR _ _ _ h0
    obtain ⟨g1, g2, g3⟩ := h0 rfl
    obtain ⟨a1, a2, a3, a4⟩ := AG_k hk hI.1
    have e1 : c = n := by omega
    subst e1
    have hp20 : ∀ j, j < c → p j < 20 := by
      intro j hj
      obtain ⟨e, he, hh⟩ := List.getElem_of_mem (hp j hj)
      rw [← hh]
      exact ((w3 j hj).2.2 e he).2.2.2.2.1
    obtain ⟨b, τ, b1, b2, b3, b4⟩ := s182 (X := X) (stk := (nsum (fun j => wt j (p j)) c : Int)) (cs := symP sy p) (cd := cd) (len := len) (so := so) (on := on) (fgN := fgN) hk w2 ((a1 9 (by decide)).trans w1) ((a1 12 (by decide)).trans x12) ((a1 14 (by decide)).trans x14) ((a1 10 (by decide)).trans x10) yw yl (a3.trans y11) (a4.trans y2) ok hR
    have gd : gdB (GD c ct cl sy wt so on fgN cd len T0 L0) p = true ↔ b = 1 := by
      rw [gdB_iff, b3]
      unfold GD
      exact ⟨fun z => z.2.2, fun z => ⟨g2, g3, z⟩⟩
    rw [enumF]
    have st : ∀ f, 0 + 3 ≤ f → Ev X f 181 0 [some (vr k), some (vi c), some (vi ((4 * (T0 - nsum (fun j => ct j (p j)) c) + (L0 - nsum (fun j => cl j (p j)) c) : Nat) : Int)), some (vi (nsum (fun j => wt j (p j)) c : Int)), some (vl (cdN p c : Int)), none, none, none, none, none] [] SH σ = Ev X f 181 19 [some (vr k), some (vi c), some (vi ((4 * (T0 - nsum (fun j => ct j (p j)) c) + (L0 - nsum (fun j => cl j (p j)) c) : Nat) : Int)), some (vi (nsum (fun j => wt j (p j)) c : Int)), some (vl (cdN p c : Int)), none, none, none, none, none] [vi b] SH τ := by
      intro f hf
      obtain ⟨e, rfl⟩ : ∃ e, f = e + 3 := ⟨f - 3, by omega⟩
      rw [b181_0 hk, if_pos (by rw [a1 9 (by decide), w1]; omega)]
      refine Eq.trans (b181_14 hk) ?_
      refine x_bind (b2 _) ?_
      rfl
    rcases b1 with z | z
    · rw [List.filter_cons_of_neg (by rw [gd]; omega), List.filter_nil, List.take_nil, List.append_nil]
      refine ⟨τ, fun f hf => ?_, INV_ls hk hI b4, fun q hq j hj => chs_rd hk b4 hj⟩
      rw [st f hf, b181_19, if_pos z, b181_29]
    · rw [List.filter_cons_of_pos (gd.mpr z), List.filter_nil, List.take_of_length_le (by rw [List.length_singleton]; omega)]
      obtain ⟨τ', c1, c2, c3⟩ := s183 (X := X) (p := p) hk w2 w1 x16 hp20 (INV_ls hk hI b4) (by omega)
      refine ⟨τ', fun f hf => ?_, c2, fun q hq j hj => ?_⟩
      · rw [st f hf, b181_19, if_neg (by omega)]
        obtain ⟨e, rfl⟩ : ∃ e, f = e + 3 := ⟨f - 3, by omega⟩
        refine Eq.trans (b181_22 hk) ?_
        refine x_bind (c1 _) ?_
        exact b181_29
      · rw [← chs_rd hk b4 hj]
        unfold Rd
        rw [c3 _ (by omega) (by omega)]
  | succ m ih =>
    intro c p σ ps e1 hI hp ok hR hT1 hL1 hle _
    have hcn : c < n := by omega
    obtain ⟨v1, v2, v3⟩ := w3 c hcn
    have p20 : ∀ j, j < c → p j < 20 := by
      intro j hj
      obtain ⟨e, he, hh⟩ := List.getElem_of_mem (hp j hj)
      rw [← hh]
      exact ((w3 j (by omega)).2.2 e he).2.2.2.2.1
    have w77 : nsum (fun j => wt j (p j)) c ≤ 7 * c := nsum_le c (fun j hj => (hsy j (by omega) _ (hp j hj)).2.2)
    -- the loop over the options
    have lp : ∀ (w e : Nat) (σ1 : xM) (ps1 : List (Nat → Nat)) (o8 o9 : Option xV), e + w = (op c).length → INV k n wt ω ps1 σ1 → (∀ q, q ≤ c → ∀ j, j < 8 → Rd σ1 (k + 1) q j = Rd σ (k + 1) q j) → ps1.length ≤ stop → ∃ σ', (∀ f, m + 1 + 3 ≤ f → Ev X f 181 49 [some (vr k), some (vi c), some (vi ((4 * (T0 - nsum (fun j => ct j (p j)) c) + (L0 - nsum (fun j => cl j (p j)) c) : Nat) : Int)), some (vi (nsum (fun j => wt j (p j)) c : Int)), some (vl (cdN p c : Int)), none, some (vi ((20 * c + (op c).length : Nat) : Int)), some (vi ((20 * c + e : Nat) : Int)), o8, o9] [] SH σ1 = some (none, SH, σ')) ∧ INV k n wt ω (ps1 ++ ((((op c).drop e).flatMap (fun i => enumF op m (c + 1) (upN p c i))).filter (gdB (GD n ct cl sy wt so on fgN cd len T0 L0))).take (stop - ps1.length)) σ' ∧ ∀ q, q ≤ c → ∀ j, j < 8 → Rd σ' (k + 1) q j = Rd σ (k + 1) q j := by
      intro w
      induction w with
      | zero =>
        intro e σ1 ps1 o8 o9 f1 f2 f3 f4
        have f1 : e = (op c).length := by omega
        subst f1
        rw [List.drop_length, List.flatMap_nil, List.filter_nil, List.take_nil, List.append_nil]
        refine ⟨σ1, fun f hf => ?_, f2, f3⟩
        rw [b181_49, if_pos (by omega), b181_163]
      | succ w ihw =>
        intro e σ1 ps1 o8 o9 f1 f2 f3 f4
        obtain ⟨a1, a2, a3, a4⟩ := AG_k hk f2.1
        have he : e < (op c).length := by omega
        obtain ⟨t1, t2, t3, t4, t5, t6, t7⟩ := v3 e he
        have mem : (op c)[e] ∈ op c := List.getElem_mem he
        rw [List.drop_eq_getElem_cons he, List.flatMap_cons, List.filter_append]
        generalize (op c)[e] = i at t1 t2 t3 t4 t5 t6 t7 mem
        obtain ⟨s1, s2, s3⟩ := hsy c hcn i mem
        by_cases full : ps1.length = stop
        · rw [full, Nat.sub_self, List.take_zero, List.append_nil]
          refine ⟨σ1, fun f hf => ?_, f2, f3⟩
          rw [b181_49, if_neg (by omega), b181_56 hk, if_pos (by rw [a1 13 (by decide), x13, f2.2.1]; omega), b181_163]
        · have x1 : xadd (c : Int) 1 = ((c + 1 : Nat) : Int) := xad1 (by omega)
          have xe : xadd ((20 * c + e : Nat) : Int) 1 = ((20 * c + (e + 1) : Nat) : Int) := xad1 (by omega)
          have ho : ∀ d, Ev X (d + 1) 181 49 [some (vr k), some (vi c), some (vi ((4 * (T0 - nsum (fun j => ct j (p j)) c) + (L0 - nsum (fun j => cl j (p j)) c) : Nat) : Int)), some (vi (nsum (fun j => wt j (p j)) c : Int)), some (vl (cdN p c : Int)), none, some (vi ((20 * c + (op c).length : Nat) : Int)), some (vi ((20 * c + e : Nat) : Int)), o8, o9] [] SH σ1 = Ev X (d + 1) 181 82 [some (vr k), some (vi c), some (vi ((4 * (T0 - nsum (fun j => ct j (p j)) c) + (L0 - nsum (fun j => cl j (p j)) c) : Nat) : Int)), some (vi (nsum (fun j => wt j (p j)) c : Int)), some (vl (cdN p c : Int)), none, some (vi ((20 * c + (op c).length : Nat) : Int)), some (vi ((20 * c + e : Nat) : Int)), o8, o9] [vi (f185 σ1 k ((c + 1 : Nat) : Int) ((4 * (T0 - nsum (fun j => ct j (p j)) c) + (L0 - nsum (fun j => cl j (p j)) c) : Nat) : Int) ((4 * ct c i + cl c i : Nat) : Int))] SH σ1 := by
            intro d
            rw [b181_49, if_neg (by omega), b181_56 hk, if_neg (by rw [a1 13 (by decide), x13, f2.2.1]; omega)]
            refine Eq.trans (b181_67 hk (by omega)) ?_
            rw [x1, Int.toNat_natCast, a2 13 (by decide) (by decide), t4]
            refine x_bind (s185 hk (by omega) (by omega)) ?_
            rfl
          obtain ⟨R, r1, r2⟩ := rch (c + 1) (by omega)
          have r1' : σ1 (k + 15) (c + 1) = (R : Int) := by rw [a2 15 (by decide) (by decide)]; exact r1
          have fy := f185_y (σ := σ1) (k := k) (a := c + 1) r1' r2.1 (T := T0 - nsum (fun j => ct j (p j)) c) (L := L0 - nsum (fun j => cl j (p j)) c) (by omega) (by omega) t6 t7
          -- a way that begins so
          have ext : ∀ p', p' ∈ enumF op m (c + 1) (upN p c i) → (∀ j, j < c → p' j = p j) ∧ p' c = i ∧ (∀ j, c + 1 ≤ j → j < n → p' j ∈ op j) := by
            intro p' h
            obtain ⟨u1, u2⟩ := mem_enumF m (c + 1) _ _ h
            refine ⟨fun j hj => ?_, ?_, fun j h1 h2 => u2 j h1 (by omega)⟩
            · rw [u1 j (by omega), upN_ne (by omega)]
            · rw [u1 c (by omega), upN_at]
          have sums : ∀ p', p' ∈ enumF op m (c + 1) (upN p c i) → ∀ g : Nat → Nat → Nat, nsum (fun j => g j (p' j)) n = nsum (fun j => g j (p j)) c + g c i + sfx (fun j => g j (p' j)) (c + 1) m := by
            intro p' h g
            obtain ⟨u1, u2, _⟩ := ext p' h
            have := nsum_sfx (fun j => g j (p' j)) m (c + 1)
            rw [show c + 1 + m = n by omega, nsum] at this
            rw [this, u2, nsum_cg (f := fun j => g j (p' j)) (g := fun j => g j (p j)) c (fun j hj => by show g j (p' j) = g j (p j); rw [u1 j hj])]
          -- nothing that is looked for begins so
          have skip : ∀ σx : xM, INV k n wt ω ps1 σx → (∀ q, q ≤ c → ∀ j, j < 8 → Rd σx (k + 1) q j = Rd σ (k + 1) q j) → (enumF op m (c + 1) (upN p c i)).filter (gdB (GD n ct cl sy wt so on fgN cd len T0 L0)) = [] → (∀ f, m + 1 + 3 ≤ f → Ev X f 181 49 [some (vr k), some (vi c), some (vi ((4 * (T0 - nsum (fun j => ct j (p j)) c) + (L0 - nsum (fun j => cl j (p j)) c) : Nat) : Int)), some (vi (nsum (fun j => wt j (p j)) c : Int)), some (vl (cdN p c : Int)), none, some (vi ((20 * c + (op c).length : Nat) : Int)), some (vi ((20 * c + e : Nat) : Int)), o8, o9] [] SH σ1 = Ev X f 181 157 [some (vr k), some (vi c), some (vi ((4 * (T0 - nsum (fun j => ct j (p j)) c) + (L0 - nsum (fun j => cl j (p j)) c) : Nat) : Int)), some (vi (nsum (fun j => wt j (p j)) c : Int)), some (vl (cdN p c : Int)), none, some (vi ((20 * c + (op c).length : Nat) : Int)), some (vi ((20 * c + e : Nat) : Int)), o8, o9] [] SH σx) → ∃ σ', (∀ f, m + 1 + 3 ≤ f → Ev X f 181 49 [some (vr k), some (vi c), some (vi ((4 * (T0 - nsum (fun j => ct j (p j)) c) + (L0 - nsum (fun j => cl j (p j)) c) : Nat) : Int)), some (vi (nsum (fun j => wt j (p j)) c : Int)), some (vl (cdN p c : Int)), none, some (vi ((20 * c + (op c).length : Nat) : Int)), some (vi ((20 * c + e : Nat) : Int)), o8, o9] [] SH σ1 = some (none, SH, σ')) ∧ INV k n wt ω (ps1 ++ ((enumF op m (c + 1) (upN p c i)).filter (gdB (GD n ct cl sy wt so on fgN cd len T0 L0)) ++ (((op c).drop (e + 1)).flatMap (fun i => enumF op m (c + 1) (upN p c i))).filter (gdB (GD n ct cl sy wt so on fgN cd len T0 L0))).take (stop - ps1.length)) σ' ∧ ∀ q, q ≤ c → ∀ j, j < 8 → Rd σ' (k + 1) q j = Rd σ (k + 1) q j := by
            intro σx fx2 fx3 nil run
            rw [nil, List.nil_append]
            obtain ⟨σ', q1, q2, q3⟩ := ihw (e + 1) σx ps1 o8 o9 (by omega) fx2 fx3 f4
            refine ⟨σ', fun f hf => ?_, q2, q3⟩
            rw [run f hf, b181_157, xe]
            exact q1 f hf
          by_cases pay : ct c i ≤ T0 - nsum (fun j => ct j (p j)) c ∧ cl c i ≤ L0 - nsum (fun j => cl j (p j)) c ∧ R.testBit (4 * (T0 - nsum (fun j => ct j (p j)) c - ct c i) + (L0 - nsum (fun j => cl j (p j)) c - cl c i)) = true
          · rw [if_pos pay] at fy
            -- the reading
            have hRc : ∀ j, j < 8 → Rd σ1 (k + 1) c j = rdSt r0 (symP sy p) c j := fun j hj => (f3 c (Nat.le_refl _) j hj).trans (hR j hj)
            have hr : isRdg (k + 1) := by unfold isWlk at hk; unfold isRdg; omega
            have st2 : ∀ d, Ev X (d + 1) 181 49 [some (vr k), some (vi c), some (vi ((4 * (T0 - nsum (fun j => ct j (p j)) c) + (L0 - nsum (fun j => cl j (p j)) c) : Nat) : Int)), some (vi (nsum (fun j => wt j (p j)) c : Int)), some (vl (cdN p c : Int)), none, some (vi ((20 * c + (op c).length : Nat) : Int)), some (vi ((20 * c + e : Nat) : Int)), o8, o9] [] SH σ1 = Ev X (d + 1) 181 85 [some (vr k), some (vi c), some (vi ((4 * (T0 - nsum (fun j => ct j (p j)) c) + (L0 - nsum (fun j => cl j (p j)) c) : Nat) : Int)), some (vi (nsum (fun j => wt j (p j)) c : Int)), some (vl (cdN p c : Int)), none, some (vi ((20 * c + (op c).length : Nat) : Int)), some (vi ((20 * c + e : Nat) : Int)), o8, o9] [] SH σ1 := by
              intro d
              rw [ho, fy, b181_82, if_neg (by decide)]
            have t2' : σ1 (k + 11) (20 * c + e) = sy c i := by rw [a2 11 (by decide) (by decide)]; exact t2
            cases rok : rdOk (rdSt r0 (symP sy p) c) (sy c i) with
            | false =>
              refine skip σ1 f2 f3 ?_ (fun f hf => ?_)
              · rw [List.filter_eq_nil_iff]
                intro p' h g
                rw [gdB_iff] at g
                obtain ⟨u1, u2, _⟩ := ext p' h
                have o := (g.2.2.2.1.1 c hcn).2
                have e2 : rdSt r0 (symP sy p') c = rdSt r0 (symP sy p) c := rdSt_cs c (fun j hj => by unfold symP; rw [u1 j hj])
                rw [e2, show symP sy p' c = sy c i by unfold symP; rw [u2], rok] at o
                exact absurd o (by decide)
              · obtain ⟨d, rfl⟩ : ∃ d, f = d + 3 := ⟨f - 3, by omega⟩
                rw [st2]
                refine Eq.trans (b181_85 hk (by omega)) ?_
                rw [Int.toNat_natCast, t2']
                refine x_bind (s122n (k := k + 1) (a1 := (c : Int)) hr (by omega) (by omega) (by rw [Int.toNat_natCast, rdOk_congr hRc]; exact rok)) ?_
                dsimp only
                refine Eq.trans b181_100 ?_
                rw [if_pos rfl]
            | true =>
              have ok1 : okS (symP sy (upN p c i)) (c + 1) := by
                intro j hj
                have e2 : ∀ q, q ≤ c → rdSt r0 (symP sy (upN p c i)) q = rdSt r0 (symP sy p) q := fun q hq => rdSt_cs q (fun j hj => symP_up (by omega))
                by_cases y : j = c
                · subst y
                  rw [e2 j (Nat.le_refl _), show symP sy (upN p j i) j = sy j i by unfold symP; rw [upN_at]]
                  exact ⟨s1, rok⟩
                · rw [e2 j (by omega), symP_up (by omega)]
                  exact ok j (by omega)
              have est : rdSt r0 (symP sy (upN p c i)) (c + 1) = rdN (rdSt r0 (symP sy p) c) (sy c i) := by
                rw [rdSt, rdSt_cs (cs' := symP sy p) c (fun j hj => symP_up hj), show symP sy (upN p c i) c = sy c i by unfold symP; rw [upN_at]]
              have go : ∀ d, Ev X (d + 2) 122 0 [some (vr (k + 1)), some (vi c), some (vi (sy c i))] [] SH σ1 = some (some (vi 1), SH, setRd σ1 (k + 1) (c + 1) (rdN (Rd σ1 (k + 1) c) (sy c i))) := by
                intro d
                have := s122y (X := X) (d := d) (σ := σ1) (k := k + 1) (a1 := (c : Int)) (a2 := sy c i) hr (by omega) (by omega) (by rw [Int.toNat_natCast, rdOk_congr hRc]; exact rok)
                rw [Int.toNat_natCast] at this
                exact this
              have hR2 : ∀ j, j < 8 → Rd (setRd σ1 (k + 1) (c + 1) (rdN (Rd σ1 (k + 1) c) (sy c i))) (k + 1) (c + 1) j = rdSt r0 (symP sy (upN p c i)) (c + 1) j := by
                intro j hj
                rw [Rd_set hj, if_pos rfl, est, rdN_congr hRc j hj]
              have I2 : INV k n wt ω ps1 (setRd σ1 (k + 1) (c + 1) (rdN (Rd σ1 (k + 1) c) (sy c i))) := INV_rd f2
              have keep2 : ∀ q, q ≤ c → ∀ j, j < 8 → Rd (setRd σ1 (k + 1) (c + 1) (rdN (Rd σ1 (k + 1) c) (sy c i))) (k + 1) q j = Rd σ (k + 1) q j := by
                intro q hq j hj
                rw [Rd_set hj, if_neg (by omega)]
                exact f3 q hq j hj
              generalize setRd σ1 (k + 1) (c + 1) (rdN (Rd σ1 (k + 1) c) (sy c i)) = σ2 at go hR2 I2 keep2
              obtain ⟨z1, z2, z3, z4⟩ := AG_k hk I2.1
              obtain ⟨b, vb, vv⟩ := s186 (X := X) (σ := σ2) (cs := symP sy (upN p c i)) (so := so) (q := c + 1) hk w2 (by omega) ((z1 9 (by decide)).trans w1) ((z1 12 (by decide)).trans x12) ok1 hR2
              rw [z1 11 (by decide), x11] at vv
              have st3 : ∀ d, Ev X (d + 3) 181 49 [some (vr k), some (vi c), some (vi ((4 * (T0 - nsum (fun j => ct j (p j)) c) + (L0 - nsum (fun j => cl j (p j)) c) : Nat) : Int)), some (vi (nsum (fun j => wt j (p j)) c : Int)), some (vl (cdN p c : Int)), none, some (vi ((20 * c + (op c).length : Nat) : Int)), some (vi ((20 * c + e : Nat) : Int)), o8, o9] [] SH σ1 = Ev X (d + 3) 181 110 [some (vr k), some (vi c), some (vi ((4 * (T0 - nsum (fun j => ct j (p j)) c) + (L0 - nsum (fun j => cl j (p j)) c) : Nat) : Int)), some (vi (nsum (fun j => wt j (p j)) c : Int)), some (vl (cdN p c : Int)), none, some (vi ((20 * c + (op c).length : Nat) : Int)), some (vi ((20 * c + e : Nat) : Int)), o8, o9] [vi b] SH σ2 := by
                intro d
                rw [st2]
                refine Eq.trans (b181_85 hk (by omega)) ?_
                rw [Int.toNat_natCast, t2']
                refine x_bind (go _) ?_
                dsimp only
                refine Eq.trans b181_100 ?_
                rw [if_neg (by decide)]
                refine Eq.trans (b181_103 hk) ?_
                rw [x1]
                refine x_bind (vb _) ?_
                rfl
              by_cases bz : b = 0
              · -- on we go
                have n1 : nsum (fun j => ct j (upN p c i j)) (c + 1) ≤ T0 := by rw [nsum_up]; omega
                have n2 : nsum (fun j => cl j (upN p c i j)) (c + 1) ≤ L0 := by rw [nsum_up]; omega
                obtain ⟨σ3, u1, u2, u3⟩ := ih (c + 1) (upN p c i) σ2 ps1 (by omega) I2 (fun j hj => by
                  by_cases y : j = c
                  · rw [y, upN_at]
                    exact mem
                  · rw [upN_ne y]
                    exact hp j (by omega)) ok1 hR2 n1 n2 f4 (fun m0 => by
                  refine ⟨by omega, ?_⟩
                  have cn : c + 1 = n := by omega
                  rw [cn, rch1] at r1
                  have : R = 1 := by omega
                  rw [this] at pay
                  have tb : ∀ x, x < 16 → Nat.testBit 1 x = true → x = 0 := by decide
                  have := tb _ (by omega) pay.2.2
                  rw [nsum_up, nsum_up]
                  omega)
                obtain ⟨σ', q1, q2, q3⟩ := ihw (e + 1) σ3 (ps1 ++ ((enumF op m (c + 1) (upN p c i)).filter (gdB (GD n ct cl sy wt so on fgN cd len T0 L0))).take (stop - ps1.length)) (some (vl (cdN (upN p c i) (c + 1) : Int))) none (by omega) u2 (fun q hq j hj => (u3 q (by omega) j hj).trans (keep2 q hq j hj)) (by
                  rw [List.length_append, List.length_take]
                  omega)
                refine ⟨σ', fun f hf => ?_, ?_, q3⟩
                · obtain ⟨d, rfl⟩ : ∃ d, f = d + 3 := ⟨f - 3, by omega⟩
                  rw [st3, b181_110, if_neg (by omega)]
                  refine Eq.trans (b181_113 hk (by omega)) ?_
                  rw [x1, Int.toNat_natCast, z2 13 (by decide) (by decide), t4, z2 12 (by decide) (by decide), t3, z2 10 (by decide) (by decide), t1, cod_up (by omega) (fun j hj => p20 j hj) t5, pur_up pay.1 pay.2.1 hT hL, wt_up s3 (by omega)]
                  refine x_bind (u1 _ (by omega)) ?_
                  dsimp only
                  refine Eq.trans b181_157 ?_
                  rw [xe]
                  exact q1 _ hf
                · rw [tk_ap _ _ _ _ f4]
                  exact q2
              · refine skip σ2 I2 keep2 ?_ (fun f hf => ?_)
                · rw [List.filter_eq_nil_iff]
                  intro p' h g
                  rw [gdB_iff] at g
                  obtain ⟨u1, u2, u3⟩ := ext p' h
                  have e2 : rdSt r0 (symP sy p') (c + 1) = rdSt r0 (symP sy (upN p c i)) (c + 1) := rdSt_cs (c + 1) (fun j hj => by
                    unfold symP
                    by_cases y : j = c
                    · rw [y, u2, upN_at]
                    · rw [u1 j (by omega), upN_ne y])
                  refine vn_no (cs := symP sy p') w2 (by omega : c + 1 ≤ n) (by rw [e2]; exact vv bz) (fun j h1 h2 => ?_) g.2.2
                  have mj : p' j ∈ op j := by
                    by_cases y : j = c
                    · rw [y, u2]
                      exact mem
                    · by_cases y2 : j < c
                      · rw [u1 j y2]
                        exact hp j y2
                      · exact u3 j (by omega) h2
                  exact (hsy j h2 _ mj).2.1 h1
                · obtain ⟨d, rfl⟩ : ∃ d, f = d + 3 := ⟨f - 3, by omega⟩
                  rw [st3, b181_110, if_pos bz]
          · rw [if_neg pay] at fy
            refine skip σ1 f2 f3 ?_ (fun f hf => ?_)
            · rw [List.filter_eq_nil_iff]
              intro p' h g
              rw [gdB_iff] at g
              apply pay
              have g1 := sums p' h ct
              have g2 := sums p' h cl
              rw [g.1] at g1
              rw [g.2.1] at g2
              have tb := r2.2 p' (fun j h1 h2 => (ext p' h).2.2 j h1 (by omega))
              rw [show n - (c + 1) = m by omega] at tb
              have tb := tb (by omega) (by omega)
              refine ⟨by omega, by omega, ?_⟩
              rw [show T0 - nsum (fun j => ct j (p j)) c - ct c i = sfx (fun j => ct j (p' j)) (c + 1) m by omega, show L0 - nsum (fun j => cl j (p j)) c - cl c i = sfx (fun j => cl j (p' j)) (c + 1) m by omega]
              exact tb
            · obtain ⟨d, rfl⟩ : ∃ d, f = d + 1 := ⟨f - 1, by omega⟩
              rw [ho, fy, b181_82, if_pos rfl]
    obtain ⟨σ', q1, q2, q3⟩ := lp (op c).length 0 σ ps none none (by omega) hI (fun _ _ _ _ => rfl) hle
    rw [List.drop_zero] at q2
    refine ⟨σ', fun f hf => ?_, q2, q3⟩
    obtain ⟨a1, a2, a3, a4⟩ := AG_k hk hI.1
    rw [b181_0 hk, if_neg (by rw [a1 9 (by decide), w1]; omega), b181_8, if_pos (by omega), b181_30 hk (by omega), x20 (by omega), Int.toNat_natCast, a2 14 (by decide) (by decide), v2, xad (by omega)]
    exact q1 f hf
end GFL
