/-! the pure machine's run is the machine's -/
theorem xret {G : xG} {own : String} {cc : ByteArray} {nL : Nat} {nm : String} {rt : Option FieldType} {R : Room} {pc : Nat} {lv : xL} {st : List Value} {hp : xH} {ins : Instr} {nx a : Nat} {ks : List (Nat × Nat)} {ws : List Nat} {v : Value} {r : Option Value} {k n : Nat}
    (hd0 : decode cc pc = .ok (ins, nx - pc)) (hres : xres own nm rt ins pc nx a ks ws v = true) (h : x2 ins nx a ks v lv st hp = some (.inr (.inl r))) : xPW G own cc nL nm rt R (xQf G r hp k n) pc lv st hp k n := by
  cases ins with
  | ireturn =>
    obtain ⟨hn, hr⟩ := of_decide_eq_true hres
    rw [show nx - pc = 1 by omega] at hd0
    unfold x2 at h
    dsimp only at h
    split at h
    next x =>
      split at h
      · cases h
      next hx =>
        cases h
        refine xs_ireturn ?_ hd0
        rcases hr with hr | ⟨hr, ha⟩
        · exact Or.inl hr
        · exact Or.inr ⟨hr, Classical.byContradiction fun q => hx ⟨ha, q⟩⟩
    next => cases h
  | lreturn =>
    obtain ⟨hn, hr⟩ := of_decide_eq_true hres
    rw [show nx - pc = 1 by omega] at hd0
    unfold x2 at h
    dsimp only at h
    split at h
    · cases h
      exact xs_lreturn hr hd0
    · cases h
  | areturn =>
    obtain ⟨hn, hr⟩ := of_decide_eq_true hres
    rw [show nx - pc = 1 by omega] at hd0
    unfold x2 at h
    dsimp only at h
    split at h
    · cases h
      exact xs_areturn hr (Or.inr ⟨_, rfl⟩) hd0
    · cases h
      exact xs_areturn hr (Or.inl rfl) hd0
    · cases h
  | return_ =>
    obtain ⟨hn, hr⟩ := of_decide_eq_true hres
    rw [show nx - pc = 1 by omega] at hd0
    unfold x2 at h
    dsimp only at h
    split at h
    · cases h
      exact xs_return hr hd0
    · cases h
  | _ =>
    unfold x2 at h
    dsimp only at h
    (try unfold xb2 at h)
    (try unfold xl2 at h)
    (try unfold xcall at h)
    (repeat' (first | split at h)) <;> exact nomatch h
theorem xsplit {st : List Value} {np o : Nat} (h : st[np]? = some (.ref o)) : st = ((st.take np).reverse).reverse ++ .ref o :: st.drop (np + 1) ∧ ((st.take np).reverse).length = np := by
  have hl := (List.getElem?_eq_some_iff.mp h).1
  have hg := (List.getElem?_eq_some_iff.mp h).2
  refine ⟨?_, by rw [List.length_reverse, List.length_take]; omega⟩
  rw [List.reverse_reverse, ← hg, List.getElem_cons_drop, List.take_append_drop]
theorem xcstep {G : xG} {own : String} {cc : ByteArray} {nL : Nat} {nm : String} {rt : Option FieldType} {R : Room} {Qf : List Frame → Array Value → State → State → Prop} {pc : Nat} {lv : xL} {st : List Value} {hp hp' : xH} {ins : Instr} {nx a : Nat} {ks : List (Nat × Nat)} {ws : List Nat} {v : Value} {r : Option Value} {k n i nx2 d mc ms : Nat} {as rest : List Value} {q : xHead}
    (hd0 : decode cc pc = .ok (ins, nx - pc)) (hres : xres own nm rt ins pc nx a ks ws v = true) (h : x2 ins nx a ks v lv st hp = some (.inr (.inr (i, as, rest, nx2)))) (hq : xHd[i]? = some q) (hM : xMet q.1 q.2.1 q.2.2.1 q.2.2.2 d as hp r hp' mc ms)
    (hf : d + 2 ≤ R.frames) (hlo : 40 * (d + 2) ≤ R.locals) (hc : k + mc ≤ R.cells) (hs : n + ms ≤ R.slots) (K : xPW G own cc nL nm rt R Qf nx2 lv (r.toList ++ rest) hp' (k + mc) (n + ms)) : xPW G own cc nL nm rt R Qf pc lv st hp k n := by
  obtain ⟨w1, w2, w3, -⟩ := xhd_ok i q hq
  have ask : ∀ np, xnp q.1 np = true → (rest.map fun v => v.category).sum ≤ 8 → xAsk q.1 q.2.1 q.2.2.1 q.2.2.2 d R rest k n mc ms np := fun np hnp hr => ⟨w1, w2, hf, hlo, hc, hs, hr, w3, of_decide_eq_true hnp⟩
  cases ins with
  | invokestatic idx =>
    unfold xres at hres
    dsimp only at hres
    rw [Bool.and_eq_true, decide_eq_true_eq] at hres
    obtain ⟨hn, hw⟩ := hres
    rw [show nx - pc = 3 by omega] at hd0
    unfold x2 xcall at h
    dsimp only at h
    split at h
    next np =>
      split at h
      next hle =>
        split at h
        next hr =>
          cases h
          subst hn
          rw [hq] at hw
          dsimp only at hw
          simp only [Bool.and_eq_true, Bool.or_eq_true] at hw
          obtain ⟨⟨⟨g1, g2⟩, g3⟩, g4⟩ := hw
          have hst : st = ((st.take np).reverse).reverse ++ st.drop np := by rw [List.reverse_reverse, List.take_append_drop]
          have hlen : ((st.take np).reverse).length = np := by rw [List.length_reverse, List.length_take]; omega
          have hA := ask ((st.take np).reverse).length (by rw [hlen]; exact g1) hr
          rw [hst]
          rcases g2 with g2 | g2
          · exact xs_callS hM hA (xw_mem g2) (xw_mem g3) (xw_mem g4) hd0 K
          · exact xs_callSN hM hA (xwb_mem g2) (xw_mem g3) (xw_mem g4) hd0 K
        next => cases h
      next => cases h
    next => cases h
  | invokevirtual idx =>
    unfold xres at hres
    dsimp only at hres
    rw [Bool.and_eq_true, decide_eq_true_eq] at hres
    obtain ⟨hn, hw⟩ := hres
    rw [show nx - pc = 3 by omega] at hd0
    unfold x2 xcall at h
    dsimp only at h
    split at h
    next np =>
      split at h
      next o ho =>
        split at h
        next ci fs hg =>
          split at h
          next i2 hk =>
            split at h
            next hr =>
              cases h
              subst hn
              obtain ⟨hst, hlen⟩ := xsplit ho
              obtain ⟨j, hj⟩ := List.getElem?_of_mem (xks_mem hk)
              have hz : ((ci, i), j) ∈ ks.zipIdx := List.mem_zipIdx_iff_getElem?.mpr hj
              have hv := List.all_eq_true.mp hw _ hz
              unfold xokV at hv
              dsimp only at hv
              rw [hq] at hv
              split at hv
              next cl y cy mL ry hcl hy =>
                cases hy
                simp only [Bool.and_eq_true, Bool.or_eq_true] at hv
                obtain ⟨⟨⟨g1, g2⟩, g3⟩, g4⟩ := hv
                have hA := ask ((st.take np).reverse).length (by rw [hlen]; exact g1) hr
                rw [hst]
                rcases g4 with ⟨⟨g4, g5⟩, g6⟩ | g4
                · have e := of_decide_eq_true g4
                  rcases g5 with g5 | g5
                  · have g3' := xw_mem g3
                    rw [e] at g3'
                    exact xs_callV hM hA hg hcl e (xw_mem g5) (xw_mem g2) (xw_mem g6) g3' hd0 K
                  · exact xs_callVN hM hA hg hcl (xwb_mem g5) (xw_mem g2) (xw_mem g6) (xw_mem g3) hd0 K
                · split at g4
                  next o2 j2 x xc ow xn xd y0 b0 m0 r0 z1 z2 z3 =>
                    simp only [Bool.and_eq_true, Bool.or_eq_true, decide_eq_true_eq] at g4
                    obtain ⟨⟨⟨rfl, rfl, rfl, rfl, rfl⟩, g5⟩, g6⟩ := g4
                    have m1 : Cond.methodLink o2 j2 x ∈ xgw := by
                      obtain ⟨t, -, ht⟩ := Option.bind_eq_some_iff.mp z1
                      exact xgw_of (List.mem_of_getElem? ht) rfl
                    have m2 : Cond.sameMethod x.cls ow x.name x.desc ∈ xgw := by
                      obtain ⟨t, -, ht⟩ := Option.bind_eq_some_iff.mp z2
                      exact xgw_of (List.mem_of_getElem? ht) rfl
                    rcases g6 with g6 | ⟨⟨g6, g7, g8, g9⟩, g10⟩
                    · exact xs_callU hM hA hg hcl g6 m1 m2 (xw_mem g5) (xw_mem g2) (xw_mem g3) hd0 K
                    · subst g9
                      have m3 : Cond.code ⟨ow, x.name, x.desc⟩ b0 m0 r0 ∈ xgw := by
                        obtain ⟨t, -, ht⟩ := Option.bind_eq_some_iff.mp z3
                        exact xgw_of (List.mem_of_getElem? ht) rfl
                      exact xs_callO hM hA hg hcl g6 ⟨g7, g8⟩ m1 m2 (xw_mem g10) m3 (xw_mem g5) (xw_mem g2) (xw_mem g3) hd0 K
                  next => cases g4
              next => cases hv
            next => cases h
          next => cases h
        next => cases h
      next => cases h
    next => cases h
  | invokespecial idx =>
    unfold xres at hres
    dsimp only at hres
    rw [Bool.and_eq_true, decide_eq_true_eq] at hres
    obtain ⟨hn, hw⟩ := hres
    rw [show nx - pc = 3 by omega] at hd0
    unfold x2 xcall xnx at h
    dsimp only at h
    split at h
    next np =>
      dsimp only at hw
      split at h
      next o ho =>
        obtain ⟨hst, hlen⟩ := xsplit ho
        split at h
        · split at h
          next hr =>
            cases h
            subst hn
            rw [hq] at hw
            dsimp only at hw
            simp only [Bool.and_eq_true, Bool.or_eq_true, decide_eq_true_eq] at hw
            obtain ⟨⟨⟨⟨⟨g0, g0r⟩, g1⟩, g2⟩, g3⟩, g4⟩ := hw
            have hA := ask ((st.take np).reverse).length (by rw [hlen]; exact g1) hr
            rw [hst]
            rw [g0r] at hA hM
            rcases g2 with g2 | g2
            · exact xs_callI hM hA g0 (xw_mem g2) (xw_mem g3) (xw_mem g4) hd0 K
            · exact xs_callIN hM hA g0 (xwb_mem g2) (xw_mem g3) (xw_mem g4) hd0 K
          next => cases h
        next hne =>
          split at h
          next ci fs hg =>
            split at h
            next i2 hk =>
              split at h
              next hr =>
                cases h
                subst hn
                split at hw
                · cases hk
                · have hv := List.all_eq_true.mp hw _ (xks_mem hk)
                  dsimp only at hv
                  rw [hq] at hv
                  split at hv
                  next cl y cy mL ry hcl hy =>
                    cases hy
                    simp only [Bool.and_eq_true, decide_eq_true_eq] at hv
                    obtain ⟨⟨⟨⟨⟨⟨g0, g1⟩, g2⟩, g3⟩, g4⟩, g5⟩, g6⟩ := hv
                    have hA := ask ((st.take np).reverse).length (by rw [hlen]; exact g1) hr
                    rw [hst]
                    exact xs_callSU hM hA hg hcl g0 (xw_mem g2) (xw_mem g5) (xw_mem g6) (xw_mem g3) (xw_mem g4) hd0 K
                  next => cases hv
              next => cases h
            next => cases h
          next => cases h
      next => cases h
    next =>
      split at h
      · split at h <;> cases h
      · cases h
  | _ =>
    unfold x2 at h
    dsimp only at h
    (try unfold xb2 at h)
    (try unfold xl2 at h)
    (repeat' (first | split at h)) <;> exact nomatch h
def xhd (M : xM) : xHead := (M.1, M.2.1, M.2.2.1, M.2.2.2.1)
def xBody (M : xM) (d pc : Nat) (lv : xL) (st : List Value) (hp : xH) (r : Option Value) (hp' : xH) : Prop := xok hp → xok hp' ∧ xtot hp ≤ xtot hp' ∧ xsl hp ≤ xsl hp' ∧ ∀ (G : xG) (R : Room) (k n : Nat), d + 1 ≤ R.frames → 40 * (d + 1) ≤ R.locals → k + (xtot hp' - xtot hp) ≤ R.cells → n + (xsl hp' - xsl hp) ≤ R.slots → xPW G M.1.cls M.2.1 M.2.2.1 M.1.name M.2.2.2.1 R (xQf G r hp' (k + (xtot hp' - xtot hp)) (n + (xsl hp' - xsl hp))) pc lv st hp k n
theorem xmet_of {M : xM} {d : Nat} {as : List Value} {hp hp' : xH} {r : Option Value} (hpl : plainFor M.1 = true) (hl : (xslots as).length ≤ M.2.2.1) (h : xBody M d 0 (xent M.2.2.1 as) [] hp r hp') : xMet M.1 M.2.1 M.2.2.1 M.2.2.2.1 d as hp r hp' (xtot hp' - xtot hp) (xsl hp' - xsl hp) := by
  intro l G
  refine va_MetF (cc := M.2.1) (maxL := M.2.2.1) (ret := M.2.2.2.1) hpl rfl ?_
  intro p e s m args below meth c s₁ B hml hv
  obtain ⟨rfl, hR, hW⟩ := hv
  have hts := atoms_spec (ws := .code M.1 M.2.1 M.2.2.1 M.2.2.2.1 :: xgw) B.pre
  have hown : s.vm.findClass M.1.cls = some m.cls := findClass_of_methodNamed B.named
  have hnm : meth.name = M.1.name := (name_of_methodNamed B.named B.method).1
  have C : xCx G M.1.cls M.2.1 M.2.2.1 M.1.name M.2.2.2.1 p s m (as.map (xeV G)).toArray meth c := ⟨B.exec, B.bytes, hml, hown, fun w hw => hts w (List.mem_cons_of_mem _ hw), B.notSynchronized, fun z => hnm.trans z, B.returns, hW⟩
  obtain ⟨h1, h2, h3, h4⟩ := h hR.2.2.1
  rw [lg_entry_eq]
  have key := h4 G (xRm d (xtot hp' - xtot hp) (xsl hp' - xsl hp)) 0 0 (Nat.le_refl _) (Nat.le_refl _) (by show 0 + (xtot hp' - xtot hp) ≤ xtot hp' - xtot hp; omega) (by show 0 + (xsl hp' - xsl hp) ≤ xsl hp' - xsl hp; omega) p l e s m (as.map (xeV G)).toArray below meth c C _ s.heap [] (xlv.entry G as hl) hR (fun q hq => absurd hq List.not_mem_nil)
  rw [Nat.zero_add, Nat.zero_add] at key
  exact key
set_option maxHeartbeats 2000000 in
theorem xsim (E : List xM) (hE : ∀ (i : Nat) (M : xM), E[i]? = some M → xHd[i]? = some (xhd M) ∧ xokM M = true) : ∀ (f d : Nat) (M : xM), xokM M = true → ∀ (pc : Nat) (lv : xL) (st : List Value) (hp : xH) (r : Option Value) (hp' : xH), xI E f d M.2.2.2.2 pc lv st hp = some (r, hp') → xBody M d pc lv st hp r hp' := by
  intro f
  induction f with
  | zero => intro d M _ pc lv st hp r hp' h; cases h
  | succ f ih =>
    intro d M hM pc lv st hp r hp' h
    unfold xI at h
    unfold x1 at h
    cases hrow : xrow M.2.2.2.2 pc with
    | none => rw [hrow] at h; cases h
    | some q =>
      obtain ⟨ins, nx, a, ks, ws, v⟩ := q
      rw [hrow] at h
      dsimp only at h
      have hr0 := List.all_eq_true.mp hM _ (xrow_mem hrow)
      unfold xokR at hr0
      rw [Bool.and_eq_true, decide_eq_true_eq] at hr0
      obtain ⟨hd0, hres⟩ := hr0
      dsimp only at hd0 hres
      cases hx : x2 ins nx a ks v lv st hp with
      | none => rw [hx] at h; cases h
      | some res =>
        rw [hx] at h
        match res, hx, h with
        | .inl (pc1, lv1, st1, hp1), hx, h =>
          have g := xstep (nL := M.2.2.1) hd0 hres hx
          have b := ih d M hM pc1 lv1 st1 hp1 r hp' h
          intro hk
          obtain ⟨g1, g2, g3, g4⟩ := g hk
          dsimp only at g1 g2 g3 g4
          obtain ⟨b1, b2, b3, b4⟩ := b g1
          refine ⟨b1, by omega, by omega, fun G R k n h1 h2 h3 h4 => ?_⟩
          refine g4 G R _ k n (by omega) (by omega) (by omega) (by omega) ?_
          have := b4 G R (k + (xtot hp1 - xtot hp)) (n + (xsl hp1 - xsl hp)) h1 h2 (by omega) (by omega)
          rw [show k + (xtot hp1 - xtot hp) + (xtot hp' - xtot hp1) = k + (xtot hp' - xtot hp) by omega, show n + (xsl hp1 - xsl hp) + (xsl hp' - xsl hp1) = n + (xsl hp' - xsl hp) by omega] at this
          exact this
        | .inr (.inl r1), hx, h =>
          cases h
          intro hk
          refine ⟨hk, Nat.le_refl _, Nat.le_refl _, fun G R k n h1 h2 h3 h4 => ?_⟩
          rw [Nat.sub_self, Nat.sub_self]
          exact xret hd0 hres hx
        | .inr (.inr (i, as, rest, nx2)), hx, h =>
          dsimp only at h
          split at h
          next d' M2 hM2 hx9 =>
            obtain ⟨e1, e2⟩ := hE i M2 hM2
            split at h
            next hle =>
              split at h
              next r1 hp1 hc =>
                have b1 := ih d' M2 e2 0 (xent M2.2.2.1 as) [] hp r1 hp1 hc
                have b2 := ih (d' + 1) M hM nx2 lv (r1.toList ++ rest) hp1 r hp' h
                have hpl := (xhd_ok i (xhd M2) e1).2.2.2
                have hmet := xmet_of hpl hle b1
                intro hk
                obtain ⟨c1, c2, c3, -⟩ := b1 hk
                obtain ⟨f1, f2, f3, f4⟩ := b2 c1
                refine ⟨f1, by omega, by omega, fun G R k n h1 h2 h3 h4 => ?_⟩
                refine xcstep hd0 hres hx e1 hmet (by omega) (by omega) (by omega) (by omega) ?_
                have := f4 G R (k + (xtot hp1 - xtot hp)) (n + (xsl hp1 - xsl hp)) h1 h2 (by omega) (by omega)
                rw [show k + (xtot hp1 - xtot hp) + (xtot hp' - xtot hp1) = k + (xtot hp' - xtot hp) by omega, show n + (xsl hp1 - xsl hp) + (xsl hp' - xsl hp1) = n + (xsl hp' - xsl hp) by omega] at this
                exact this
              next => cases h
            next => cases h
          next => cases h
