/-! calls: by the callee's contract -/
def xRm (d mc ms : Nat) : Room := { frames := d + 1, cells := mc, slots := ms, locals := 40 * (d + 1) }
def xMet (y : MethodName) (cy : ByteArray) (mL : Nat) (ry : Option FieldType) (d : Nat) (as : List Value) (hp : xH) (r : Option Value) (hp' : xH) (mc ms : Nat) : Prop := ∀ (l : Launch) (G : xG), Met l y (.code y cy mL ry :: xgw) (xRm d mc ms) (xPc G as hp) (xQc G r hp') mc ms (fun q => G.1 ≤ q)
theorem xgoodIn {y : MethodName} {cy : ByteArray} {mL : Nat} {ry : Option FieldType} (h : Cond.code y cy mL ry ∈ xgw) : GoodIn xgw (Cond.code y cy mL ry :: xgw) := by
  intro w hw
  have hm : w ∈ xgw := by
    rcases List.mem_cons.mp hw with rfl | h2
    · exact h
    · exact h2
  exact ⟨hm, good_of_word (List.mem_filter.mp hm).2⟩
theorem xgood1 {w : Cond} {ws : List Cond} (h : w ∈ xgw) (hs : GoodIn xgw ws) : GoodIn xgw (w :: ws) := by
  intro v hv
  rcases List.mem_cons.mp hv with rfl | h2
  · exact ⟨h, good_of_word (List.mem_filter.mp h).2⟩
  · exact hs v h2
theorem xcats (G : xG) (rest : List Value) : ((rest.map (xeV G)).map fun v => v.category).sum = (rest.map fun v => v.category).sum := by
  rw [List.map_map]
  congr 1
  apply List.map_congr_left
  intro v _
  exact xeV_cat G v
theorem xafter {G : xG} {own : String} {cc : ByteArray} {nL : Nat} {nm : String} {rt : Option FieldType} {R : Room} {Qf : List Frame → Array Value → State → State → Prop} {pc : Nat} {lv : xL} {rest st0 : List Value} {hp' : xH} {k n mc ms : Nat} {r : Option Value}
    {p : Program} {l : Launch} {e : Env} {s : State} {m : MethodId} {args a : Array Value} {below : List Frame} {meth : Method} {c : Code} {ls : Array Slot} {H : Heap} {locs : List Loc}
    (K : xPW G own cc nL nm rt R Qf (pc + 3) lv (r.toList ++ rest) hp' (k + mc) (n + ms)) (C : xCx G own cc nL nm rt p s m args meth c) (hl : xlv G nL ls lv) (hf : ∀ q ∈ locs, G.1 ≤ q.base)
    (hr : va_Run p l e R s m args below meth c H locs k n mc ms (F0 m pc ls st0) (rest.map (xeV G)) (xQc G r hp' a) (fun q => G.1 ≤ q)) : W p l e R s m args below meth c H locs k n (Qf below args s) (F0 m pc ls st0) := by
  intro T hT X
  obtain ⟨v, st₀, t, T', L, h0, X', hL, e1, e2, ⟨hv, hR'⟩, go⟩ := hr T hT X
  have hv' : v = r.map (xeV G) := by injection hv
  subst hv'
  obtain ⟨t2, a1, b1⟩ := K p l e s m args below meth c C ls T'.heap (locs ++ L) hl (by rw [e1]; exact hR') (fun q hq => by
    rcases List.mem_append.mp hq with h | h
    · exact hf q h
    · exact hL q h) T' rfl X'
  refine ⟨t2, go t2 ?_, b1⟩
  have hst : (r.toList ++ rest).map (xeV G) = (r.map (xeV G)).toList ++ rest.map (xeV G) := by
    cases r <;> rfl
  rw [hst] at a1
  exact a1
section XC
variable {G : xG} {own : String} {cc : ByteArray} {nL : Nat} {nm : String} {rt : Option FieldType} {R : Room} {Qf : List Frame → Array Value → State → State → Prop} {pc : Nat} {lv : xL} {rest : List Value} {hp hp' : xH} {k n mc ms : Nat} {r : Option Value} {as : List Value} {y x : MethodName} {cy : ByteArray} {mL d i : Nat} {ry : Option FieldType} {o : Nat} {ci : Nat} {fs : List Value} {cl : vw_C} {owner host : String}
/-- what every call asks -/
def xAsk (y : MethodName) (cy : ByteArray) (mL : Nat) (ry : Option FieldType) (d : Nat) (R : Room) (rest : List Value) (k n mc ms np : Nat) : Prop := Cond.code y cy mL ry ∈ xgw ∧ mL ≤ 21 ∧ d + 2 ≤ R.frames ∧ 40 * (d + 2) ≤ R.locals ∧ k + mc ≤ R.cells ∧ n + ms ≤ R.slots ∧ (rest.map fun v => v.category).sum ≤ 8 ∧ (y.cls ≠ "java/lang/invoke/MethodHandle" ∧ y.cls ≠ "java/lang/invoke/VarHandle") ∧ (parseMethodDescriptor y.desc).map (fun d => d.parameters.length) = some np
theorem xAsk.room (h : xAsk y cy mL ry d R rest k n mc ms i) : (xRm d mc ms).frames + 1 ≤ R.frames ∧ 8 + (mL + 11) + (xRm d mc ms).locals ≤ R.locals := by
  obtain ⟨-, h1, h2, h3, -⟩ := h
  refine ⟨h2, ?_⟩
  show 8 + (mL + 11) + 40 * (d + 1) ≤ R.locals
  omega
theorem xPreS {s : State} {H : Heap} (hR : xRel G hp H) (hW : xW G s) : PreS s H (xPc G as hp) (as.map (xeV G)) := ⟨xPc_blind G as hp, fun U hU hw => ⟨rfl, by rw [hU]; exact hR, xW.moved hw hW⟩⟩
theorem xPreV {s : State} {H : Heap} (hR : xRel G hp H) (hW : xW G s) (hg : xget hp o = some (.inr (ci, fs))) (hc : vwCl[ci]? = some cl) : PreV s H cl.1 (xad G o) (xPc G (.ref o :: as) hp) (as.map (xeV G)) := ⟨xPc_blind G _ hp, va_recv hW.1 (xone hR (xobj_lt hR hW hg) hg) hc (q0 := 0) rfl, fun U hU hw => ⟨rfl, by rw [hU]; exact hR, xW.moved hw hW⟩⟩
theorem xs_callS (hM : xMet y cy mL ry d as hp r hp' mc ms) (hA : xAsk y cy mL ry d R rest k n mc ms as.length) (h1 : Cond.methodLink own i y ∈ xgw) (h2 : Cond.static y ∈ xgw) (h3 : Cond.initialized y.cls ∈ xgw) (hd : decode cc pc = .ok (.invokestatic i, 3)) (K : xPW G own cc nL nm rt R Qf (pc + 3) lv (r.toList ++ rest) hp' (k + mc) (n + ms)) : xPW G own cc nL nm rt R Qf pc lv (as.reverse ++ rest) hp k n := by
  intro p l e s m args below meth c C ls H locs hl hR hf
  obtain ⟨a1, a2, a3, a4, a5, a6, a7, a8, a9⟩ := id hA
  have hst : (as.reverse ++ rest).map (xeV G) = (as.map (xeV G)).reverse ++ rest.map (xeV G) := by rw [List.map_append, List.map_reverse]
  rw [hst]
  exact xafter K C hl hf (va_runS (As := as.map (xeV G)) (rest := rest.map (xeV G)) ⟨C.1, C.2.1, C.2.2.1, C.2.2.2.1, C.2.2.2.2.1⟩ (hM l G) (va_cwS as.length C.2.2.2.2.1 (xgood1 h1 (xgood1 h2 (xgood1 h3 (xgoodIn a1)))) rfl rfl rfl ⟨a8.1, a8.2, a9⟩ hA.room) (xPreS hR C.2.2.2.2.2.2.2.2) rfl (by rw [List.length_map]) hl.1 rfl (lv_room (by rw [xcats]; exact a7)) hd ⟨a5, a6⟩)
theorem xs_callSN (hM : xMet y cy mL ry d as hp r hp' mc ms) (hA : xAsk y cy mL ry d R rest k n mc ms as.length) (h1 : Cond.methodLinkNest own i y host ∈ lw_tbl) (h2 : Cond.static y ∈ xgw) (h3 : Cond.initialized y.cls ∈ xgw) (hd : decode cc pc = .ok (.invokestatic i, 3)) (K : xPW G own cc nL nm rt R Qf (pc + 3) lv (r.toList ++ rest) hp' (k + mc) (n + ms)) : xPW G own cc nL nm rt R Qf pc lv (as.reverse ++ rest) hp k n := by
  intro p l e s m args below meth c C ls H locs hl hR hf
  have hW := C.2.2.2.2.2.2.2.2
  obtain ⟨a1, a2, a3, a4, a5, a6, a7, a8, a9⟩ := id hA
  have hst : (as.reverse ++ rest).map (xeV G) = (as.map (xeV G)).reverse ++ rest.map (xeV G) := by rw [List.map_append, List.map_reverse]
  rw [hst]
  exact xafter K C hl hf (va_runSN (As := as.map (xeV G)) (rest := rest.map (xeV G)) ⟨C.1, C.2.1, C.2.2.1, C.2.2.2.1, C.2.2.2.2.1⟩ (hM l G) ⟨va_cnB as.length C.2.2.2.2.1 (xgoodIn a1) rfl rfl rfl (hW.2.1 _ h1 rfl) (C.2.2.2.2.1 _ h3) ⟨a8.1, a8.2, a9⟩ hA.room, C.2.2.2.2.1 _ h2, trivial⟩ (xPreS hR hW) rfl (by rw [List.length_map]) hl.1 rfl (lv_room (by rw [xcats]; exact a7)) hd ⟨a5, a6⟩)
theorem xvst : (as.reverse ++ .ref o :: rest).map (xeV G) = (as.map (xeV G)).reverse ++ .ref (xad G o) :: rest.map (xeV G) := by
  rw [List.map_append, List.map_reverse]
  rfl
theorem xs_callV (hM : xMet y cy mL ry d (.ref o :: as) hp r hp' mc ms) (hA : xAsk y cy mL ry d R rest k n mc ms as.length) (hg : xget hp o = some (.inr (ci, fs))) (hc : vwCl[ci]? = some cl) (hC : y.cls = cl.1) (h1 : Cond.methodLink own i y ∈ xgw) (h2 : Cond.instanceMethod y ∈ xgw) (h3 : Cond.selects cl.1 y y ∈ xgw) (h4 : Cond.initialized cl.1 ∈ xgw) (hd : decode cc pc = .ok (.invokevirtual i, 3)) (K : xPW G own cc nL nm rt R Qf (pc + 3) lv (r.toList ++ rest) hp' (k + mc) (n + ms)) : xPW G own cc nL nm rt R Qf pc lv (as.reverse ++ .ref o :: rest) hp k n := by
  intro p l e s m args below meth c C ls H locs hl hR hf
  obtain ⟨a1, a2, a3, a4, a5, a6, a7, a8, a9⟩ := id hA
  rw [xvst]
  exact xafter K C hl hf (va_runV (As := as.map (xeV G)) (rest := rest.map (xeV G)) ⟨C.1, C.2.1, C.2.2.1, C.2.2.2.1, C.2.2.2.2.1⟩ (hM l G) (cwV as.length C.2.2.2.2.1 (xgood1 h1 (xgood1 h2 (xgood1 h3 (xgood1 h4 (xgoodIn a1))))) rfl rfl rfl ⟨hC, a8.1, a8.2, a9⟩ hA.room) (xPreV hR C.2.2.2.2.2.2.2.2 hg hc) rfl (by rw [List.length_map]) hl.1 rfl (lv_room (by rw [xcats]; exact a7)) hd ⟨a5, a6⟩)
theorem xs_callVN (hM : xMet y cy mL ry d (.ref o :: as) hp r hp' mc ms) (hA : xAsk y cy mL ry d R rest k n mc ms as.length) (hg : xget hp o = some (.inr (ci, fs))) (hc : vwCl[ci]? = some cl) (h1 : Cond.methodLinkNest own i y host ∈ lw_tbl) (h2 : Cond.instanceMethod y ∈ xgw) (h3 : Cond.selects cl.1 y y ∈ xgw) (h4 : Cond.initialized y.cls ∈ xgw) (hd : decode cc pc = .ok (.invokevirtual i, 3)) (K : xPW G own cc nL nm rt R Qf (pc + 3) lv (r.toList ++ rest) hp' (k + mc) (n + ms)) : xPW G own cc nL nm rt R Qf pc lv (as.reverse ++ .ref o :: rest) hp k n := by
  intro p l e s m args below meth c C ls H locs hl hR hf
  have hW := C.2.2.2.2.2.2.2.2
  obtain ⟨a1, a2, a3, a4, a5, a6, a7, a8, a9⟩ := id hA
  rw [xvst]
  exact xafter K C hl hf (va_runVN (As := as.map (xeV G)) (rest := rest.map (xeV G)) ⟨C.1, C.2.1, C.2.2.1, C.2.2.2.1, C.2.2.2.2.1⟩ (hM l G) ⟨va_cnB as.length C.2.2.2.2.1 (xgoodIn a1) rfl rfl rfl (hW.2.1 _ h1 rfl) (C.2.2.2.2.1 _ h4) ⟨a8.1, a8.2, a9⟩ hA.room, C.2.2.2.2.1 _ h2, C.2.2.2.2.1 _ h3⟩ (xPreV hR hW hg hc) rfl (by rw [List.length_map]) hl.1 rfl (lv_room (by rw [xcats]; exact a7)) hd ⟨a5, a6⟩)
theorem xs_callU (hM : xMet y cy mL ry d (.ref o :: as) hp r hp' mc ms) (hA : xAsk y cy mL ry d R rest k n mc ms as.length) (hg : xget hp o = some (.inr (ci, fs))) (hc : vwCl[ci]? = some cl) (hy : y = ⟨owner, x.name, x.desc⟩) (h1 : Cond.methodLink own i x ∈ xgw) (h2 : Cond.sameMethod x.cls owner x.name x.desc ∈ xgw) (h3 : Cond.selects cl.1 x y ∈ xgw) (h4 : Cond.instanceMethod y ∈ xgw) (h5 : Cond.initialized y.cls ∈ xgw) (hd : decode cc pc = .ok (.invokevirtual i, 3)) (K : xPW G own cc nL nm rt R Qf (pc + 3) lv (r.toList ++ rest) hp' (k + mc) (n + ms)) : xPW G own cc nL nm rt R Qf pc lv (as.reverse ++ .ref o :: rest) hp k n := by
  intro p l e s m args below meth c C ls H locs hl hR hf
  obtain ⟨a1, a2, a3, a4, a5, a6, a7, a8, a9⟩ := id hA
  rw [xvst]
  exact xafter K C hl hf (va_runU (As := as.map (xeV G)) (rest := rest.map (xeV G)) ⟨C.1, C.2.1, C.2.2.1, C.2.2.2.1, C.2.2.2.2.1⟩ (hM l G) (va_cwU as.length C.2.2.2.2.1 (xgood1 h1 (xgood1 h2 (xgood1 h3 (xgood1 h4 (xgood1 h5 (xgoodIn a1)))))) rfl rfl rfl hy ⟨by rw [hy] at a8; exact a8.1, by rw [hy] at a8; exact a8.2, by rw [hy] at a9; exact a9⟩ hA.room) (xPreV hR C.2.2.2.2.2.2.2.2 hg hc) rfl (by rw [List.length_map]) hl.1 rfl (lv_room (by rw [xcats]; exact a7)) hd ⟨a5, a6⟩)
theorem xs_callO {b0 : ByteArray} {m0 : Nat} {r0 : Option FieldType} (hM : xMet y cy mL ry d (.ref o :: as) hp r hp' mc ms) (hA : xAsk y cy mL ry d R rest k n mc ms as.length) (hg : xget hp o = some (.inr (ci, fs))) (hc : vwCl[ci]? = some cl) (hy : y.desc = x.desc) (ho : owner ≠ "java/lang/invoke/MethodHandle" ∧ owner ≠ "java/lang/invoke/VarHandle") (h1 : Cond.methodLink own i x ∈ xgw) (h2 : Cond.sameMethod x.cls owner x.name x.desc ∈ xgw) (h6 : Cond.instanceMethod ⟨owner, x.name, x.desc⟩ ∈ xgw) (h7 : Cond.code ⟨owner, x.name, x.desc⟩ b0 m0 r0 ∈ xgw) (h3 : Cond.selects cl.1 x y ∈ xgw) (h4 : Cond.instanceMethod y ∈ xgw) (h5 : Cond.initialized y.cls ∈ xgw) (hd : decode cc pc = .ok (.invokevirtual i, 3)) (K : xPW G own cc nL nm rt R Qf (pc + 3) lv (r.toList ++ rest) hp' (k + mc) (n + ms)) : xPW G own cc nL nm rt R Qf pc lv (as.reverse ++ .ref o :: rest) hp k n := by
  intro p l e s m args below meth c C ls H locs hl hR hf
  obtain ⟨a1, a2, a3, a4, a5, a6, a7, a8, a9⟩ := id hA
  rw [xvst]
  exact xafter K C hl hf (va_runU (As := as.map (xeV G)) (rest := rest.map (xeV G)) ⟨C.1, C.2.1, C.2.2.1, C.2.2.2.1, C.2.2.2.2.1⟩ (hM l G) (va_cwO as.length C.2.2.2.2.1 (xgood1 h1 (xgood1 h2 (xgood1 h6 (xgood1 h3 (xgood1 h4 (xgood1 h5 (xgoodIn a1))))))) rfl rfl rfl h7 ⟨ho.1, ho.2, by rw [← hy]; exact a9⟩ hA.room) (xPreV hR C.2.2.2.2.2.2.2.2 hg hc) rfl (by rw [List.length_map]) hl.1 rfl (lv_room (by rw [xcats]; exact a7)) hd ⟨a5, a6⟩)
theorem xs_callI (hM : xMet y cy mL none d (.ref o :: as) hp r hp' mc ms) (hA : xAsk y cy mL none d R rest k n mc ms as.length) (hy : y.name = "<init>") (h1 : Cond.methodLink own i y ∈ xgw) (h2 : Cond.instanceMethod y ∈ xgw) (h3 : Cond.initialized y.cls ∈ xgw) (hd : decode cc pc = .ok (.invokespecial i, 3)) (K : xPW G own cc nL nm rt R Qf (pc + 3) lv (r.toList ++ rest) hp' (k + mc) (n + ms)) : xPW G own cc nL nm rt R Qf pc lv (as.reverse ++ .ref o :: rest) hp k n := by
  intro p l e s m args below meth c C ls H locs hl hR hf
  obtain ⟨a1, a2, a3, a4, a5, a6, a7, a8, a9⟩ := id hA
  rw [xvst]
  exact xafter K C hl hf (va_runI (As := as.map (xeV G)) (rest := rest.map (xeV G)) ⟨C.1, C.2.1, C.2.2.1, C.2.2.2.1, C.2.2.2.2.1⟩ (hM l G) (cwI as.length C.2.2.2.2.1 (xgoodIn a1) rfl rfl rfl (C.2.2.2.2.1 _ h3) (C.2.2.2.2.1 _ h1) (C.2.2.2.2.1 _ h2) hy ⟨a8.1, a8.2, a9⟩ hA.room) (xPreS (as := .ref o :: as) hR C.2.2.2.2.2.2.2.2) rfl (by rw [List.length_map]) hl.1 rfl (lv_room (by rw [xcats]; exact a7)) hd ⟨a5, a6⟩)
theorem xs_callIN (hM : xMet y cy mL none d (.ref o :: as) hp r hp' mc ms) (hA : xAsk y cy mL none d R rest k n mc ms as.length) (hy : y.name = "<init>") (h1 : Cond.methodLinkNest own i y host ∈ lw_tbl) (h2 : Cond.instanceMethod y ∈ xgw) (h3 : Cond.initialized y.cls ∈ xgw) (hd : decode cc pc = .ok (.invokespecial i, 3)) (K : xPW G own cc nL nm rt R Qf (pc + 3) lv (r.toList ++ rest) hp' (k + mc) (n + ms)) : xPW G own cc nL nm rt R Qf pc lv (as.reverse ++ .ref o :: rest) hp k n := by
  intro p l e s m args below meth c C ls H locs hl hR hf
  have hW := C.2.2.2.2.2.2.2.2
  obtain ⟨a1, a2, a3, a4, a5, a6, a7, a8, a9⟩ := id hA
  rw [xvst]
  exact xafter K C hl hf (va_runIN (As := as.map (xeV G)) (rest := rest.map (xeV G)) ⟨C.1, C.2.1, C.2.2.1, C.2.2.2.1, C.2.2.2.2.1⟩ (hM l G) ⟨va_cnB as.length C.2.2.2.2.1 (xgoodIn a1) rfl rfl rfl (hW.2.1 _ h1 rfl) (C.2.2.2.2.1 _ h3) ⟨a8.1, a8.2, a9⟩ hA.room, hy, C.2.2.2.2.1 _ h2⟩ (xPreS (as := .ref o :: as) hR hW) rfl (by rw [List.length_map]) hl.1 rfl (lv_room (by rw [xcats]; exact a7)) hd ⟨a5, a6⟩)
theorem xs_callSU (hM : xMet y cy mL ry d (.ref o :: as) hp r hp' mc ms) (hA : xAsk y cy mL ry d R rest k n mc ms as.length) (hg : xget hp o = some (.inr (ci, fs))) (hc : vwCl[ci]? = some cl) (hy : y.name ≠ "<init>") (h1 : Cond.methodLink own i y ∈ xgw) (h2 : Cond.sameMethod y.cls y.cls y.name y.desc ∈ xgw) (h6 : Cond.superclass own y.cls ∈ xgw) (h4 : Cond.instanceMethod y ∈ xgw) (h5 : Cond.initialized y.cls ∈ xgw) (hd : decode cc pc = .ok (.invokespecial i, 3)) (K : xPW G own cc nL nm rt R Qf (pc + 3) lv (r.toList ++ rest) hp' (k + mc) (n + ms)) : xPW G own cc nL nm rt R Qf pc lv (as.reverse ++ .ref o :: rest) hp k n := by
  intro p l e s m args below meth c C ls H locs hl hR hf
  have hW := C.2.2.2.2.2.2.2.2
  obtain ⟨a1, a2, a3, a4, a5, a6, a7, a8, a9⟩ := id hA
  rw [xvst]
  exact xafter K C hl hf (va_runSU (As := as.map (xeV G)) (rest := rest.map (xeV G)) (hW.1.1 ci cl hc).2 ⟨C.1, C.2.1, C.2.2.1, C.2.2.2.1, C.2.2.2.2.1⟩ (hM l G) (va_cwSU as.length C.2.2.2.2.1 (xgood1 h1 (xgood1 h2 (xgood1 h6 (xgood1 h4 (xgood1 h5 (xgoodIn a1)))))) rfl rfl rfl ⟨hy, a9⟩ hA.room) (xPreV hR hW hg hc) rfl (by rw [List.length_map]) hl.1 rfl (lv_room (by rw [xcats]; exact a7)) hd ⟨a5, a6⟩)
theorem xs_objInit (h1 : Cond.methodLink own i objectInit ∈ xgw) (h2 : Cond.instanceMethod objectInit ∈ xgw) (h3 : Cond.code objectInit ⟨#[0xb1]⟩ 1 none ∈ xgw) (hr : (rest.map fun v => v.category).sum ≤ 8) (hR1 : 1 ≤ R.frames) (hR2 : 40 ≤ R.locals) (hd : decode cc pc = .ok (.invokespecial i, 3)) (K : xPW G own cc nL nm rt R Qf (pc + 3) lv rest hp k n) : xPW G own cc nL nm rt R Qf pc lv (.ref o :: rest) hp k n := by
  intro p l e s m args below meth c C ls H locs hl hR hf
  refine W.objInit C.1 C.2.1 C.2.2.2.1 (C.2.2.2.2.1 _ h1) (C.2.2.2.2.1 _ h2) (C.2.2.2.2.1 _ h3) rfl (hl.1.trans C.2.2.1.symm) (a := xad G o) (rest := rest.map (xeV G)) rfl hd hR1 ?_ (K p l e s m args below meth c C ls H locs hl hR hf)
  have := lv_room (m := m) (pc := pc) (ls := ls) (rest := (Value.ref o :: rest).map (xeV G)) (st := rest.map (xeV G)) (by rw [xcats]; exact hr)
  omega
end XC
