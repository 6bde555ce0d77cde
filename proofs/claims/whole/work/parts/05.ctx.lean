/-! the world around, the locals, the judgement -/
/-- words that hold on, each by a law of its own -/
def xbk (w : Cond) : Bool := match w with
  | .fieldLinkNest _ _ _ _ _ _ => true
  | .methodLinkNest _ _ _ _ => true
  | .castable _ _ => true
  | .arrayOver (.object _) => true
  | .arrayOver (.array _) => true
  | _ => false
def xgw : List Cond := lw_tbl.filter goodWord
def xW (G : xG) (U : State) : Prop := va_K G.2.2.2.1 vwCl (xtys G) U ∧ (∀ w ∈ lw_tbl, xbk w = true → va_Nw w U) ∧ G.2.1.size = G.1 ∧
  (∀ (k : Nat) (e : va_E), G.2.2.2.2.2[k]? = some e → ∃ (N : Nat) (f : Nat → Int32) (cell : Cell), e = .inl (0, N, .inl f) ∧ G.2.1[G.2.2.1 k]? = some cell ∧ U.isArrayOf cell .int ∧ cell.vm ≠ .unknown ∧ (N ≤ cell.slots.size ∧ cell.slots.size.toInt32 = Int32.ofNat N) ∧ ∀ j, j < N → cell.slots[j]? = some (.int (f j))) ∧
  va_Z "SkinLoads$Skin" "ROW_STEPS" "[I" (.ref (G.2.2.1 1)) (fun q => G.1 ≤ q) U G.2.1 ∧ va_Z "SkinLoads$Skin" "COLUMN_STEPS" "[I" (.ref (G.2.2.1 2)) (fun q => G.1 ≤ q) U G.2.1 ∧
  va_Nc "SkinLoads$Bar" "SkinLoads$Flat" U ∧ va_Nc "SkinLoads$Bar" "SkinLoads$Bent" U ∧ va_Nc "SkinLoads$Flat" "SkinLoads$Bent" U
theorem xarr_spec {t : FieldType} {s : State} (h : (Cond.arrayOver (.array t)).before #[] s = true) : ∃ (comp c : ClassId) (k : Class), s.vm.findClass (FieldType.array t).toString = some comp ∧ (s.vm.classes.findIdx? fun (x : Class) => match x.kind with | .array component _ => component == comp | _ => false) = some c ∧ s.vm.classes[c]? = some k ∧ k.kind = .array comp (.array t) ∧ s.vm.findClass ("[" ++ (FieldType.array t).toString) = some c := arrayOverA_spec h
theorem xarr_moved {t : FieldType} {u U : State} (hvm : u.vm.Alike U.vm) (h : va_Nw (.arrayOver (.array t)) u) : va_Nw (.arrayOver (.array t)) U := by
  obtain ⟨comp, c, k, h1, h2, h3, h4, h5⟩ := xarr_spec h
  obtain ⟨k', hk', he⟩ := hvm.2.2 _ _ h3
  have hi : (U.vm.classes.findIdx? fun (x : Class) => match x.kind with | .array component _ => component == comp | _ => false) = some c := by
    have e1 := va_idx_bare U.vm comp
    have e2 := va_idx_bare u.vm comp
    have e3 : U.vm.bare = u.vm.bare := by first | exact hvm.bare_eq | exact hvm.bare_eq.symm
    rw [e3] at e1
    exact e1.symm.trans (e2.trans h2)
  have hkind : k'.kind = .array comp (.array t) := by rw [he]; exact h4
  have f1 : U.vm.findClass (FieldType.array t).toString = some comp := by rw [hvm.findClass]; exact h1
  have f2 : U.vm.findClass ("[" ++ (FieldType.array t).toString) = some c := by rw [hvm.findClass]; exact h5
  unfold va_Nw Cond.before Cond.holds
  simp only [Cond.value]
  rw [f1, Option.bind_some]
  refine (congrArg (fun o : Option Nat => (o.bind (fun c => (U.vm.classes[c]?).map fun (k : Class) => match k.kind with | .array _ ty => decide (ty = FieldType.array t) && decide (U.vm.findClass ("[" ++ (FieldType.array t).toString) = some c) | _ => false) == some true)) hi).trans ?_
  simp [hk', hkind, f2]
theorem xbk_warm {w : Cond} (hw : xbk w = true) {s U : State} (hW : s.WarmedH U.vm) (h : va_Nw w s) : va_Nw w U := by
  unfold xbk at hw
  split at hw
  · exact va_Nw.warmF hW h
  · exact va_Nw.warmM hW h
  · exact va_Nw.warmC hW h
  · exact va_AO.moved hW.alike h
  · exact xarr_moved hW.alike h
  · cases hw
theorem xW.moved {G : xG} {s U : State} (hW : s.WarmedH U.vm) (h : xW G s) : xW G U := by
  obtain ⟨h1, h2, h3, h4, h5, h6, h7, h8, h9⟩ := h
  refine ⟨va_K.moved hW.alike h1, fun w hw hb => xbk_warm hb hW (h2 w hw hb), h3, fun k e he => ?_, va_Z.moved hW.alike h5, va_Z.moved hW.alike h6, va_Nc.moved hW.alike h7, va_Nc.moved hW.alike h8, va_Nc.moved hW.alike h9⟩
  obtain ⟨N, f, cell, q1, q2, q3, q4⟩ := h4 k e he
  exact ⟨N, f, cell, q1, q2, State.isArrayOf_alike hW.alike q3, q4⟩
/-- the locals -/
def xlv (G : xG) (nL : Nat) (ls : Array Slot) (lv : xL) : Prop := ls.size = nL ∧ lv.length = nL ∧ lv_wf ls ∧ ∀ (i : Nat) (v : Value), lv[i]? = some (some v) → ls[i]? = some (.val (xeV G v))
theorem xeV_cat (G : xG) (v : Value) : (xeV G v).category = v.category := by cases v <;> rfl
def xas (G : xG) (lv : xL) : List (Nat × Value) := (List.range lv.length).filterMap (fun i => match lv[i]? with | some (some v) => some (i, xeV G v) | _ => none)
theorem xas_mem {G : xG} {lv : xL} {q : Nat × Value} : q ∈ xas G lv ↔ ∃ v, lv[q.1]? = some (some v) ∧ q.2 = xeV G v := by
  unfold xas
  rw [List.mem_filterMap]
  constructor
  · rintro ⟨i, -, h⟩
    split at h
    next v hv =>
      cases h
      exact ⟨v, hv, rfl⟩
    next => cases h
  · rintro ⟨v, h1, h2⟩
    refine ⟨q.1, List.mem_range.mpr (List.getElem?_eq_some_iff.mp h1).1, ?_⟩
    rw [h1]
    show some (q.1, xeV G v) = some q
    rw [← h2]
theorem xlv.has {G : xG} {nL : Nat} {ls : Array Slot} {lv : xL} (h : xlv G nL ls lv) : lv_has ls nL (xas G lv) := by
  obtain ⟨h1, h2, h3, h4⟩ := h
  refine ⟨h1, h3, fun q hq => ?_⟩
  obtain ⟨v, q1, q2⟩ := xas_mem.mp hq
  rw [q2]
  exact h4 _ _ q1
theorem xnone_len (lv : xL) (i : Nat) : (xnone lv i).length = lv.length := by
  unfold xnone
  split
  · rfl
  · split <;> simp
theorem xnone_get {lv : xL} {i j : Nat} {v : Value} (h : (xnone lv i)[j]? = some (some v)) : lv[j]? = some (some v) ∧ ¬ (j + 1 = i ∧ v.category = 2) := by
  unfold xnone at h
  split at h
  · exact ⟨h, by omega⟩
  next k =>
    have key : ∀ w : Value, lv[k]? = some (some w) → (lv.set k none)[j]? = some (some v) → lv[j]? = some (some v) ∧ ¬ (j + 1 = k + 1 ∧ v.category = 2) := by
      intro w hw hs
      by_cases q : j = k
      · subst q
        rw [List.getElem?_set_self (List.getElem?_eq_some_iff.mp hw).1] at hs
        cases hs
      · rw [List.getElem?_set_ne (fun z => q z.symm)] at hs
        exact ⟨hs, by omega⟩
    split at h
    next hw => exact key _ hw h
    next hw => exact key _ hw h
    next n1 n2 =>
      refine ⟨h, fun ⟨q1, q2⟩ => ?_⟩
      have q3 : j = k := by omega
      subst q3
      cases v with
      | long x => exact n1 x h
      | double x => exact n2 x h
      | _ => cases q2
theorem xlv.st1 {G : xG} {nL : Nat} {ls' : Array Slot} {lv : xL} {i : Nat} {v : Value} (hl : lv.length = nL) (hi : i < nL) (h : lv_has ls' nL ((i, xeV G v) :: (xas G lv).filter (fun q => !(q.1 == i) && !(q.1 + 1 == i && q.2.category == 2)))) : xlv G nL ls' (xst1 lv i v) := by
  obtain ⟨h1, h2, h3⟩ := h
  have hn := xnone_len lv i
  refine ⟨h1, by unfold xst1; rw [List.length_set, hn, hl], h2, fun j w hj => ?_⟩
  unfold xst1 at hj
  by_cases q : j = i
  · subst q
    rw [List.getElem?_set_self (by omega)] at hj
    cases hj
    exact h3 (j, xeV G v) List.mem_cons_self
  · rw [List.getElem?_set_ne (fun z => q z.symm)] at hj
    obtain ⟨g1, g2⟩ := xnone_get hj
    refine h3 (j, xeV G w) (List.mem_cons_of_mem _ (List.mem_filter.mpr ⟨xas_mem.mpr ⟨w, g1, rfl⟩, ?_⟩))
    simp only [xeV_cat, Bool.and_eq_true, Bool.not_eq_true', beq_eq_false_iff_ne, ne_eq, Bool.and_eq_false_iff]
    refine ⟨q, ?_⟩
    by_cases z : j + 1 = i
    · exact Or.inr (fun z2 => g2 ⟨z, z2⟩)
    · exact Or.inl z
theorem xlv.st2 {G : xG} {nL : Nat} {ls' : Array Slot} {lv : xL} {i : Nat} {v : Value} (hl : lv.length = nL) (hi : i + 1 < nL) (h : lv_has ls' nL ((i, xeV G v) :: (xas G lv).filter (fun q => !(q.1 == i) && (!(q.1 == i + 1) && !(q.1 + 1 == i && q.2.category == 2))))) : xlv G nL ls' (xst2 lv i v) := by
  obtain ⟨h1, h2, h3⟩ := h
  have hn := xnone_len lv i
  refine ⟨h1, by unfold xst2; rw [List.length_set, List.length_set, hn, hl], h2, fun j w hj => ?_⟩
  unfold xst2 at hj
  by_cases q1 : j = i + 1
  · subst q1
    rw [List.getElem?_set_self (by rw [List.length_set]; omega)] at hj
    cases hj
  · rw [List.getElem?_set_ne (fun z => q1 z.symm)] at hj
    by_cases q : j = i
    · subst q
      rw [List.getElem?_set_self (by omega)] at hj
      cases hj
      exact h3 (j, xeV G v) List.mem_cons_self
    · rw [List.getElem?_set_ne (fun z => q z.symm)] at hj
      obtain ⟨g1, g2⟩ := xnone_get hj
      refine h3 (j, xeV G w) (List.mem_cons_of_mem _ (List.mem_filter.mpr ⟨xas_mem.mpr ⟨w, g1, rfl⟩, ?_⟩))
      simp only [xeV_cat, Bool.and_eq_true, Bool.not_eq_true', beq_eq_false_iff_ne, ne_eq, Bool.and_eq_false_iff]
      refine ⟨q, q1, ?_⟩
      by_cases z : j + 1 = i
      · exact Or.inr (fun z2 => g2 ⟨z, z2⟩)
      · exact Or.inl z
theorem xslots_args (G : xG) : ∀ (as : List Value) (k j : Nat) (v : Value), (xslots as)[j]? = some (some v) → (k + j, xeV G v) ∈ lv_args k (as.map (xeV G))
  | [], k, j, v, h => by simp [xslots] at h
  | a :: as, k, j, v, h => by
    have ih := xslots_args G as
    have one : ∀ b : Value, b.category = 1 → xslots (b :: as) = some b :: xslots as := by
      intro b hb
      cases b <;> first | rfl | (simp [Value.category] at hb)
    have two : ∀ b : Value, b.category = 2 → xslots (b :: as) = some b :: none :: xslots as := by
      intro b hb
      cases b <;> first | rfl | (simp [Value.category] at hb)
    rcases lv_cat a with hc | hc
    · rw [one a hc] at h
      simp only [List.map_cons, lv_args, xeV_cat, hc]
      cases j with
      | zero => cases h; exact List.mem_cons_self
      | succ j =>
        refine List.mem_cons_of_mem _ ?_
        have := ih (k + 1) j v h
        rw [show k + (j + 1) = k + 1 + j by omega]
        simpa using this
    · rw [two a hc] at h
      simp only [List.map_cons, lv_args, xeV_cat, hc]
      match j, h with
      | 0, h => cases h; exact List.mem_cons_self
      | 1, h => cases h
      | j + 2, h =>
        refine List.mem_cons_of_mem _ ?_
        have := ih (k + 2) j v h
        rw [show k + (j + 2) = k + 2 + j by omega]
        simpa using this
theorem xslots_len (G : xG) : ∀ as : List Value, (lg_sl (as.map (xeV G))).length = (xslots as).length := by
  intro as
  induction as with
  | nil => rfl
  | cons a as ih =>
    cases a <;> simp_all [lg_sl, xslots, xeV, Value.category]
theorem xlv.entry (G : xG) (as : List Value) {nL : Nat} (h : (xslots as).length ≤ nL) : xlv G nL ((lg_sl (as.map (xeV G)) ++ List.replicate (nL - (lg_sl (as.map (xeV G))).length) Slot.unset).toArray) (xent nL as) := by
  have hl := lv_entry (as.map (xeV G)) (n := nL) (by rw [xslots_len]; exact h)
  refine ⟨hl.1, by unfold xent; rw [List.length_append, List.length_replicate]; omega, hl.2.1, fun i v hi => ?_⟩
  unfold xent at hi
  by_cases q : i < (xslots as).length
  · rw [List.getElem?_append_left q] at hi
    have h1 := xslots_args G as 0 i v hi
    rw [Nat.zero_add] at h1
    exact hl.2.2 _ h1
  · rw [List.getElem?_append_right (by omega)] at hi
    have := List.eq_of_mem_replicate (List.mem_of_getElem? hi)
    cases this
/-- what holds all through a method's body -/
def xCx (G : xG) (own : String) (cc : ByteArray) (nL : Nat) (nm : String) (rt : Option FieldType) (p : Program) (s : State) (m : MethodId) (args : Array Value) (meth : Method) (c : Code) : Prop :=
  p.tables.exec = Jvm.exec ∧ c.code = cc ∧ c.maxLocals = nL ∧ s.vm.findClass own = some m.cls ∧ (∀ w ∈ xgw, w.before args s = true) ∧ meth.locks = false ∧ (nm = "<init>" → meth.name = "<init>") ∧ meth.sig.returnType = rt ∧ xW G s
def xPW (G : xG) (own : String) (cc : ByteArray) (nL : Nat) (nm : String) (rt : Option FieldType) (R : Room) (Qf : List Frame → Array Value → State → State → Prop) (pc : Nat) (lv : xL) (st : List Value) (hp : xH) (k n : Nat) : Prop :=
  ∀ (p : Program) (l : Launch) (e : Env) (s : State) (m : MethodId) (args : Array Value) (below : List Frame) (meth : Method) (c : Code), xCx G own cc nL nm rt p s m args meth c → ∀ (ls : Array Slot) (H : Heap) (locs : List Loc), xlv G nL ls lv → xRel G hp H → (∀ q ∈ locs, G.1 ≤ q.base) → W p l e R s m args below meth c H locs k n (Qf below args s) (F0 m pc ls (st.map (xeV G)))
