/-! rows of rows are made -/
theorem xouter (c : ClassId) (N h0 : Nat) : ∀ i : Nat, Jvm.Free.Multi.outerC c N h0 i = arrV c N (fun j => va_rf (if j < i then some (h0 + 1 + j) else none))
  | 0 => by
    show ({ cls := c, slots := Array.replicate N .null, vm := .none } : Cell) = _
    rw [arrV_new]
    refine congrArg (arrV c N) (funext fun j => ?_)
    simp [va_rf]
  | i + 1 => by
    show (Jvm.Free.Multi.outerC c N h0 i).setSlot i (.ref (h0 + 1 + i)) = _
    rw [xouter c N h0 i, arrV_store]
    refine congrArg (arrV c N) (funext fun j => ?_)
    by_cases e : j = i
    · subst e
      simp [updV, va_rf]
    · by_cases h : j < i
      · simp [updV, e, h, Nat.lt_succ_of_lt h]
      · simp [updV, e, h, show ¬ j < i + 1 by omega]
theorem xRel.pushN {G : xG} {hp : xH} {H F : Heap} (h : xRel G hp H) (e1 e2 : va_E) (N : Nat) (ht : xtot hp + N < 160) (hz : F.size = H.size + 1 + N) (h1 : va_at G.2.2.2.1 vwCl (H.size, xeE G e1) F) (h2 : ∀ j, j < N → va_at G.2.2.2.1 vwCl (H.size + 1 + j, xeE G e2) F) (ho : ∀ q : Nat, q < H.size → F[q]? = H[q]?) : xRel G (xpushN (xpush hp e1) e2 N) F ∧ xad G (xfr (xtot hp)) = H.size := by
  have hx : ∀ (m q : Nat), q < m → m ≤ F.size → (F.extract 0 m)[q]? = F[q]? := by
    intro m q hq hm
    rw [Array.getElem?_extract]
    simp
    omega
  have hs : ∀ m : Nat, m ≤ F.size → (F.extract 0 m).size = m := by
    intro m hm
    rw [Array.size_extract]
    omega
  have first := h.push (e := e1) (H1 := F.extract 0 (H.size + 1)) (by omega) (hs _ (by omega)) (h1.kept (hx _ _ (by show H.size < _; omega) (by omega))) (fun q hq => by rw [hx _ _ (by omega) (by omega)]; exact ho q hq)
  have key : ∀ j, j ≤ N → xRel G (xpushN (xpush hp e1) e2 j) (F.extract 0 (H.size + 1 + j)) ∧ xtot (xpushN (xpush hp e1) e2 j) = xtot hp + 1 + j := by
    intro j
    induction j with
    | zero => exact fun _ => ⟨first.1, (xpush_spec h.2.2.1 (by omega) e1).1⟩
    | succ j ih =>
      intro hj
      obtain ⟨i1, i2⟩ := ih (by omega)
      have hsz := hs (H.size + 1 + j) (by omega)
      have nxt := i1.push (e := e2) (H1 := F.extract 0 (H.size + 1 + j + 1)) (by omega) (by rw [hs _ (by omega), hsz]) (by rw [hsz]; exact (h2 j (by omega)).kept (hx _ _ (by show H.size + 1 + j < _; omega) (by omega))) (fun q hq => by rw [hsz] at hq; rw [hx _ _ (by omega) (by omega), hx _ _ hq (by omega)])
      exact ⟨nxt.1, by
        have := (xpush_spec i1.2.2.1 (by omega) e2).1
        show xtot (xpush (xpushN (xpush hp e1) e2 j) e2) = _
        omega⟩
  have last := (key N (Nat.le_refl _)).1
  have hF : F.extract 0 (H.size + 1 + N) = F := by
    rw [← hz]
    exact Array.extract_size
  rw [hF] at last
  exact ⟨last, first.2⟩
theorem xs_mna {G : xG} {own : String} {cc : ByteArray} {nL : Nat} {nm : String} {rt : Option FieldType} {R : Room} {Qf : List Frame → Array Value → State → State → Prop} {pc : Nat} {lv : xL} {st : List Value} {hp : xH} {k n : Nat} {i a : Nat} {x y : Int32}
    (ha : (a = 3 ∧ Cond.classLink own i "[[I" ∈ xgw ∧ Cond.arrayOver (.array .int) ∈ lw_tbl ∧ Cond.arrayClass .int ∈ xgw) ∨ (a = 4 ∧ Cond.classLink own i "[[J" ∈ xgw ∧ Cond.arrayOver (.array .long) ∈ lw_tbl ∧ Cond.arrayClass .long ∈ xgw))
    (hx : ¬ x < 0) (hx2 : x.toNatClampNeg < 1024) (hy : ¬ y < 0) (hy2 : y.toNatClampNeg < 1024) (ht : xtot hp + x.toNatClampNeg < 160) (hk : k + (1 + x.toNatClampNeg) ≤ R.cells) (hn : n + (x.toNatClampNeg + x.toNatClampNeg * y.toNatClampNeg) ≤ R.slots) (hd : decode cc pc = .ok (.multianewarray i 2, 4))
    (K : xPW G own cc nL nm rt R Qf (pc + 4) lv (.ref (xfr (xtot hp)) :: st) (xpushN (xpush hp (.inl (a, x.toNatClampNeg, .inr (.inr (.inr (.inr (fun i => if i < x.toNatClampNeg then some (xfr (xtot hp + 1 + i)) else none))))))) (.inl (a - 3, xz (a - 3) y.toNatClampNeg)) x.toNatClampNeg) (k + 1 + x.toNatClampNeg) (n + x.toNatClampNeg + x.toNatClampNeg * y.toNatClampNeg)) : xPW G own cc nL nm rt R Qf pc lv (.int y :: .int x :: st) hp k n := by
  intro p l e s m args below meth c C0 ls H locs hl hR hf
  have hW := C0.2.2.2.2.2.2.2.2
  have hts : ∀ w ∈ xgw, w.before args s = true := C0.2.2.2.2.1
  have go : ∀ t : FieldType, Cond.classLink own i ("[" ++ (FieldType.array t).toString) ∈ xgw → Cond.arrayOver (.array t) ∈ lw_tbl → Cond.arrayClass t ∈ xgw → componentBytes t ≤ 8 → fits t (defaultValue t) = true → (defaultValue t).isDefault = true → s.vm.findClass (FieldType.array t).toString = some (G.2.2.2.2.1 (a - 3)) → s.vm.findClass ("[" ++ (FieldType.array t).toString) = some (G.2.2.2.2.1 a) → (∀ cA : ClassId, Jvm.Free.Multi.innerC cA y.toNatClampNeg (defaultValue t) = vp_cell cA (xeA G (xz (a - 3) y.toNatClampNeg))) → W p l e R s m args below meth c H locs k n (Qf below args s) (F0 m pc ls ((Value.int y :: Value.int x :: st).map (xeV G))) := by
    intro t w1 w2 w3 hcb hfd hdd hc3 hc4 hz
    intro T hT Xs
    obtain ⟨vm₁, cA, comp, -, fA, fC, hO, -, X', step⟩ := Xs.multianewarray2F C0.1 C0.2.2.2.1 (hts _ w1) (show (Cond.arrayOver (.array t)).before args s = true from hW.2.1 _ w2 rfl) (hts _ w3) (g := F0 m pc ls (.int y :: .int x :: st.map (xeV G))) rfl (by rw [C0.2.1]; exact hd) rfl hx hy (by omega) (by have := Nat.mul_le_mul (Nat.le_of_lt hy2) hcb; omega) (by omega) hfd hdd hk hn
    have ec : comp = G.2.2.2.2.1 (a - 3) := Option.some.inj (fC.symm.trans hc3)
    subst ec
    have ea : cA = G.2.2.2.2.1 a := Option.some.inj (fA.symm.trans hc4)
    subst ea
    generalize hF : Jvm.Free.Multi.fill (T.setVm vm₁) (G.2.2.2.2.1 a) (G.2.2.2.2.1 (a - 3)) x.toNatClampNeg y.toNatClampNeg (defaultValue t) x.toNatClampNeg = F at X' step
    have hTh : (T.setVm vm₁).heap = H := hT
    obtain ⟨f1, f2, -, -⟩ := Jvm.Free.Multi.fill_facts (T.setVm vm₁) (G.2.2.2.2.1 a) (G.2.2.2.2.1 (a - 3)) x.toNatClampNeg y.toNatClampNeg (defaultValue t) x.toNatClampNeg
    rw [hF, hTh] at f1 f2
    have hold : ∀ q : Nat, q < H.size → F.heap[q]? = H[q]? := fun q hq => by
      have := Jvm.Free.Multi.fill_old (T.setVm vm₁) (G.2.2.2.2.1 a) (G.2.2.2.2.1 (a - 3)) x.toNatClampNeg y.toNatClampNeg (defaultValue t) (a := q) (by rw [hTh]; exact hq) x.toNatClampNeg
      rw [hF, hTh] at this
      exact this
    have hrow : ∀ j : Nat, j < x.toNatClampNeg → F.heap[H.size + 1 + j]? = some (vp_cell (G.2.2.2.2.1 (a - 3)) (xeA G (xz (a - 3) y.toNatClampNeg))) := fun j hj => by
      have := Jvm.Free.Multi.fill_inner (T.setVm vm₁) (G.2.2.2.2.1 a) (G.2.2.2.2.1 (a - 3)) x.toNatClampNeg y.toNatClampNeg (defaultValue t) x.toNatClampNeg j hj
      rw [hF, hTh, hz] at this
      exact this
    have hout : Jvm.Free.Multi.outerC (G.2.2.2.2.1 a) x.toNatClampNeg H.size x.toNatClampNeg = vp_cell (G.2.2.2.2.1 a) (xeA G (x.toNatClampNeg, .inr (.inr (.inr (.inr (fun i => if i < x.toNatClampNeg then some (xfr (xtot hp + 1 + i)) else none)))))) := by
      rw [xouter]
      show _ = arrV (G.2.2.2.2.1 a) x.toNatClampNeg (fun j => va_rf ((if j < x.toNatClampNeg then some (xfr (xtot hp + 1 + j)) else none).map (xad G)))
      refine congrArg (arrV _ _) (funext fun j => ?_)
      by_cases hj : j < x.toNatClampNeg
      · obtain ⟨g1, g2⟩ := xfr_off (xtot hp + 1 + j) (by omega)
        simp only [hj, if_true, Option.map_some]
        rw [xad_lt g1, g2, hR.2.1]
        congr 2
        omega
      · simp only [hj, if_false, Option.map_none]
    rw [hout] at f2
    obtain ⟨hR1, had⟩ := hR.pushN (F := F.heap) (.inl (a, x.toNatClampNeg, .inr (.inr (.inr (.inr (fun i => if i < x.toNatClampNeg then some (xfr (xtot hp + 1 + i)) else none)))))) (.inl (a - 3, xz (a - 3) y.toNatClampNeg)) x.toNatClampNeg ht f1 f2 hrow hold
    obtain ⟨t9, a9, b9⟩ := K p l e s m args below meth c C0 ls F.heap locs hl hR1 hf F rfl X'
    refine ⟨t9, step t9 ?_, b9⟩
    have e : T.heap.size = xad G (xfr (xtot hp)) := by rw [had, hT]
    rw [e]
    exact a9
  rcases ha with ⟨rfl, w1, w2, w3⟩ | ⟨rfl, w1, w2, w3⟩
  · refine go .int (by rw [show "[" ++ (FieldType.array .int).toString = "[[I" by decide +kernel]; exact w1) w2 w3 (by decide) (by decide +kernel) (by decide +kernel) (hW.1.2 0 _ rfl).2 (hW.1.2 3 _ rfl).2 (fun cA => ?_)
    show ({ cls := cA, slots := Array.replicate _ _, vm := .none } : Cell) = _
    rw [arrV_new]
    rfl
  · refine go .long (by rw [show "[" ++ (FieldType.array .long).toString = "[[J" by decide +kernel]; exact w1) w2 w3 (by decide) (by decide +kernel) (by decide +kernel) (hW.1.2 1 _ rfl).2 (hW.1.2 4 _ rfl).2 (fun cA => ?_)
    show ({ cls := cA, slots := Array.replicate _ _, vm := .none } : Cell) = _
    rw [arrV_new]
    rfl
