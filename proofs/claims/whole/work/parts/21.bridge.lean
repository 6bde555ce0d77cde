/-! THE CLAIM OUT OF ONE WALK OF THE LAW'S BODY. Your part is whole_start (and what it stands on); all else here is the same for every law, but numbers. -/
def R_law : String := "SkinLoadsLaw"
def lw_P (b : Addr) (xs : List Int32) (args : Array Value) (s : State) : Prop := args = #[.ref b] ∧ s.IntsAt b xs ∧ xs.length ≤ 2560 ∧ (Jvm.Cond.and given_1 narrow_1).before args s = true
def lw_Q (_ : Array Value) (s : State) (o : Outcome) (t : State) : Prop := o = .returned (some (.int 1)) ∧ Framed s o t [] 600000 7302250
def lw_Z (below : List Frame) (a : Array Value) (s : State) : State → Prop := fun t => ∃ o, t.status = .running ∧ Ended t below o ∧ lw_Q a s o t
/-- the law's own end, with 1 on the stack, nothing written that was there before, its room as the claim has it -/
theorem lw_ret {p : Program} {l : Launch} {e : Env} {s : State} {m : MethodId} {below : List Frame} {meth : Method} {c : Code} {b : Nat} (hx : p.tables.exec = Jvm.exec) (hb : c.code = code) (hr : meth.sig.returnType = ret) (hlocks : meth.locks = false) {pc : Nat} {H : Heap} {ls : Array Slot} (hdg : decode code pc = .ok (.ireturn, 1)) : W p l e room_1 s m #[Value.ref b] below meth c H [] 600000 7302250 (lw_Z below #[Value.ref b] s) (F0 m pc ls [.int 1]) := by
  intro T hT X
  obtain ⟨fs, hret, hrun, hended, hW, hframe⟩ := X.leave (v := some (.int 1)) (hlocks := hlocks) (fun h => by rw [hr] at h; cases h)
  have hmeth' : T.vm.method? m = some meth := X.method'
  refine ⟨T.setFrames fs, ?_, .returned (some (.int 1)), hrun, hended, rfl, ⟨_, rfl⟩, hW, hframe⟩
  jvm_step X.here [X.here.top, hx, hb, hdg, hmeth', hr, ret, narrow_b1]
  (try refine ⟨rfl, ?_⟩); (try refine ⟨rfl, ?_⟩)
  first | (intro acts; rw [hret _ acts rfl rfl rfl]) | rw [hret _ _ rfl rfl rfl]
  exact Steps.refl _
/-- what holds at the law's entry: the machine, the code, the tables' words (any of lw_tbl by 'hts w (by decide +kernel)'), the script of L ints xs at the cell b, what the Statement gives of the start (any of its parts by flat_of_before) -/
def lw_At (p : Program) (s : State) (m : MethodId) (meth : Method) (c : Code) (b L : Nat) (xs : Nat → Int32) : Prop :=
  p.tables.exec = Jvm.exec ∧ c.code = code ∧ meth.sig.returnType = ret ∧ c.maxLocals = 4 ∧ s.vm.findClass R_law = some m.cls ∧ (∀ w ∈ lw_tbl, w.before #[Value.ref b] s = true) ∧ va_X b L xs s s.heap ∧ b < s.heap.size ∧ meth.locks = false ∧ (Jvm.Cond.and given_1 narrow_1).before #[Value.ref b] s = true
theorem xin_tbl : ∀ w ∈ xgw, w ∈ lw_tbl := fun w h => (List.mem_filter.mp h).1
def xsp (b r q : Nat) (k : Nat) : Nat := match k with
  | 0 => b
  | 1 => r
  | _ => q
def xdA (c0 c1 c2 c3 c4 c5 : ClassId) (k : Nat) : ClassId := match k with
  | 0 => c0 | 1 => c1 | 2 => c2 | 3 => c3 | 4 => c4 | _ => c5
set_option maxRecDepth 100000 in
theorem xok0 (L : Nat) (xs : Nat → Int32) : xok [[], [], [], [], [], [], [], [], [], xr9 L xs] := by
  refine ⟨rfl, fun r reg hr h => ?_⟩
  match r, hr, h with
  | 0, _, h => cases h; rfl
  | 1, _, h => cases h; rfl
  | 2, _, h => cases h; rfl
  | 3, _, h => cases h; rfl
  | 4, _, h => cases h; rfl
  | 5, _, h => cases h; rfl
  | 6, _, h => cases h; rfl
  | 7, _, h => cases h; rfl
  | 8, _, h => cases h; rfl
theorem xget0 (L : Nat) (xs : Nat → Int32) (a : Nat) (e : va_E) (ha : a < 9216) (h : xget [[], [], [], [], [], [], [], [], [], xr9 L xs] a = some e) : False := by
  obtain ⟨reg, h1, h2⟩ := xget_spec h
  have hr : a / 1024 < 9 := by omega
  generalize a / 1024 = r at h1 hr
  match r, hr, h1 with
  | 0, _, h1 => cases h1; simp at h2
  | 1, _, h1 => cases h1; simp at h2
  | 2, _, h1 => cases h1; simp at h2
  | 3, _, h1 => cases h1; simp at h2
  | 4, _, h1 => cases h1; simp at h2
  | 5, _, h1 => cases h1; simp at h2
  | 6, _, h1 => cases h1; simp at h2
  | 7, _, h1 => cases h1; simp at h2
  | 8, _, h1 => cases h1; simp at h2
set_option maxRecDepth 100000 in
set_option maxHeartbeats 4000000 in
/-- the world at the law's start -/
theorem xworld {args : Array Value} {s : State} {b L : Nat} {xs : Nat → Int32} (hts : ∀ w ∈ lw_tbl, w.before args s = true) (hX : va_X b L xs s s.heap) (hgv : (Jvm.Cond.and given_1 narrow_1).before args s = true) : ∃ G : xG, G.1 = s.heap.size ∧ G.2.1 = s.heap ∧ G.2.2.1 0 = b ∧ G.2.2.2.2.2 = xr9 L xs ∧ xW G s := by
  obtain ⟨c0, iS0, hKn0⟩ := u_known (C := RX0) (T := TX0) (N := 6) (n := 6) hts xin0 (hts (.instantiable RX0 6) (List.mem_of_getElem? (i := 737) (by decide +kernel)))
  obtain ⟨c1, iS1, hKn1⟩ := u_known (C := RX1) (T := TX1) (N := 6) (n := 6) hts xin1 (hts (.instantiable RX1 6) (List.mem_of_getElem? (i := 725) (by decide +kernel)))
  obtain ⟨c2, iS2, hKn2⟩ := u_known (C := RX2) (T := TX2) (N := 12) (n := 12) hts xin2 (hts (.instantiable RX2 12) (List.mem_of_getElem? (i := 112) (by decide +kernel)))
  obtain ⟨c3, iS3, hKn3⟩ := u_known (C := RX3) (T := TX3) (N := 6) (n := 6) hts xin3 (hts (.instantiable RX3 6) (List.mem_of_getElem? (i := 686) (by decide +kernel)))
  obtain ⟨c4, iS4, hKn4⟩ := u_known (C := RX4) (T := TX4) (N := 15) (n := 15) hts xin4 (hts (.instantiable RX4 15) (List.mem_of_getElem? (i := 231) (by decide +kernel)))
  obtain ⟨c5, iS5, hKn5⟩ := u_known (C := RX5) (T := TX5) (N := 8) (n := 8) hts xin5 (hts (.instantiable RX5 8) (List.mem_of_getElem? (i := 158) (by decide +kernel)))
  obtain ⟨c6, iS6, hKn6⟩ := u_known (C := RX6) (T := TX6) (N := 3) (n := 3) hts xin6 (hts (.instantiable RX6 3) (List.mem_of_getElem? (i := 386) (by decide +kernel)))
  obtain ⟨c7, iS7, hKn7⟩ := u_known (C := RX7) (T := TX7) (N := 4) (n := 4) hts xin7 (hts (.instantiable RX7 4) (List.mem_of_getElem? (i := 367) (by decide +kernel)))
  obtain ⟨c8, iS8, hKn8⟩ := u_known (C := RX8) (T := TX8) (N := 6) (n := 6) hts xin8 (hts (.instantiable RX8 6) (List.mem_of_getElem? (i := 342) (by decide +kernel)))
  obtain ⟨c9, iS9, hKn9⟩ := u_known (C := RX9) (T := TX9) (N := 8) (n := 8) hts xin9 (hts (.instantiable RX9 8) (List.mem_of_getElem? (i := 251) (by decide +kernel)))
  obtain ⟨c10, iS10, hKn10⟩ := u_known (C := RX10) (T := TX10) (N := 1) (n := 1) hts xin10 (hts (.instantiable RX10 1) (List.mem_of_getElem? (i := 237) (by decide +kernel)))
  obtain ⟨c11, iS11, hKn11⟩ := u_known (C := RX11) (T := TX11) (N := 7) (n := 7) hts xin11 (hts (.instantiable RX11 7) (List.mem_of_getElem? (i := 104) (by decide +kernel)))
  obtain ⟨c12, iS12, hKn12⟩ := u_known (C := RX12) (T := TX12) (N := 43) (n := 43) hts xin12 (hts (.instantiable RX12 43) (List.mem_of_getElem? (i := 1209) (by decide +kernel)))
  obtain ⟨dC, dI, hKc⟩ : ∃ (dC : Nat → ClassId) (dI : Nat → Nat → Nat), ∀ (k : Nat) (q : vw_C), vwCl[k]? = some q → u_Kn s q.1 q.2.1 q.2.2 (dC k) (dI k) := by
    refine ⟨fun k => if k = 0 then c0 else if k = 1 then c1 else if k = 2 then c2 else if k = 3 then c3 else if k = 4 then c4 else if k = 5 then c5 else if k = 6 then c6 else if k = 7 then c7 else if k = 8 then c8 else if k = 9 then c9 else if k = 10 then c10 else if k = 11 then c11 else c12, fun k => if k = 0 then iS0 else if k = 1 then iS1 else if k = 2 then iS2 else if k = 3 then iS3 else if k = 4 then iS4 else if k = 5 then iS5 else if k = 6 then iS6 else if k = 7 then iS7 else if k = 8 then iS8 else if k = 9 then iS9 else if k = 10 then iS10 else if k = 11 then iS11 else iS12, ?_⟩
    intro k q hq
    match k, hq with
    | 0, hq => cases hq; exact hKn0
    | 1, hq => cases hq; exact hKn1
    | 2, hq => cases hq; exact hKn2
    | 3, hq => cases hq; exact hKn3
    | 4, hq => cases hq; exact hKn4
    | 5, hq => cases hq; exact hKn5
    | 6, hq => cases hq; exact hKn6
    | 7, hq => cases hq; exact hKn7
    | 8, hq => cases hq; exact hKn8
    | 9, hq => cases hq; exact hKn9
    | 10, hq => cases hq; exact hKn10
    | 11, hq => cases hq; exact hKn11
    | 12, hq => cases hq; exact hKn12
    | k + 13, hq => simp [vwCl] at hq
  obtain ⟨a0, k0, m0, p0, q0, r0⟩ := Cond.arrayClass_spec (hts (.arrayClass .int) (List.mem_of_getElem? (i := 156) (by decide +kernel)))
  obtain ⟨a1, k1, m1, p1, q1, r1⟩ := Cond.arrayClass_spec (hts (.arrayClass .long) (List.mem_of_getElem? (i := 229) (by decide +kernel)))
  obtain ⟨a2, k2, m2, p2, q2, r2⟩ := Cond.arrayClass_spec (hts (.arrayClass .boolean) (List.mem_of_getElem? (i := 340) (by decide +kernel)))
  obtain ⟨m3, a3, k3, -, -, q3, r3, p3⟩ := xarr_spec (t := .int) (hts (.arrayOver (.array .int)) (List.mem_of_getElem? (i := 118) (by decide +kernel)))
  obtain ⟨m4, a4, k4, -, -, q4, r4, p4⟩ := xarr_spec (t := .long) (hts (.arrayOver (.array .long)) (List.mem_of_getElem? (i := 164) (by decide +kernel)))
  obtain ⟨m5, a5, k5, f5, -, q5, r5, p5⟩ := Cond.arrayOver_spec (hts (.arrayOver (.object "SkinLoads$Bar")) (List.mem_of_getElem? (i := 248) (by decide +kernel)))
  have hs := flat_of_before _ hgv
  have hA : ∀ q : Nat, q < s.heap.size → ¬ (fun q : Nat => s.heap.size ≤ q) q := fun q h1 h2 => Nat.not_le.mpr h1 h2
  have hini : (Cond.initialized "SkinLoads$Skin").before args s = true := hts _ (List.mem_of_getElem? (i := 95) (by decide +kernel))
  obtain ⟨t1, e1, T1⟩ := va_Tof (tm := .static "SkinLoads$Skin" "ROW_STEPS" "[I") (ty := .int) (N := 8) (f := fun j => .int (xrowS j)) (A := fun q : Nat => s.heap.size ≤ q) (by decide) (hs _ (by decide +kernel)) (va_eqt (hs (.eq (.length (.static "SkinLoads$Skin" "ROW_STEPS" "[I")) (.int 8)) (by decide +kernel))) (fun j hj => by
    match j, hj with
    | 0, _ => exact va_eqt (hs (.eq (.elem (.static "SkinLoads$Skin" "ROW_STEPS" "[I") (.int 0)) (.int (xrowS 0))) (by decide +kernel))
    | 1, _ => exact va_eqt (hs (.eq (.elem (.static "SkinLoads$Skin" "ROW_STEPS" "[I") (.int 1)) (.int (xrowS 1))) (by decide +kernel))
    | 2, _ => exact va_eqt (hs (.eq (.elem (.static "SkinLoads$Skin" "ROW_STEPS" "[I") (.int 2)) (.int (xrowS 2))) (by decide +kernel))
    | 3, _ => exact va_eqt (hs (.eq (.elem (.static "SkinLoads$Skin" "ROW_STEPS" "[I") (.int 3)) (.int (xrowS 3))) (by decide +kernel))
    | 4, _ => exact va_eqt (hs (.eq (.elem (.static "SkinLoads$Skin" "ROW_STEPS" "[I") (.int 4)) (.int (xrowS 4))) (by decide +kernel))
    | 5, _ => exact va_eqt (hs (.eq (.elem (.static "SkinLoads$Skin" "ROW_STEPS" "[I") (.int 5)) (.int (xrowS 5))) (by decide +kernel))
    | 6, _ => exact va_eqt (hs (.eq (.elem (.static "SkinLoads$Skin" "ROW_STEPS" "[I") (.int 6)) (.int (xrowS 6))) (by decide +kernel))
    | 7, _ => exact va_eqt (hs (.eq (.elem (.static "SkinLoads$Skin" "ROW_STEPS" "[I") (.int 7)) (.int (xrowS 7))) (by decide +kernel))) hA
  obtain ⟨t2, e2, T2⟩ := va_Tof (tm := .static "SkinLoads$Skin" "COLUMN_STEPS" "[I") (ty := .int) (N := 8) (f := fun j => .int (xcolS j)) (A := fun q : Nat => s.heap.size ≤ q) (by decide) (hs _ (by decide +kernel)) (va_eqt (hs (.eq (.length (.static "SkinLoads$Skin" "COLUMN_STEPS" "[I")) (.int 8)) (by decide +kernel))) (fun j hj => by
    match j, hj with
    | 0, _ => exact va_eqt (hs (.eq (.elem (.static "SkinLoads$Skin" "COLUMN_STEPS" "[I") (.int 0)) (.int (xcolS 0))) (by decide +kernel))
    | 1, _ => exact va_eqt (hs (.eq (.elem (.static "SkinLoads$Skin" "COLUMN_STEPS" "[I") (.int 1)) (.int (xcolS 1))) (by decide +kernel))
    | 2, _ => exact va_eqt (hs (.eq (.elem (.static "SkinLoads$Skin" "COLUMN_STEPS" "[I") (.int 2)) (.int (xcolS 2))) (by decide +kernel))
    | 3, _ => exact va_eqt (hs (.eq (.elem (.static "SkinLoads$Skin" "COLUMN_STEPS" "[I") (.int 3)) (.int (xcolS 3))) (by decide +kernel))
    | 4, _ => exact va_eqt (hs (.eq (.elem (.static "SkinLoads$Skin" "COLUMN_STEPS" "[I") (.int 4)) (.int (xcolS 4))) (by decide +kernel))
    | 5, _ => exact va_eqt (hs (.eq (.elem (.static "SkinLoads$Skin" "COLUMN_STEPS" "[I") (.int 5)) (.int (xcolS 5))) (by decide +kernel))
    | 6, _ => exact va_eqt (hs (.eq (.elem (.static "SkinLoads$Skin" "COLUMN_STEPS" "[I") (.int 6)) (.int (xcolS 6))) (by decide +kernel))
    | 7, _ => exact va_eqt (hs (.eq (.elem (.static "SkinLoads$Skin" "COLUMN_STEPS" "[I") (.int 7)) (.int (xcolS 7))) (by decide +kernel))) hA
  have Z1 := va_Zref (A := fun q : Nat => s.heap.size ≤ q) (hts (.laysStatic "SkinLoads$Skin" "ROW_STEPS" "[I") (List.mem_of_getElem? (i := 999) (by decide +kernel))) hini e1 hA
  have Z2 := va_Zref (A := fun q : Nat => s.heap.size ≤ q) (hts (.laysStatic "SkinLoads$Skin" "COLUMN_STEPS" "[I") (List.mem_of_getElem? (i := 1001) (by decide +kernel))) hini e2 hA
  refine ⟨(s.heap.size, s.heap, xsp b t1 t2, (dC, dI), xdA a0 a1 a2 a3 a4 a5, xr9 L xs), rfl, rfl, rfl, rfl, ⟨hKc, fun k q hq => ?_⟩, fun w hw hb => ?_, rfl, fun k e he => ?_, Z1, Z2, va_Nc.of (hs _ (by decide +kernel)), va_Nc.of (hs _ (by decide +kernel)), va_Nc.of (hs _ (by decide +kernel))⟩
  · match k, hq with
    | 0, hq => cases hq; exact ⟨fun N z => ⟨(fun q hq => by cases hq), k0, q0, m0, r0⟩, p0⟩
    | 1, hq => cases hq; exact ⟨fun N z => ⟨(fun q hq => by cases hq), k1, q1, m1, r1⟩, p1⟩
    | 2, hq => cases hq; exact ⟨fun N z => ⟨(fun q hq => by cases hq), k2, q2, m2, r2⟩, p2⟩
    | 3, hq => cases hq; exact ⟨fun N z => ⟨(fun q hq => by cases hq), k3, q3, m3, r3⟩, p3⟩
    | 4, hq => cases hq; exact ⟨fun N z => ⟨(fun q hq => by cases hq), k4, q4, m4, r4⟩, p4⟩
    | 5, hq => cases hq; exact ⟨fun N z => ⟨(fun q hq => by cases hq), k5, q5, m5, r5⟩, k5, m5, q5, r5, f5, p5⟩
    | k + 6, hq => simp [xtys] at hq
  · have h0 := hts w hw
    unfold xbk at hb
    split at hb
    · exact va_Nw.of rfl h0
    · exact va_Nw.of rfl h0
    · exact va_Nw.of rfl h0
    · exact h0
    · exact h0
    · cases hb
  · match k, he with
    | 0, he =>
      cases he
      obtain ⟨scr, g1, g2, g3, g4, g5⟩ := hX
      exact ⟨L, xs, scr, rfl, g1, g2, g3, ⟨by omega, by rw [g4]⟩, g5⟩
    | 1, he =>
      cases he
      obtain ⟨cell, g1, g2, g3, g4, g5, g6, -⟩ := T1
      exact ⟨8, xrowS, cell, rfl, g1, g2, g3, ⟨g4, g5⟩, g6⟩
    | 2, he =>
      cases he
      obtain ⟨cell, g1, g2, g3, g4, g5, g6, -⟩ := T2
      exact ⟨8, xcolS, cell, rfl, g1, g2, g3, ⟨g4, g5⟩, g6⟩
    | k + 3, he => simp [xr9] at he
set_option maxHeartbeats 4000000 in
theorem whole_of (hX : xClaim) {p : Program} {e : Env} {s : State} {m : MethodId} {below : List Frame} {meth : Method} {c : Code} (l : Launch) {b L : Nat} {xs : Nat → Int32} (hL : L ≤ 2560) (C0 : lw_At p s m meth c b L xs) : W p l e room_1 s m #[Value.ref b] below meth c s.heap [] 0 0 (lw_Z below #[Value.ref b] s) (entryFrame m ([Value.ref b] : List Value).toArray 4) := by
  obtain ⟨hx, hb, hr, hml, hown, hts, hXs, hbl, hlocks, hgv⟩ := id C0
  obtain ⟨G, g1, g2, g3, g4, hW⟩ := xworld hts hXs hgv
  obtain ⟨hp, hrun, ht, hsl⟩ := hX L xs hL
  have main := hrun (xok0 L xs)
  obtain ⟨-, -, -, h4⟩ := main
  have hC : xCx G "SkinLoadsLaw" code 4 "law" (some .boolean) p s m #[Value.ref b] meth c := ⟨hx, hb, hml, hown, fun w hw => hts w (xin_tbl w hw), hlocks, fun h => absurd h (by decide +kernel), hr, hW⟩
  have had : xeV G (.ref 9216) = .ref b := by
    show Value.ref (xad G 9216) = _
    unfold xad
    rw [if_neg (by omega)]
    exact congrArg Value.ref g3
  have hR : xRel G [[], [], [], [], [], [], [], [], [], xr9 L xs] s.heap := ⟨fun a e ha hg => (xget0 L xs a e ha hg).elim, by rw [g1]; rfl, xok0 L xs, fun q _ => by rw [g2], by rw [g4]; rfl⟩
  have hl := xlv.entry G [.ref 9216] (nL := 4) (by decide)
  rw [show ([Value.ref 9216] : List Value).map (xeV G) = [.ref b] by rw [List.map_cons, had]; rfl] at hl
  have key := h4 G room_1 0 0 (by decide) (by decide) (by show 0 + (xtot hp - 0) ≤ 600000; omega) (by show 0 + (xsl hp - 0) ≤ 7302250; omega) p l e s m #[Value.ref b] below meth c hC _ s.heap [] hl hR (fun q hq => absurd hq List.not_mem_nil)
  rw [lg_entry_eq]
  intro T hT X
  obtain ⟨t, k1, o, k2, k3, ⟨k4, -⟩, Lc, k5, k6⟩ := key T hT X
  refine ⟨t, k1, o, k2, k3, k4, k5.1, k5.2.1, k5.2.2.weaken (fun x hx hlt => absurd hlt (Nat.not_lt.mpr (by rw [← g1]; exact k6 x hx))) (by show 0 + (xtot hp - 0) ≤ 600000; omega) (by show 0 + (xsl hp - 0) ≤ 7302250; omega)⟩
