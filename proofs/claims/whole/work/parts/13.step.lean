/-! a step of the pure machine is a step of the machine -/
theorem xks_mem : ∀ {ks : List (Nat × Nat)} {i k : Nat}, xks ks i = some k → (i, k) ∈ ks
  | [], _, _, h => by cases h
  | q :: l, i, k, h => by
    unfold xks at h
    split at h
    next e =>
      cases h
      subst e
      exact List.mem_cons_self
    next => exact List.mem_cons_of_mem _ (xks_mem h)
theorem xkK {ref n d : String} {ws : List Nat} {ci k : Nat} (h : xokK ref n d ws (ci, k) = true) : ∃ (C : String) (T : u_T) (N : Nat), vwCl[ci]? = some (C, T, N) ∧ k < N ∧ (T k).2.1 = n ∧ (T k).2.2.1 = d ∧ ((T k).1 = ref ∨ Cond.sameField ref (T k).1 (T k).2.1 (T k).2.2.1 ∈ xgw) := by
  unfold xokK at h
  split at h
  next C T N hc =>
    rw [Bool.and_eq_true, decide_eq_true_eq, Bool.or_eq_true, decide_eq_true_eq] at h
    obtain ⟨⟨h1, h2, h3⟩, h4⟩ := h
    refine ⟨C, T, N, hc, h1, h2, h3, ?_⟩
    rcases h4 with h4 | h4
    · exact Or.inl h4
    · refine Or.inr ?_
      have := xw_mem h4
      dsimp only at h2 h3 this
      rw [h2, h3]
      exact this
  next => cases h
def xsz (e : va_E) : Nat := match e with
  | .inl (_, N, _) => N
  | .inr (ci, _) => xnf ci
def xsl (hp : xH) : Nat := ((hp.take 9).map (fun r => (r.map xsz).sum)).sum
theorem xsum_at : ∀ (k : Nat) (l : List Nat) (i x y : Nat), l[i]? = some x → i < k → ((l.set i y).take k).sum + x = (l.take k).sum + y := by
  intro k
  induction k with
  | zero => intro l i x y _ h; omega
  | succ k ih =>
    intro l i x y h hk
    cases l with
    | nil => simp at h
    | cons z l =>
      cases i with
      | zero =>
        simp at h
        subst h
        simp
        omega
      | succ i =>
        simp at h
        have := ih l i x y (by simpa using h) (by omega)
        simp only [List.set_cons_succ, List.take_succ_cons, List.sum_cons]
        omega
theorem xsum_set2 (l : List Nat) (i x y : Nat) (h : l[i]? = some x) : (l.set i y).sum + x = l.sum + y := by
  have hi := (List.getElem?_eq_some_iff.mp h).1
  have := xsum_at (l.length) l i x y h hi
  rw [List.take_of_length_le (by simp), List.take_of_length_le (by simp)] at this
  exact this
theorem xsl_map (hp : xH) : xsl hp = ((hp.map (fun r => (r.map xsz).sum)).take 9).sum := by
  unfold xsl
  rw [List.map_take]
theorem xsl_set {hp : xH} {a : Nat} {e0 e : va_E} (h : xget hp a = some e0) (hs : xsz e = xsz e0) : xsl (xset hp a e) = xsl hp := by
  obtain ⟨reg, h1, h2⟩ := xget_spec h
  have hr : ((reg.set (a % 1024) e).map xsz).sum = (reg.map xsz).sum := by
    have := xsum_set2 (reg.map xsz) (a % 1024) (xsz e0) (xsz e) (by rw [List.getElem?_map, h2]; rfl)
    rw [List.map_set]
    omega
  rw [xsl_map, xsl_map, xset_eq h1, List.map_set, hr]
  congr 2
  apply List.ext_getElem?
  intro i
  by_cases hi : i = a / 1024
  · subst hi
    rw [List.getElem?_set_self (by simpa using (List.getElem?_eq_some_iff.mp h1).1), List.getElem?_map, h1]
    rfl
  · rw [List.getElem?_set_ne (fun q => hi q.symm)]
theorem xsl_push {hp : xH} (hk : xok hp) (ht : xtot hp < 160) (e : va_E) : xsl (xpush hp e) = xsl hp + xsz e := by
  obtain ⟨s1, s2, s3⟩ := xreg_spec _ ht
  obtain ⟨reg, hreg⟩ : ∃ reg, hp[xreg (xtot hp)]? = some reg := ⟨_, List.getElem?_eq_getElem (by rw [hk.1]; omega)⟩
  rw [xsl_map, xsl_map, xpush_eq hreg, List.map_set]
  have := xsum_at 9 (hp.map (fun r => (r.map xsz).sum)) (xreg (xtot hp)) (reg.map xsz).sum ((reg ++ [e]).map xsz).sum (by rw [List.getElem?_map, hreg]; rfl) s1
  have h2 : ((reg ++ [e]).map xsz).sum = (reg.map xsz).sum + xsz e := by simp
  omega
theorem xpushN_spec {hp : xH} (hk : xok hp) (e : va_E) : ∀ N, xtot hp + N ≤ 160 → xok (xpushN hp e N) ∧ xtot (xpushN hp e N) = xtot hp + N ∧ xsl (xpushN hp e N) = xsl hp + N * xsz e
  | 0, _ => ⟨hk, rfl, by simp [xpushN]⟩
  | N + 1, h => by
    obtain ⟨i1, i2, i3⟩ := xpushN_spec hk e N (by omega)
    obtain ⟨p1, p2, -⟩ := xpush_spec i1 (by omega) e
    refine ⟨p2, ?_, ?_⟩
    · show xtot (xpush (xpushN hp e N) e) = _
      omega
    · show xsl (xpush (xpushN hp e N) e) = _
      rw [xsl_push i1 (by omega), i3, Nat.add_one_mul]
      omega
def xGo (own : String) (cc : ByteArray) (nL : Nat) (nm : String) (rt : Option FieldType) (pc : Nat) (lv : xL) (st : List Value) (hp : xH) (s : xS) : Prop := xok hp → xok s.2.2.2 ∧ xtot hp ≤ xtot s.2.2.2 ∧ xsl hp ≤ xsl s.2.2.2 ∧ ∀ (G : xG) (R : Room) (Qf : List Frame → Array Value → State → State → Prop) (k n : Nat), 1 ≤ R.frames → 40 ≤ R.locals → k + (xtot s.2.2.2 - xtot hp) ≤ R.cells → n + (xsl s.2.2.2 - xsl hp) ≤ R.slots → xPW G own cc nL nm rt R Qf s.1 s.2.1 s.2.2.1 s.2.2.2 (k + (xtot s.2.2.2 - xtot hp)) (n + (xsl s.2.2.2 - xsl hp)) → xPW G own cc nL nm rt R Qf pc lv st hp k n
section XGo
variable {own : String} {cc : ByteArray} {nL : Nat} {nm : String} {rt : Option FieldType} {pc pc' : Nat} {lv lv' : xL} {st st' : List Value} {hp : xH}
theorem xGo.same (h : ∀ (G : xG) (R : Room) (Qf : List Frame → Array Value → State → State → Prop) (k n : Nat), 1 ≤ R.frames → 40 ≤ R.locals → xPW G own cc nL nm rt R Qf pc' lv' st' hp k n → xPW G own cc nL nm rt R Qf pc lv st hp k n) : xGo own cc nL nm rt pc lv st hp (pc', lv', st', hp) := by
  intro hk
  refine ⟨hk, Nat.le_refl _, Nat.le_refl _, fun G R Qf k n h1 h2 _ _ K => h G R Qf k n h1 h2 ?_⟩
  dsimp only at K
  rw [Nat.sub_self, Nat.sub_self] at K
  exact K
theorem xGo.set {o : Nat} {e0 e : va_E} (hg : xget hp o = some e0) (hs : xsz e = xsz e0) (h : ∀ (G : xG) (R : Room) (Qf : List Frame → Array Value → State → State → Prop) (k n : Nat), xPW G own cc nL nm rt R Qf pc' lv' st' (xset hp o e) k n → xPW G own cc nL nm rt R Qf pc lv st hp k n) : xGo own cc nL nm rt pc lv st hp (pc', lv', st', xset hp o e) := by
  intro hk
  refine ⟨xok_of (xlens_set hg e) hk, by dsimp only; rw [xtot_set hg]; exact Nat.le_refl _, by dsimp only; rw [xsl_set hg hs]; exact Nat.le_refl _, fun G R Qf k n h1 h2 _ _ K => h G R Qf k n ?_⟩
  dsimp only at K
  rw [xtot_set hg, xsl_set hg hs, Nat.sub_self, Nat.sub_self] at K
  exact K
theorem xGo.push {e : va_E} (ht : xtot hp < 160) (h : ∀ (G : xG) (R : Room) (Qf : List Frame → Array Value → State → State → Prop) (k n : Nat), k + 1 ≤ R.cells → n + xsz e ≤ R.slots → xPW G own cc nL nm rt R Qf pc' lv' st' (xpush hp e) (k + 1) (n + xsz e) → xPW G own cc nL nm rt R Qf pc lv st hp k n) : xGo own cc nL nm rt pc lv st hp (pc', lv', st', xpush hp e) := by
  intro hk
  obtain ⟨p1, p2, -⟩ := xpush_spec hk ht e
  have p3 := xsl_push hk ht e
  refine ⟨p2, by dsimp only; omega, by dsimp only; omega, fun G R Qf k n h1 h2 h3 h4 K => ?_⟩
  dsimp only at K h3 h4
  rw [show xtot (xpush hp e) - xtot hp = 1 by omega] at K h3
  rw [show xsl (xpush hp e) - xsl hp = xsz e by omega] at K h4
  exact h G R Qf k n h3 h4 K
end XGo
theorem xkF {own : String} {i : Nat} {ks : List (Nat × Nat)} {ws : List Nat} (h : xokF own i ks ws = true) {ci k : Nat} (hk : xks ks ci = some k) : ∃ (C : String) (T : u_T) (N : Nat) (ref host : String), vwCl[ci]? = some (C, T, N) ∧ k < N ∧ (Cond.fieldLink own i ref (T k).2.1 (T k).2.2.1 ∈ xgw ∨ Cond.fieldLinkNest own i ref (T k).2.1 (T k).2.2.1 host ∈ lw_tbl) ∧ ((T k).1 = ref ∨ Cond.sameField ref (T k).1 (T k).2.1 (T k).2.2.1 ∈ xgw) := by
  have hm := xks_mem hk
  unfold xokF at h
  split at h
  next j hj =>
    split at h
    next o j2 ref nn d hw =>
      rw [Bool.and_eq_true, decide_eq_true_eq] at h
      obtain ⟨⟨rfl, rfl⟩, h2⟩ := h
      obtain ⟨C, T, N, g1, g2, g3, g4, g5⟩ := xkK (List.all_eq_true.mp h2 _ hm)
      exact ⟨C, T, N, ref, "", g1, g2, Or.inl (by rw [g3, g4]; exact xgw_of (List.mem_of_getElem? hw) rfl), g5⟩
    next o j2 ref nn d host hw =>
      rw [Bool.and_eq_true, decide_eq_true_eq] at h
      obtain ⟨⟨rfl, rfl⟩, h2⟩ := h
      obtain ⟨C, T, N, g1, g2, g3, g4, g5⟩ := xkK (List.all_eq_true.mp h2 _ hm)
      exact ⟨C, T, N, ref, host, g1, g2, Or.inr (by rw [g3, g4]; exact List.mem_of_getElem? hw), g5⟩
    next => cases h
  next => cases h
theorem xkP {own nm : String} {i : Nat} {ks : List (Nat × Nat)} {ws : List Nat} (h : xokP own nm i ks ws = true) {ci k : Nat} (hk : xks ks ci = some k) : ∃ (C : String) (T : u_T) (N : Nat) (ref : String), vwCl[ci]? = some (C, T, N) ∧ k < N ∧ Cond.fieldLink own i ref (T k).2.1 (T k).2.2.1 ∈ xgw ∧ ((T k).1 = ref ∨ Cond.sameField ref (T k).1 (T k).2.1 (T k).2.2.1 ∈ xgw) ∧ ((T k).2.2.2 = false ∨ ((T k).2.2.2 = true ∧ nm = "<init>" ∧ (T k).1 = own)) := by
  have hm := xks_mem hk
  unfold xokP at h
  split at h
  next j hj =>
    split at h
    next o j2 ref nn d hw =>
      rw [Bool.and_eq_true, decide_eq_true_eq] at h
      obtain ⟨⟨rfl, rfl⟩, h2⟩ := h
      have h3 := List.all_eq_true.mp h2 _ hm
      rw [Bool.and_eq_true] at h3
      obtain ⟨C, T, N, g1, g2, g3, g4, g5⟩ := xkK h3.1
      have h4 := h3.2
      dsimp only at h4
      rw [g1] at h4
      exact ⟨C, T, N, ref, g1, g2, by rw [g3, g4]; exact xgw_of (List.mem_of_getElem? hw) rfl, g5, of_decide_eq_true h4⟩
    next => cases h
  next => cases h
set_option maxHeartbeats 4000000 in
theorem xstep {own : String} {cc : ByteArray} {nL : Nat} {nm : String} {rt : Option FieldType} {pc : Nat} {lv : xL} {st : List Value} {hp : xH} {ins : Instr} {nx a : Nat} {ks : List (Nat × Nat)} {ws : List Nat} {v : Value} {s : xS}
    (hd0 : decode cc pc = .ok (ins, nx - pc)) (hres : xres own nm rt ins pc nx a ks ws v = true) (h : x2 ins nx a ks v lv st hp = some (.inl s)) : xGo own cc nL nm rt pc lv st hp s := by
  cases ins with
  | iconst i =>
    obtain ⟨hn, hv⟩ := of_decide_eq_true hres
    have hd : decode cc pc = .ok (.iconst i, 1) := by
      rw [show nx - pc = 1 by omega] at hd0
      exact hd0
    unfold x2 at h
    dsimp only at h
    cases h
    subst hn hv
    exact xGo.same fun G R Qf k n _ _ K => xs_iconst hd K
  | bipush i =>
    obtain ⟨hn, hv⟩ := of_decide_eq_true hres
    have hd : decode cc pc = .ok (.bipush i, 2) := by
      rw [show nx - pc = 2 by omega] at hd0
      exact hd0
    unfold x2 at h
    dsimp only at h
    cases h
    subst hn hv
    exact xGo.same fun G R Qf k n _ _ K => xs_bipush hd K
  | sipush i =>
    obtain ⟨hn, hv⟩ := of_decide_eq_true hres
    have hd : decode cc pc = .ok (.sipush i, 3) := by
      rw [show nx - pc = 3 by omega] at hd0
      exact hd0
    unfold x2 at h
    dsimp only at h
    cases h
    subst hn hv
    exact xGo.same fun G R Qf k n _ _ K => xs_sipush hd K
  | lconst i =>
    obtain ⟨hn, hv⟩ := of_decide_eq_true hres
    have hd : decode cc pc = .ok (.lconst i, 1) := by
      rw [show nx - pc = 1 by omega] at hd0
      exact hd0
    unfold x2 at h
    dsimp only at h
    cases h
    subst hn hv
    exact xGo.same fun G R Qf k n _ _ K => xs_lconst hd K
  | ldc i =>
    unfold xres at hres
    dsimp only at hres
    rw [Bool.and_eq_true, decide_eq_true_eq] at hres
    obtain ⟨hn, hw⟩ := hres
    have hd : decode cc pc = .ok (.ldc i, 2) := by
      rw [show nx - pc = 2 by omega] at hd0
      exact hd0
    split at hw
    next x =>
      unfold x2 at h
      dsimp only at h
      cases h
      subst hn
      exact xGo.same fun G R Qf k n _ _ K => xs_ldc (xw_mem hw) hd K
    next => cases hw
  | ldc_w i =>
    unfold xres at hres
    dsimp only at hres
    rw [Bool.and_eq_true, decide_eq_true_eq] at hres
    obtain ⟨hn, hw⟩ := hres
    have hd : decode cc pc = .ok (.ldc_w i, 3) := by
      rw [show nx - pc = 3 by omega] at hd0
      exact hd0
    split at hw
    next x =>
      unfold x2 at h
      dsimp only at h
      cases h
      subst hn
      exact xGo.same fun G R Qf k n _ _ K => xs_ldcw (xw_mem hw) hd K
    next => cases hw
  | ldc2_w i =>
    unfold xres at hres
    dsimp only at hres
    rw [Bool.and_eq_true, decide_eq_true_eq] at hres
    obtain ⟨hn, hw⟩ := hres
    have hd : decode cc pc = .ok (.ldc2_w i, 3) := by
      rw [show nx - pc = 3 by omega] at hd0
      exact hd0
    split at hw
    next x =>
      unfold x2 at h
      dsimp only at h
      cases h
      subst hn
      exact xGo.same fun G R Qf k n _ _ K => xs_ldc2 (xw_mem hw) hd K
    next => cases hw
  | aconst_null =>
    have hn := of_decide_eq_true hres
    have hd : decode cc pc = .ok (.aconst_null, 1) := by
      rw [show nx - pc = 1 by omega] at hd0
      exact hd0
    unfold x2 at h
    dsimp only at h
    cases h
    subst hn
    exact xGo.same fun G R Qf k n _ _ K => xs_null hd K
  | iload i =>
    obtain ⟨hn, ha⟩ := of_decide_eq_true hres
    have hd : decode cc pc = .ok (.iload i, 2) := by
      rw [show nx - pc = 2 by omega] at hd0
      exact hd0
    unfold x2 at h
    dsimp only at h
    split at h
    next x hx =>
      cases h
      subst hn ha
      exact xGo.same fun G R Qf k n _ _ K => xs_iload hd hx K
    next => cases h
  | iload_n i =>
    obtain ⟨hn, ha⟩ := of_decide_eq_true hres
    have hd : decode cc pc = .ok (.iload_n i, 1) := by
      rw [show nx - pc = 1 by omega] at hd0
      exact hd0
    unfold x2 at h
    dsimp only at h
    split at h
    next x hx =>
      cases h
      subst hn
      exact xGo.same fun G R Qf k n _ _ K => xs_iload_n hd ha hx K
    next => cases h
  | lload i =>
    obtain ⟨hn, ha⟩ := of_decide_eq_true hres
    have hd : decode cc pc = .ok (.lload i, 2) := by
      rw [show nx - pc = 2 by omega] at hd0
      exact hd0
    unfold x2 at h
    dsimp only at h
    split at h
    next x hx =>
      cases h
      subst hn ha
      exact xGo.same fun G R Qf k n _ _ K => xs_lload hd hx K
    next => cases h
  | lload_n i =>
    obtain ⟨hn, ha⟩ := of_decide_eq_true hres
    have hd : decode cc pc = .ok (.lload_n i, 1) := by
      rw [show nx - pc = 1 by omega] at hd0
      exact hd0
    unfold x2 at h
    dsimp only at h
    split at h
    next x hx =>
      cases h
      subst hn
      exact xGo.same fun G R Qf k n _ _ K => xs_lload_n hd ha hx K
    next => cases h
  | aload i =>
    obtain ⟨hn, ha⟩ := of_decide_eq_true hres
    have hd : decode cc pc = .ok (.aload i, 2) := by
      rw [show nx - pc = 2 by omega] at hd0
      exact hd0
    unfold x2 at h
    dsimp only at h
    split at h
    next x hx =>
      cases h
      subst hn ha
      exact xGo.same fun G R Qf k n _ _ K => xs_aload hd hx K
    next hx =>
      cases h
      subst hn ha
      exact xGo.same fun G R Qf k n _ _ K => xs_aloadN hd hx K
    next => cases h
  | aload_n i =>
    obtain ⟨hn, ha⟩ := of_decide_eq_true hres
    have hd : decode cc pc = .ok (.aload_n i, 1) := by
      rw [show nx - pc = 1 by omega] at hd0
      exact hd0
    unfold x2 at h
    dsimp only at h
    split at h
    next x hx =>
      cases h
      subst hn
      exact xGo.same fun G R Qf k n _ _ K => xs_aload_n hd ha hx K
    next hx =>
      cases h
      subst hn
      exact xGo.same fun G R Qf k n _ _ K => xs_aload_nN hd ha hx K
    next => cases h
  | istore i =>
    obtain ⟨hn, ha⟩ := of_decide_eq_true hres
    have hd : decode cc pc = .ok (.istore i, 2) := by
      rw [show nx - pc = 2 by omega] at hd0
      exact hd0
    unfold x2 at h
    dsimp only at h
    split at h
    · split at h
      next hx =>
        cases h
        subst hn ha
        exact xGo.same fun G R Qf k n _ _ K => xs_istore hd hx K
      next => cases h
    · cases h
  | istore_n i =>
    obtain ⟨hn, ha⟩ := of_decide_eq_true hres
    have hd : decode cc pc = .ok (.istore_n i, 1) := by
      rw [show nx - pc = 1 by omega] at hd0
      exact hd0
    unfold x2 at h
    dsimp only at h
    split at h
    · split at h
      next hx =>
        cases h
        subst hn
        exact xGo.same fun G R Qf k n _ _ K => xs_istore_n hd ha hx K
      next => cases h
    · cases h
  | lstore i =>
    obtain ⟨hn, ha⟩ := of_decide_eq_true hres
    have hd : decode cc pc = .ok (.lstore i, 2) := by
      rw [show nx - pc = 2 by omega] at hd0
      exact hd0
    unfold x2 at h
    dsimp only at h
    split at h
    · split at h
      next hx =>
        cases h
        subst hn ha
        exact xGo.same fun G R Qf k n _ _ K => xs_lstore hd hx K
      next => cases h
    · cases h
  | lstore_n i =>
    obtain ⟨hn, ha⟩ := of_decide_eq_true hres
    have hd : decode cc pc = .ok (.lstore_n i, 1) := by
      rw [show nx - pc = 1 by omega] at hd0
      exact hd0
    unfold x2 at h
    dsimp only at h
    split at h
    · split at h
      next hx =>
        cases h
        subst hn
        exact xGo.same fun G R Qf k n _ _ K => xs_lstore_n hd ha hx K
      next => cases h
    · cases h
  | astore i =>
    obtain ⟨hn, ha⟩ := of_decide_eq_true hres
    have hd : decode cc pc = .ok (.astore i, 2) := by
      rw [show nx - pc = 2 by omega] at hd0
      exact hd0
    unfold x2 at h
    dsimp only at h
    split at h
    · split at h
      next hx =>
        cases h
        subst hn ha
        exact xGo.same fun G R Qf k n _ _ K => xs_astore hd hx K
      next => cases h
    · split at h
      next hx =>
        cases h
        subst hn ha
        exact xGo.same fun G R Qf k n _ _ K => xs_astoreN hd hx K
      next => cases h
    · cases h
  | astore_n i =>
    obtain ⟨hn, ha⟩ := of_decide_eq_true hres
    have hd : decode cc pc = .ok (.astore_n i, 1) := by
      rw [show nx - pc = 1 by omega] at hd0
      exact hd0
    unfold x2 at h
    dsimp only at h
    split at h
    · split at h
      next hx =>
        cases h
        subst hn
        exact xGo.same fun G R Qf k n _ _ K => xs_astore_n hd ha hx K
      next => cases h
    · split at h
      next hx =>
        cases h
        subst hn
        exact xGo.same fun G R Qf k n _ _ K => xs_astore_nN hd ha hx K
      next => cases h
    · cases h
  | iinc i z =>
    obtain ⟨hn, ha, hv⟩ := of_decide_eq_true hres
    have hd : decode cc pc = .ok (.iinc i z, 3) := by
      rw [show nx - pc = 3 by omega] at hd0
      exact hd0
    unfold x2 at h
    dsimp only at h
    subst hv
    split at h
    next x c hx hc =>
      cases hc
      cases h
      subst hn ha
      exact xGo.same fun G R Qf k n _ _ K => xs_iinc hd hx K
    next => cases h
  | iadd =>
    have hn := of_decide_eq_true hres
    have hd : decode cc pc = .ok (.iadd, 1) := by
      rw [show nx - pc = 1 by omega] at hd0
      exact hd0
    unfold x2 xb2 at h
    dsimp only at h
    split at h
    · cases h
      subst hn
      exact xGo.same fun G R Qf k n _ _ K => xs_iadd hd K
    · cases h
  | isub =>
    have hn := of_decide_eq_true hres
    have hd : decode cc pc = .ok (.isub, 1) := by
      rw [show nx - pc = 1 by omega] at hd0
      exact hd0
    unfold x2 xb2 at h
    dsimp only at h
    split at h
    · cases h
      subst hn
      exact xGo.same fun G R Qf k n _ _ K => xs_isub hd K
    · cases h
  | imul =>
    have hn := of_decide_eq_true hres
    have hd : decode cc pc = .ok (.imul, 1) := by
      rw [show nx - pc = 1 by omega] at hd0
      exact hd0
    unfold x2 xb2 at h
    dsimp only at h
    split at h
    · cases h
      subst hn
      exact xGo.same fun G R Qf k n _ _ K => xs_imul hd K
    · cases h
  | iand =>
    have hn := of_decide_eq_true hres
    have hd : decode cc pc = .ok (.iand, 1) := by
      rw [show nx - pc = 1 by omega] at hd0
      exact hd0
    unfold x2 xb2 at h
    dsimp only at h
    split at h
    · cases h
      subst hn
      exact xGo.same fun G R Qf k n _ _ K => xs_iand hd K
    · cases h
  | ior =>
    have hn := of_decide_eq_true hres
    have hd : decode cc pc = .ok (.ior, 1) := by
      rw [show nx - pc = 1 by omega] at hd0
      exact hd0
    unfold x2 xb2 at h
    dsimp only at h
    split at h
    · cases h
      subst hn
      exact xGo.same fun G R Qf k n _ _ K => xs_ior hd K
    · cases h
  | ixor =>
    have hn := of_decide_eq_true hres
    have hd : decode cc pc = .ok (.ixor, 1) := by
      rw [show nx - pc = 1 by omega] at hd0
      exact hd0
    unfold x2 xb2 at h
    dsimp only at h
    split at h
    · cases h
      subst hn
      exact xGo.same fun G R Qf k n _ _ K => xs_ixor hd K
    · cases h
  | ishl =>
    have hn := of_decide_eq_true hres
    have hd : decode cc pc = .ok (.ishl, 1) := by
      rw [show nx - pc = 1 by omega] at hd0
      exact hd0
    unfold x2 xb2 at h
    dsimp only at h
    split at h
    · cases h
      subst hn
      exact xGo.same fun G R Qf k n _ _ K => xs_ishl hd K
    · cases h
  | ishr =>
    have hn := of_decide_eq_true hres
    have hd : decode cc pc = .ok (.ishr, 1) := by
      rw [show nx - pc = 1 by omega] at hd0
      exact hd0
    unfold x2 xb2 at h
    dsimp only at h
    split at h
    · cases h
      subst hn
      exact xGo.same fun G R Qf k n _ _ K => xs_ishr hd K
    · cases h
  | iushr =>
    have hn := of_decide_eq_true hres
    have hd : decode cc pc = .ok (.iushr, 1) := by
      rw [show nx - pc = 1 by omega] at hd0
      exact hd0
    unfold x2 xb2 at h
    dsimp only at h
    split at h
    · cases h
      subst hn
      exact xGo.same fun G R Qf k n _ _ K => xs_iushr hd K
    · cases h
  | ladd =>
    have hn := of_decide_eq_true hres
    have hd : decode cc pc = .ok (.ladd, 1) := by
      rw [show nx - pc = 1 by omega] at hd0
      exact hd0
    unfold x2 xl2 at h
    dsimp only at h
    split at h
    · cases h
      subst hn
      exact xGo.same fun G R Qf k n _ _ K => xs_ladd hd K
    · cases h
  | lsub =>
    have hn := of_decide_eq_true hres
    have hd : decode cc pc = .ok (.lsub, 1) := by
      rw [show nx - pc = 1 by omega] at hd0
      exact hd0
    unfold x2 xl2 at h
    dsimp only at h
    split at h
    · cases h
      subst hn
      exact xGo.same fun G R Qf k n _ _ K => xs_lsub hd K
    · cases h
  | lmul =>
    have hn := of_decide_eq_true hres
    have hd : decode cc pc = .ok (.lmul, 1) := by
      rw [show nx - pc = 1 by omega] at hd0
      exact hd0
    unfold x2 xl2 at h
    dsimp only at h
    split at h
    · cases h
      subst hn
      exact xGo.same fun G R Qf k n _ _ K => xs_lmul hd K
    · cases h
  | idiv =>
    have hn := of_decide_eq_true hres
    have hd : decode cc pc = .ok (.idiv, 1) := by
      rw [show nx - pc = 1 by omega] at hd0
      exact hd0
    unfold x2 at h
    dsimp only at h
    split at h
    · split at h
      · cases h
      next hy =>
        cases h
        subst hn
        exact xGo.same fun G R Qf k n _ _ K => xs_idiv hd hy K
    · cases h
  | irem =>
    have hn := of_decide_eq_true hres
    have hd : decode cc pc = .ok (.irem, 1) := by
      rw [show nx - pc = 1 by omega] at hd0
      exact hd0
    unfold x2 at h
    dsimp only at h
    split at h
    · split at h
      · cases h
      next hy =>
        cases h
        subst hn
        exact xGo.same fun G R Qf k n _ _ K => xs_irem hd hy K
    · cases h
  | ldiv =>
    have hn := of_decide_eq_true hres
    have hd : decode cc pc = .ok (.ldiv, 1) := by
      rw [show nx - pc = 1 by omega] at hd0
      exact hd0
    unfold x2 at h
    dsimp only at h
    split at h
    · split at h
      · cases h
      next hy =>
        cases h
        subst hn
        exact xGo.same fun G R Qf k n _ _ K => xs_ldiv hd hy K
    · cases h
  | lrem =>
    have hn := of_decide_eq_true hres
    have hd : decode cc pc = .ok (.lrem, 1) := by
      rw [show nx - pc = 1 by omega] at hd0
      exact hd0
    unfold x2 at h
    dsimp only at h
    split at h
    · split at h
      · cases h
      next hy =>
        cases h
        subst hn
        exact xGo.same fun G R Qf k n _ _ K => xs_lrem hd hy K
    · cases h
  | ineg =>
    have hn := of_decide_eq_true hres
    have hd : decode cc pc = .ok (.ineg, 1) := by
      rw [show nx - pc = 1 by omega] at hd0
      exact hd0
    unfold x2 at h
    dsimp only at h
    split at h
    · cases h
      subst hn
      exact xGo.same fun G R Qf k n _ _ K => xs_ineg hd K
    · cases h
  | lneg =>
    have hn := of_decide_eq_true hres
    have hd : decode cc pc = .ok (.lneg, 1) := by
      rw [show nx - pc = 1 by omega] at hd0
      exact hd0
    unfold x2 at h
    dsimp only at h
    split at h
    · cases h
      subst hn
      exact xGo.same fun G R Qf k n _ _ K => xs_lneg hd K
    · cases h
  | lshl =>
    have hn := of_decide_eq_true hres
    have hd : decode cc pc = .ok (.lshl, 1) := by
      rw [show nx - pc = 1 by omega] at hd0
      exact hd0
    unfold x2 at h
    dsimp only at h
    split at h
    · cases h
      subst hn
      exact xGo.same fun G R Qf k n _ _ K => xs_lshl hd K
    · cases h
  | i2l =>
    have hn := of_decide_eq_true hres
    have hd : decode cc pc = .ok (.i2l, 1) := by
      rw [show nx - pc = 1 by omega] at hd0
      exact hd0
    unfold x2 at h
    dsimp only at h
    split at h
    · cases h
      subst hn
      exact xGo.same fun G R Qf k n _ _ K => xs_i2l hd K
    · cases h
  | l2i =>
    have hn := of_decide_eq_true hres
    have hd : decode cc pc = .ok (.l2i, 1) := by
      rw [show nx - pc = 1 by omega] at hd0
      exact hd0
    unfold x2 at h
    dsimp only at h
    split at h
    · cases h
      subst hn
      exact xGo.same fun G R Qf k n _ _ K => xs_l2i hd K
    · cases h
  | i2b =>
    have hn := of_decide_eq_true hres
    have hd : decode cc pc = .ok (.i2b, 1) := by
      rw [show nx - pc = 1 by omega] at hd0
      exact hd0
    unfold x2 at h
    dsimp only at h
    split at h
    · cases h
      subst hn
      exact xGo.same fun G R Qf k n _ _ K => xs_i2b hd K
    · cases h
  | i2s =>
    have hn := of_decide_eq_true hres
    have hd : decode cc pc = .ok (.i2s, 1) := by
      rw [show nx - pc = 1 by omega] at hd0
      exact hd0
    unfold x2 at h
    dsimp only at h
    split at h
    · cases h
      subst hn
      exact xGo.same fun G R Qf k n _ _ K => xs_i2s hd K
    · cases h
  | lcmp =>
    have hn := of_decide_eq_true hres
    have hd : decode cc pc = .ok (.lcmp, 1) := by
      rw [show nx - pc = 1 by omega] at hd0
      exact hd0
    unfold x2 at h
    dsimp only at h
    split at h
    · cases h
      subst hn
      exact xGo.same fun G R Qf k n _ _ K => xs_lcmp hd K
    · cases h
  | ifCond cd off =>
    obtain ⟨hn, ht⟩ := of_decide_eq_true hres
    have hd : decode cc pc = .ok (.ifCond cd off, 3) := by
      rw [show nx - pc = 3 by omega] at hd0
      exact hd0
    unfold x2 at h
    dsimp only at h
    split at h
    · cases h
      subst hn
      exact xGo.same fun G R Qf k n _ _ K => xs_if hd ht K
    · cases h
  | if_icmp cd off =>
    obtain ⟨hn, ht⟩ := of_decide_eq_true hres
    have hd : decode cc pc = .ok (.if_icmp cd off, 3) := by
      rw [show nx - pc = 3 by omega] at hd0
      exact hd0
    unfold x2 at h
    dsimp only at h
    split at h
    · cases h
      subst hn
      exact xGo.same fun G R Qf k n _ _ K => xs_icmp hd ht K
    · cases h
  | goto off =>
    obtain ⟨hn, ht⟩ := of_decide_eq_true hres
    have hd : decode cc pc = .ok (.goto off, 3) := by
      rw [show nx - pc = 3 by omega] at hd0
      exact hd0
    unfold x2 at h
    dsimp only at h
    cases h
    exact xGo.same fun G R Qf k n _ _ K => xs_goto hd ht K
  | ifnull off =>
    obtain ⟨hn, ht⟩ := of_decide_eq_true hres
    have hd : decode cc pc = .ok (.ifnull off, 3) := by
      rw [show nx - pc = 3 by omega] at hd0
      exact hd0
    unfold x2 at h
    dsimp only at h
    split at h
    · cases h
      subst hn
      exact xGo.same fun G R Qf k n _ _ K => xs_ifnull hd K
    · cases h
      exact xGo.same fun G R Qf k n _ _ K => xs_ifnullN hd ht K
    · cases h
  | ifnonnull off =>
    obtain ⟨hn, ht⟩ := of_decide_eq_true hres
    have hd : decode cc pc = .ok (.ifnonnull off, 3) := by
      rw [show nx - pc = 3 by omega] at hd0
      exact hd0
    unfold x2 at h
    dsimp only at h
    split at h
    · cases h
      exact xGo.same fun G R Qf k n _ _ K => xs_ifnonnull hd ht K
    · cases h
      subst hn
      exact xGo.same fun G R Qf k n _ _ K => xs_ifnonnullN hd K
    · cases h
  | dup =>
    have hn := of_decide_eq_true hres
    have hd : decode cc pc = .ok (.dup, 1) := by
      rw [show nx - pc = 1 by omega] at hd0
      exact hd0
    unfold x2 at h
    dsimp only at h
    split at h
    · cases h
      subst hn
      exact xGo.same fun G R Qf k n _ _ K => xs_dup rfl hd K
    · cases h
      subst hn
      exact xGo.same fun G R Qf k n _ _ K => xs_dup rfl hd K
    · cases h
  | dup2 =>
    have hn := of_decide_eq_true hres
    have hd : decode cc pc = .ok (.dup2, 1) := by
      rw [show nx - pc = 1 by omega] at hd0
      exact hd0
    unfold x2 at h
    dsimp only at h
    split at h
    · cases h
      subst hn
      exact xGo.same fun G R Qf k n _ _ K => xs_dup2_2 rfl hd K
    · cases h
      subst hn
      exact xGo.same fun G R Qf k n _ _ K => xs_dup2_11 rfl rfl hd K
    · cases h
  | pop =>
    have hn := of_decide_eq_true hres
    have hd : decode cc pc = .ok (.pop, 1) := by
      rw [show nx - pc = 1 by omega] at hd0
      exact hd0
    unfold x2 at h
    dsimp only at h
    split at h
    · cases h
      subst hn
      exact xGo.same fun G R Qf k n _ _ K => xs_pop rfl hd K
    · cases h
  | getfield i =>
    unfold xres at hres
    dsimp only at hres
    rw [Bool.and_eq_true, decide_eq_true_eq] at hres
    obtain ⟨hn, hw⟩ := hres
    have hd : decode cc pc = .ok (.getfield i, 3) := by
      rw [show nx - pc = 3 by omega] at hd0
      exact hd0
    unfold x2 at h
    dsimp only at h
    split at h
    · split at h
      next ci fs hg =>
        split at h
        next kf hk =>
          split at h
          next w hv =>
            cases h
            subst hn
            obtain ⟨C, T, N, ref, host, g1, g2, g3, g4⟩ := xkF hw hk
            exact xGo.same fun G R Qf k n _ _ K => xs_get g1 g2 g3 g4 hg hv hd K
          next => cases h
        next => cases h
      next => cases h
    · cases h
  | putfield i =>
    unfold xres at hres
    dsimp only at hres
    rw [Bool.and_eq_true, decide_eq_true_eq] at hres
    obtain ⟨hn, hw⟩ := hres
    have hd : decode cc pc = .ok (.putfield i, 3) := by
      rw [show nx - pc = 3 by omega] at hd0
      exact hd0
    unfold x2 at h
    dsimp only at h
    split at h
    · split at h
      next ci fs hg =>
        split at h
        next kf hk =>
          split at h
          next hc =>
            cases h
            subst hn
            obtain ⟨C, T, N, ref, g1, g2, g3, g4, g5⟩ := xkP hw hk
            exact xGo.set hg rfl fun G R Qf k n K => xs_put g1 g2 g3 g4 g5 hg hc.1 hc.2.2 hd K
          next => cases h
        next => cases h
      next => cases h
    · cases h
  | getstatic i =>
    unfold xres at hres
    dsimp only at hres
    rw [Bool.and_eq_true, decide_eq_true_eq] at hres
    obtain ⟨hn, hw⟩ := hres
    have hd : decode cc pc = .ok (.getstatic i, 3) := by
      rw [show nx - pc = 3 by omega] at hd0
      exact hd0
    unfold x2 at h
    dsimp only at h
    cases h
    subst hn
    rw [Bool.or_eq_true, Bool.and_eq_true, Bool.and_eq_true, decide_eq_true_eq, decide_eq_true_eq] at hw
    have hw2 : (a = 9217 ∧ Cond.fieldLink own i "SkinLoads$Skin" "ROW_STEPS" "[I" ∈ xgw) ∨ (a = 9218 ∧ Cond.fieldLink own i "SkinLoads$Skin" "COLUMN_STEPS" "[I" ∈ xgw) := by
      rcases hw with ⟨q1, q2⟩ | ⟨q1, q2⟩
      · exact Or.inl ⟨q1, xw_mem q2⟩
      · exact Or.inr ⟨q1, xw_mem q2⟩
    exact xGo.same fun G R Qf k n _ _ K => xs_getstatic hw2 hd K
  | iaload =>
    have hn := of_decide_eq_true hres
    have hd : decode cc pc = .ok (.iaload, 1) := by
      rw [show nx - pc = 1 by omega] at hd0
      exact hd0
    unfold x2 at h
    dsimp only at h
    split at h
    · split at h
      next N f hg =>
        split at h
        · cases h
        next hin =>
          cases h
          subst hn
          exact xGo.same fun G R Qf k n _ _ K => xs_iald hin hg hd K
      next => cases h
    · cases h
  | baload =>
    have hn := of_decide_eq_true hres
    have hd : decode cc pc = .ok (.baload, 1) := by
      rw [show nx - pc = 1 by omega] at hd0
      exact hd0
    unfold x2 at h
    dsimp only at h
    split at h
    · split at h
      next N f hg =>
        split at h
        · cases h
        next hin =>
          cases h
          subst hn
          exact xGo.same fun G R Qf k n _ _ K => xs_bald hin hg hd K
      next => cases h
    · cases h
  | laload =>
    have hn := of_decide_eq_true hres
    have hd : decode cc pc = .ok (.laload, 1) := by
      rw [show nx - pc = 1 by omega] at hd0
      exact hd0
    unfold x2 at h
    dsimp only at h
    split at h
    · split at h
      next N f hg =>
        split at h
        · cases h
        next hin =>
          cases h
          subst hn
          exact xGo.same fun G R Qf k n _ _ K => xs_lald hin hg hd K
      next => cases h
    · cases h
  | aaload =>
    have hn := of_decide_eq_true hres
    have hd : decode cc pc = .ok (.aaload, 1) := by
      rw [show nx - pc = 1 by omega] at hd0
      exact hd0
    unfold x2 at h
    dsimp only at h
    split at h
    · split at h
      next c0 N f hg =>
        split at h
        · cases h
        next hin =>
          cases h
          subst hn
          exact xGo.same fun G R Qf k n _ _ K => xs_aald (fun q => hin (by rcases q with q | q; exact Or.inl q; exact Or.inr (Or.inl q))) (Nat.not_lt.mp fun q => hin (Or.inr (Or.inr (Or.inl q)))) (Nat.not_lt.mp fun q => hin (Or.inr (Or.inr (Or.inr q)))) hg hd K
      next => cases h
    · cases h
  | iastore =>
    have hn := of_decide_eq_true hres
    have hd : decode cc pc = .ok (.iastore, 1) := by
      rw [show nx - pc = 1 by omega] at hd0
      exact hd0
    unfold x2 at h
    dsimp only at h
    split at h
    · split at h
      next N f hg =>
        split at h
        · cases h
        next hin =>
          cases h
          subst hn
          exact xGo.set hg rfl fun G R Qf k n K => xs_iast (fun q => hin (by rcases q with q | q; exact Or.inl q; exact Or.inr (Or.inl q))) (Nat.not_le.mp fun q => hin (Or.inr (Or.inr q))) hg hd K
      next => cases h
    · cases h
  | lastore =>
    have hn := of_decide_eq_true hres
    have hd : decode cc pc = .ok (.lastore, 1) := by
      rw [show nx - pc = 1 by omega] at hd0
      exact hd0
    unfold x2 at h
    dsimp only at h
    split at h
    · split at h
      next N f hg =>
        split at h
        · cases h
        next hin =>
          cases h
          subst hn
          exact xGo.set hg rfl fun G R Qf k n K => xs_last (fun q => hin (by rcases q with q | q; exact Or.inl q; exact Or.inr (Or.inl q))) (Nat.not_le.mp fun q => hin (Or.inr (Or.inr q))) hg hd K
      next => cases h
    · cases h
  | bastore =>
    have hn := of_decide_eq_true hres
    have hd : decode cc pc = .ok (.bastore, 1) := by
      rw [show nx - pc = 1 by omega] at hd0
      exact hd0
    unfold x2 at h
    dsimp only at h
    split at h
    · split at h
      next N f hg =>
        split at h
        · cases h
        next hin =>
          cases h
          subst hn
          exact xGo.set hg rfl fun G R Qf k n K => xs_bast (fun q => hin (by rcases q with q | q; exact Or.inl q; exact Or.inr (Or.inl q))) (Classical.byContradiction fun q => hin (Or.inr (Or.inr (Or.inr q)))) (Nat.not_le.mp fun q => hin (Or.inr (Or.inr (Or.inl q)))) hg hd K
      next => cases h
    · cases h
  | aastore =>
    have hn := of_decide_eq_true hres
    have hd : decode cc pc = .ok (.aastore, 1) := by
      rw [show nx - pc = 1 by omega] at hd0
      exact hd0
    unfold x2 at h
    dsimp only at h
    split at h
    · split at h
      next N f z hg hgw =>
        split at h
        · cases h
        next hin =>
          cases h
          subst hn
          exact xGo.set hg rfl fun G R Qf k n K => xs_aast4 (fun q => hin (by rcases q with q | q; exact Or.inl q; exact Or.inr (Or.inl q))) (Nat.not_le.mp fun q => hin (Or.inr (Or.inr (Or.inl q)))) (Nat.not_le.mp fun q => hin (Or.inr (Or.inr (Or.inr q)))) hg hgw hd K
      next N f ci fs hg hgw =>
        split at h
        · cases h
        next hin =>
          cases h
          subst hn
          exact xGo.set hg rfl fun G R Qf k n K => xs_aast5 (fun q => hin (by rcases q with q | q; exact Or.inl q; exact Or.inr (Or.inl q))) (Nat.not_le.mp fun q => hin (Or.inr (Or.inr (Or.inl q)))) (Classical.byContradiction fun q => hin (Or.inr (Or.inr (Or.inr (Or.inr q))))) hg hgw hd K
      next => cases h
    · cases h
  | arraylength =>
    have hn := of_decide_eq_true hres
    have hd : decode cc pc = .ok (.arraylength, 1) := by
      rw [show nx - pc = 1 by omega] at hd0
      exact hd0
    unfold x2 at h
    dsimp only at h
    split at h
    · split at h
      next c0 N z hg =>
        split at h
        · cases h
        next hc =>
          cases h
          subst hn
          exact xGo.same fun G R Qf k n _ _ K => xs_alen (Nat.not_lt.mp hc) hg hd K
      next => cases h
    · cases h
  | new i =>
    unfold xres at hres
    dsimp only at hres
    rw [Bool.and_eq_true, decide_eq_true_eq] at hres
    obtain ⟨hn, hw⟩ := hres
    have hd : decode cc pc = .ok (.new i, 3) := by
      rw [show nx - pc = 3 by omega] at hd0
      exact hd0
    unfold x2 at h
    dsimp only at h
    split at h
    next ht =>
      cases h
      subst hn
      split at hw
      next C T N hc =>
        rw [Bool.and_eq_true, Bool.and_eq_true] at hw
        have hN := (xcl a C T N hc).2.2.2
        refine xGo.push ht fun G R Qf k n h1 h2 K => ?_
        have e : xsz (.inr (a, xdf a)) = N := hN.symm
        rw [e] at h2 K
        exact xs_new hc (xw_mem hw.1.1) (xw_mem hw.1.2) (xw_mem hw.2) ht h1 h2 hd K
      next => cases hw
    next => cases h
  | newarray i =>
    unfold xres at hres
    dsimp only at hres
    rw [Bool.and_eq_true, decide_eq_true_eq] at hres
    obtain ⟨hn, hw⟩ := hres
    have hd : decode cc pc = .ok (.newarray i, 2) := by
      rw [show nx - pc = 2 by omega] at hd0
      exact hd0
    unfold x2 at h
    dsimp only at h
    split at h
    · split at h
      · cases h
      next x r hin =>
        cases h
        subst hn
        have e : xsz (.inl (a, xz a x.toNatClampNeg)) = x.toNatClampNeg := by
          unfold xz
          split <;> rfl
        refine xGo.push (by omega) fun G R Qf k n h1 h2 K => ?_
        rw [e] at h2 K
        refine xs_newa ?_ (fun q => hin (Or.inl q)) (by omega) (by omega) h1 h2 hd K
        rw [Bool.or_eq_true, Bool.or_eq_true, Bool.and_eq_true, Bool.and_eq_true, Bool.and_eq_true, decide_eq_true_eq, decide_eq_true_eq, decide_eq_true_eq] at hw
        rcases hw with (⟨⟨q1, q2⟩, q3⟩ | ⟨⟨q1, q2⟩, q3⟩) | ⟨⟨q1, q2⟩, q3⟩
        · exact Or.inl ⟨q1, q2, xw_mem q3⟩
        · exact Or.inr (Or.inl ⟨q1, q2, xw_mem q3⟩)
        · exact Or.inr (Or.inr ⟨q1, q2, xw_mem q3⟩)
    · cases h
  | anewarray i =>
    unfold xres at hres
    dsimp only at hres
    rw [Bool.and_eq_true, Bool.and_eq_true, decide_eq_true_eq] at hres
    obtain ⟨⟨⟨hn, ha⟩, hw1⟩, hw2⟩ := hres
    have hd : decode cc pc = .ok (.anewarray i, 3) := by
      rw [show nx - pc = 3 by omega] at hd0
      exact hd0
    unfold x2 at h
    dsimp only at h
    split at h
    · split at h
      · cases h
      next x r hin =>
        cases h
        subst hn ha
        refine xGo.push (by omega) fun G R Qf k n h1 h2 K => ?_
        exact xs_anew (xw_mem hw1) (xwb_mem hw2) (fun q => hin (Or.inl q)) (by omega) (by omega) h1 h2 hd K
    · cases h
  | multianewarray i dm =>
    unfold xres at hres
    dsimp only at hres
    rw [Bool.and_eq_true, decide_eq_true_eq] at hres
    obtain ⟨⟨hn, hdm⟩, hw⟩ := hres
    have hd : decode cc pc = .ok (.multianewarray i dm, 4) := by
      rw [show nx - pc = 4 by omega] at hd0
      exact hd0
    subst hdm
    unfold x2 at h
    dsimp only at h
    split at h
    · split at h
      · cases h
      next y x r hin =>
        cases h
        subst hn
        intro hk
        have e1 : xsz (.inl (a, x.toNatClampNeg, .inr (.inr (.inr (.inr (fun i => if i < x.toNatClampNeg then some (xfr (xtot hp + 1 + i)) else none)))))) = x.toNatClampNeg := rfl
        have e2 : xsz (.inl (a - 3, xz (a - 3) y.toNatClampNeg)) = y.toNatClampNeg := by
          unfold xz
          split <;> rfl
        obtain ⟨p1, p2, -⟩ := xpush_spec hk (by omega) (.inl (a, x.toNatClampNeg, .inr (.inr (.inr (.inr (fun i => if i < x.toNatClampNeg then some (xfr (xtot hp + 1 + i)) else none))))))
        have p3 := xsl_push hk (by omega) (.inl (a, x.toNatClampNeg, .inr (.inr (.inr (.inr (fun i => if i < x.toNatClampNeg then some (xfr (xtot hp + 1 + i)) else none))))))
        obtain ⟨q1, q2, q3⟩ := xpushN_spec p2 (.inl (a - 3, xz (a - 3) y.toNatClampNeg)) x.toNatClampNeg (by omega)
        rw [e1] at p3
        rw [e2] at q3
        refine ⟨q1, by dsimp only; omega, by dsimp only; omega, fun G R Qf k n h1 h2 h3 h4 K => ?_⟩
        dsimp only at h3 h4 K
        rw [show k + (xtot (xpushN (xpush hp (.inl (a, x.toNatClampNeg, .inr (.inr (.inr (.inr (fun i => if i < x.toNatClampNeg then some (xfr (xtot hp + 1 + i)) else none))))))) (.inl (a - 3, xz (a - 3) y.toNatClampNeg)) x.toNatClampNeg) - xtot hp) = k + 1 + x.toNatClampNeg by omega] at h3 K
        rw [show n + (xsl (xpushN (xpush hp (.inl (a, x.toNatClampNeg, .inr (.inr (.inr (.inr (fun i => if i < x.toNatClampNeg then some (xfr (xtot hp + 1 + i)) else none))))))) (.inl (a - 3, xz (a - 3) y.toNatClampNeg)) x.toNatClampNeg) - xsl hp) = n + x.toNatClampNeg + x.toNatClampNeg * y.toNatClampNeg by omega] at h4 K
        refine xs_mna ?_ (fun q => hin (Or.inl q)) (by omega) (fun q => hin (Or.inr (Or.inr (Or.inl q)))) (by omega) (by omega) (by omega) (by omega) hd K
        rw [Bool.or_eq_true] at hw
        simp only [Bool.and_eq_true, decide_eq_true_eq] at hw
        rcases hw with ⟨⟨⟨q1, q2⟩, q3⟩, q4⟩ | ⟨⟨⟨q1, q2⟩, q3⟩, q4⟩
        · exact Or.inl ⟨q1, xw_mem q2, xwb_mem q3, xw_mem q4⟩
        · exact Or.inr ⟨q1, xw_mem q2, xwb_mem q3, xw_mem q4⟩
    · cases h
  | instanceof i =>
    unfold xres at hres
    dsimp only at hres
    rw [Bool.and_eq_true, decide_eq_true_eq] at hres
    obtain ⟨hn, hw⟩ := hres
    have hd : decode cc pc = .ok (.instanceof i, 3) := by
      rw [show nx - pc = 3 by omega] at hd0
      exact hd0
    unfold x2 at h
    dsimp only at h
    have hw2 : (Cond.classLink own i "SkinLoads$Flat" ∈ xgw ∧ ks = [(0, 0), (3, 1), (1, 1)]) ∨ (Cond.classLink own i "SkinLoads$Bent" ∈ xgw ∧ ks = [(0, 0), (3, 0), (1, 1)]) := by
      rw [Bool.or_eq_true, Bool.and_eq_true, Bool.and_eq_true, decide_eq_true_eq, decide_eq_true_eq] at hw
      rcases hw with ⟨q1, q2⟩ | ⟨q1, q2⟩
      · exact Or.inl ⟨xw_mem q1, q2⟩
      · exact Or.inr ⟨xw_mem q1, q2⟩
    split at h
    · split at h
      next ci fs hg =>
        split at h
        next hb =>
          cases h
          subst hn
          exact xGo.same fun G R Qf k n _ _ K => xs_inst hw2 hg hb hd K
        next hb =>
          cases h
          subst hn
          exact xGo.same fun G R Qf k n _ _ K => xs_inst hw2 hg hb hd K
        next => cases h
      next => cases h
    · cases h
  | tableswitch df lo hi offs =>
    unfold xres at hres
    dsimp only at hres
    rw [Bool.and_eq_true, decide_eq_true_eq] at hres
    obtain ⟨⟨h0, h1, h3⟩, h2⟩ := hres
    unfold x2 at h
    dsimp only at h
    split at h
    · cases h
      exact xGo.same fun G R Qf k n _ _ K => xs_tsw h0 h1 h2 h3 hd0 K
    · cases h
  | lookupswitch df ps =>
    unfold xres at hres
    dsimp only at hres
    rw [Bool.and_eq_true, Bool.and_eq_true, decide_eq_true_eq] at hres
    obtain ⟨⟨h0, h2⟩, h3⟩ := hres
    unfold x2 at h
    dsimp only at h
    split at h
    · cases h
      exact xGo.same fun G R Qf k n _ _ K => xs_lsw h0 h2 h3 hd0 K
    · cases h
  | invokespecial i =>
    unfold xres at hres
    dsimp only at hres
    rw [Bool.and_eq_true, decide_eq_true_eq] at hres
    obtain ⟨hn, hw⟩ := hres
    have hd : decode cc pc = .ok (.invokespecial i, 3) := by
      rw [show nx - pc = 3 by omega] at hd0
      exact hd0
    unfold x2 at h
    dsimp only at h
    split at h
    next np =>
      split at h
      · split at h
        · unfold xcall at h
          split at h <;> cases h
        · split at h
          · split at h
            · unfold xcall at h
              split at h <;> cases h
            · cases h
          · cases h
      · cases h
    next hv =>
      split at h
      next o r =>
        split at h
        next hr =>
          cases h
          subst hn
          split at hw
          next np => exact absurd rfl (hv np)
          next =>
            rw [Bool.and_eq_true, Bool.and_eq_true] at hw
            exact xGo.same fun G R Qf k n h1 h2 K => xs_objInit (xw_mem hw.1.1) (xw_mem hw.1.2) (xw_mem hw.2) hr h1 h2 hd K
        next => cases h
      next => cases h
  | invokestatic i =>
    unfold x2 xcall at h
    dsimp only at h
    (repeat' (first | split at h)) <;> cases h
  | invokevirtual i =>
    unfold x2 xcall at h
    dsimp only at h
    (repeat' (first | split at h)) <;> cases h
  | ireturn =>
    unfold x2 at h
    dsimp only at h
    (repeat' (first | split at h)) <;> cases h
  | lreturn =>
    unfold x2 at h
    dsimp only at h
    (repeat' (first | split at h)) <;> cases h
  | areturn =>
    unfold x2 at h
    dsimp only at h
    (repeat' (first | split at h)) <;> cases h
  | return_ =>
    unfold x2 at h
    dsimp only at h
    (repeat' (first | split at h)) <;> cases h
  | _ => exact nomatch h
