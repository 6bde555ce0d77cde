/-! RULES OF RUNS: xBody, step by step -/
theorem xlc_eq (x y : Int64) : xcmp .eq (lg_cmp x y) 0 = decide (x = y) := decide_eq_decide.mpr (lg_cmp_eq x y)
theorem xlc_ne (x y : Int64) : xcmp .ne (lg_cmp x y) 0 = decide (x ≠ y) := decide_eq_decide.mpr (not_congr (lg_cmp_eq x y))
theorem xlc_lt (x y : Int64) : xcmp .lt (lg_cmp x y) 0 = decide (x < y) := decide_eq_decide.mpr (lg_cmp_lt x y)
theorem xlc_ge (x y : Int64) : xcmp .ge (lg_cmp x y) 0 = decide (y ≤ x) := decide_eq_decide.mpr (lg_cmp_ge x y)
theorem xlc_gt (x y : Int64) : xcmp .gt (lg_cmp x y) 0 = decide (y < x) := decide_eq_decide.mpr (lg_cmp_gt x y)
theorem xlc_le (x y : Int64) : xcmp .le (lg_cmp x y) 0 = decide (x ≤ y) := decide_eq_decide.mpr (lg_cmp_le x y)
section XB
variable {M : xM} {d pc : Nat} {lv : xL} {st : List Value} {hp : xH} {r : Option Value} {hp' : xH}
theorem xB.next (hM : xokM M = true) {s : xS} (h : x1 M.2.2.2.2 pc lv st hp = some (.inl s)) (K : xBody M d s.1 s.2.1 s.2.2.1 s.2.2.2 r hp') : xBody M d pc lv st hp r hp' := by
  unfold x1 at h
  cases hrow : xrow M.2.2.2.2 pc with
  | none => rw [hrow] at h; cases h
  | some q =>
    obtain ⟨ins, nx, a, ks, ws, v⟩ := q
    rw [hrow] at h
    dsimp only at h
    have hr0 := List.all_eq_true.mp hM _ (xrow_mem hrow)
    unfold xokR at hr0
    rw [Bool.and_eq_true, decide_eq_true_eq] at hr0
    obtain ⟨hd0, hres⟩ := hr0
    dsimp only at hd0 hres
    have g := xstep (nL := M.2.2.1) hd0 hres h
    intro hk
    obtain ⟨g1, g2, g3, g4⟩ := g hk
    obtain ⟨b1, b2, b3, b4⟩ := K g1
    refine ⟨b1, by omega, by omega, fun G R k n h1 h2 h3 h4 => ?_⟩
    refine g4 G R _ k n (by omega) (by omega) (by omega) (by omega) ?_
    have := b4 G R (k + (xtot s.2.2.2 - xtot hp)) (n + (xsl s.2.2.2 - xsl hp)) h1 h2 (by omega) (by omega)
    rw [show k + (xtot s.2.2.2 - xtot hp) + (xtot hp' - xtot s.2.2.2) = k + (xtot hp' - xtot hp) by omega, show n + (xsl s.2.2.2 - xsl hp) + (xsl hp' - xsl s.2.2.2) = n + (xsl hp' - xsl hp) by omega] at this
    exact this
theorem xB.run (hM : xokM M = true) : ∀ (k : Nat) {pc : Nat} {lv : xL} {st : List Value} {hp : xH} {s : xS}, xN M.2.2.2.2 k (pc, lv, st, hp) = some s → xBody M d s.1 s.2.1 s.2.2.1 s.2.2.2 r hp' → xBody M d pc lv st hp r hp'
  | 0, _, _, _, _, _, h, K => by cases h; exact K
  | k + 1, pc, lv, st, hp, s, h, K => by
    unfold xN at h
    split at h
    next s1 h1 => exact xB.next hM h1 (xB.run hM k h K)
    next => cases h
/-- a branch -/
theorem xB.br (hM : xokM M = true) {P : Prop} [Decidable P] {a b : Nat} {lv1 : xL} {st1 : List Value} (h : x1 M.2.2.2.2 pc lv st hp = some (.inl (bif decide P then a else b, lv1, st1, hp))) (kt : P → xBody M d a lv1 st1 hp r hp') (kf : ¬ P → xBody M d b lv1 st1 hp r hp') : xBody M d pc lv st hp r hp' := by
  refine xB.next hM h ?_
  by_cases q : P
  · simp only [q, decide_true, cond_true]
    exact kt q
  · simp only [q, decide_false, cond_false]
    exact kf q
theorem xB.brE (hM : xokM M = true) {P : Prop} [Decidable P] {b0 : Bool} {a b : Nat} {lv1 : xL} {st1 : List Value} (h : x1 M.2.2.2.2 pc lv st hp = some (.inl (bif b0 then a else b, lv1, st1, hp))) (e : b0 = decide P) (kt : P → xBody M d a lv1 st1 hp r hp') (kf : ¬ P → xBody M d b lv1 st1 hp r hp') : xBody M d pc lv st hp r hp' := by
  subst e
  exact xB.br hM h kt kf
theorem xB.ret (hM : xokM M = true) {r1 : Option Value} (h : x1 M.2.2.2.2 pc lv st hp = some (.inr (.inl r1))) (hr : r = r1) (hh : hp' = hp) : xBody M d pc lv st hp r hp' := by
  subst hr hh
  unfold x1 at h
  cases hrow : xrow M.2.2.2.2 pc with
  | none => rw [hrow] at h; cases h
  | some q =>
    obtain ⟨ins, nx, a, ks, ws, v⟩ := q
    rw [hrow] at h
    dsimp only at h
    have hr0 := List.all_eq_true.mp hM _ (xrow_mem hrow)
    unfold xokR at hr0
    rw [Bool.and_eq_true, decide_eq_true_eq] at hr0
    obtain ⟨hd0, hres⟩ := hr0
    dsimp only at hd0 hres
    intro hk
    refine ⟨hk, Nat.le_refl _, Nat.le_refl _, fun G R k n h1 h2 h3 h4 => ?_⟩
    rw [Nat.sub_self, Nat.sub_self]
    exact xret hd0 hres h
/-- a method's contract: called with as at hp it gives r and hp' -/
def xC (M : xM) (d : Nat) (as : List Value) (hp : xH) (r : Option Value) (hp' : xH) : Prop := (xslots as).length ≤ M.2.2.1 ∧ xBody M d 0 (xent M.2.2.1 as) [] hp r hp'
theorem xB.call (hM : xokM M = true) {i nx : Nat} {as rest : List Value} {M2 : xM} {r1 : Option Value} {hp1 : xH} (h : x1 M.2.2.2.2 pc lv st hp = some (.inr (.inr (i, as, rest, nx)))) (hM2 : xMs[i]? = some M2) (hc : xC M2 d as hp r1 hp1) (K : xBody M (d + 1) nx lv (r1.toList ++ rest) hp1 r hp') : xBody M (d + 1) pc lv st hp r hp' := by
  unfold x1 at h
  cases hrow : xrow M.2.2.2.2 pc with
  | none => rw [hrow] at h; cases h
  | some q =>
    obtain ⟨ins, nx0, a, ks, ws, v⟩ := q
    rw [hrow] at h
    dsimp only at h
    have hr0 := List.all_eq_true.mp hM _ (xrow_mem hrow)
    unfold xokR at hr0
    rw [Bool.and_eq_true, decide_eq_true_eq] at hr0
    obtain ⟨hd0, hres⟩ := hr0
    dsimp only at hd0 hres
    obtain ⟨e1, e2⟩ := xE i M2 hM2
    have hpl := (xhd_ok i (xhd M2) e1).2.2.2
    have hmet := xmet_of hpl hc.1 hc.2
    intro hk
    obtain ⟨c1, c2, c3, -⟩ := hc.2 hk
    obtain ⟨f1, f2, f3, f4⟩ := K c1
    refine ⟨f1, by omega, by omega, fun G R k n h1 h2 h3 h4 => ?_⟩
    refine xcstep hd0 hres h e1 hmet (by omega) (by omega) (by omega) (by omega) ?_
    have := f4 G R (k + (xtot hp1 - xtot hp)) (n + (xsl hp1 - xsl hp)) h1 h2 (by omega) (by omega)
    rw [show k + (xtot hp1 - xtot hp) + (xtot hp' - xtot hp1) = k + (xtot hp' - xtot hp) by omega, show n + (xsl hp1 - xsl hp) + (xsl hp' - xsl hp1) = n + (xsl hp' - xsl hp) by omega] at this
    exact this
/-- what is known of the locals may be forgotten -/
def xle (lv1 lv2 : xL) : Prop := lv1.length = lv2.length ∧ ∀ (i : Nat) (v : Value), lv1[i]? = some (some v) → lv2[i]? = some (some v)
theorem xB.forget {lv1 : xL} (hl : xle lv1 lv) (K : xBody M d pc lv1 st hp r hp') : xBody M d pc lv st hp r hp' := by
  intro hk
  obtain ⟨b1, b2, b3, b4⟩ := K hk
  refine ⟨b1, b2, b3, fun G R k n h1 h2 h3 h4 p l e s m args below meth c C ls H locs hlv hR hf => ?_⟩
  obtain ⟨q1, q2, q3, q4⟩ := hlv
  exact b4 G R k n h1 h2 h3 h4 p l e s m args below meth c C ls H locs ⟨q1, hl.1.trans q2, q3, fun i v hv => q4 i v (hl.2 i v hv)⟩ hR hf
theorem xle_nil : xle [] [] := ⟨rfl, fun i v h => by simp at h⟩
theorem xle_none {a : Option Value} {l1 l2 : xL} (h : xle l1 l2) : xle (none :: l1) (a :: l2) := by
  refine ⟨by simp [h.1], fun i v hv => ?_⟩
  cases i with
  | zero => simp at hv
  | succ i => exact h.2 i v (by simpa using hv)
theorem xle_same {a : Option Value} {l1 l2 : xL} (h : xle l1 l2) : xle (a :: l1) (a :: l2) := by
  refine ⟨by simp [h.1], fun i v hv => ?_⟩
  cases i with
  | zero => simpa using hv
  | succ i => exact h.2 i v (by simpa using hv)
/-- deeper -/
theorem xB.deep {d2 : Nat} (h : d ≤ d2) (K : xBody M d pc lv st hp r hp') : xBody M d2 pc lv st hp r hp' := by
  intro hk
  obtain ⟨b1, b2, b3, b4⟩ := K hk
  exact ⟨b1, b2, b3, fun G R k n h1 h2 h3 h4 => b4 G R k n (by omega) (by omega) h3 h4⟩
theorem xC.deep {d2 : Nat} {as : List Value} (h : d ≤ d2) (K : xC M d as hp r hp') : xC M d2 as hp r hp' := ⟨K.1, xB.deep h K.2⟩
theorem xC.ofI (hM : xokM M = true) {as : List Value} {f : Nat} (hl : (xslots as).length ≤ M.2.2.1) (h : xI xMs f d M.2.2.2.2 0 (xent M.2.2.1 as) [] hp = some (r, hp')) : xC M d as hp r hp' := ⟨hl, xsim xMs xE f d M hM _ _ _ _ _ _ h⟩
/-- one instruction that reads or writes a cell -/
theorem xB.iald (hM : xokM M = true) {nx a o N : Nat} {ks : List (Nat × Nat)} {ws : List Nat} {v : Value} {i : Int32} {f : Nat → Int32} {st0 : List Value} (hrow : xrow M.2.2.2.2 pc = some (.iaload, nx, a, ks, ws, v)) (hg : xget hp o = some (.inl (0, N, .inl f))) (hin : ¬ (i < 0 ∨ N ≤ i.toNatClampNeg)) (K : xBody M d nx lv (.int (f i.toNatClampNeg) :: st0) hp r hp') : xBody M d pc lv (.int i :: .ref o :: st0) hp r hp' := by
  refine xB.next hM (s := (nx, lv, .int (f i.toNatClampNeg) :: st0, hp)) ?_ K
  unfold x1
  rw [hrow]
  show (match xget hp o with | some (.inl (0, N, .inl f)) => if i < 0 ∨ N ≤ i.toNatClampNeg then none else xnx nx lv (.int (f i.toNatClampNeg) :: st0) hp | _ => none) = _
  rw [hg]
  show (if i < 0 ∨ N ≤ i.toNatClampNeg then none else xnx nx lv (.int (f i.toNatClampNeg) :: st0) hp) = _
  rw [if_neg hin]
  rfl
theorem xB.bald (hM : xokM M = true) {nx a o N : Nat} {ks : List (Nat × Nat)} {ws : List Nat} {v : Value} {i : Int32} {f : Nat → Int32} {st0 : List Value} (hrow : xrow M.2.2.2.2 pc = some (.baload, nx, a, ks, ws, v)) (hg : xget hp o = some (.inl (2, N, .inl f))) (hin : ¬ (i < 0 ∨ N ≤ i.toNatClampNeg)) (K : xBody M d nx lv (.int (f i.toNatClampNeg) :: st0) hp r hp') : xBody M d pc lv (.int i :: .ref o :: st0) hp r hp' := by
  refine xB.next hM (s := (nx, lv, .int (f i.toNatClampNeg) :: st0, hp)) ?_ K
  unfold x1
  rw [hrow]
  show (match xget hp o with | some (.inl (2, N, .inl f)) => if i < 0 ∨ N ≤ i.toNatClampNeg then none else xnx nx lv (.int (f i.toNatClampNeg) :: st0) hp | _ => none) = _
  rw [hg]
  show (if i < 0 ∨ N ≤ i.toNatClampNeg then none else xnx nx lv (.int (f i.toNatClampNeg) :: st0) hp) = _
  rw [if_neg hin]
  rfl
theorem xB.lald (hM : xokM M = true) {nx a o N : Nat} {ks : List (Nat × Nat)} {ws : List Nat} {v : Value} {i : Int32} {f : Nat → Int64} {st0 : List Value} (hrow : xrow M.2.2.2.2 pc = some (.laload, nx, a, ks, ws, v)) (hg : xget hp o = some (.inl (1, N, .inr (.inl f)))) (hin : ¬ (i < 0 ∨ N ≤ i.toNatClampNeg)) (K : xBody M d nx lv (.long (f i.toNatClampNeg) :: st0) hp r hp') : xBody M d pc lv (.int i :: .ref o :: st0) hp r hp' := by
  refine xB.next hM (s := (nx, lv, .long (f i.toNatClampNeg) :: st0, hp)) ?_ K
  unfold x1
  rw [hrow]
  show (match xget hp o with | some (.inl (1, N, .inr (.inl f))) => if i < 0 ∨ N ≤ i.toNatClampNeg then none else xnx nx lv (.long (f i.toNatClampNeg) :: st0) hp | _ => none) = _
  rw [hg]
  show (if i < 0 ∨ N ≤ i.toNatClampNeg then none else xnx nx lv (.long (f i.toNatClampNeg) :: st0) hp) = _
  rw [if_neg hin]
  rfl
theorem xB.aald (hM : xokM M = true) {nx a o N c b : Nat} {ks : List (Nat × Nat)} {ws : List Nat} {v : Value} {i : Int32} {f : Nat → Option Nat} {st0 : List Value} (hrow : xrow M.2.2.2.2 pc = some (.aaload, nx, a, ks, ws, v)) (hg : xget hp o = some (.inl (c, N, .inr (.inr (.inr (.inr f)))))) (hc : 3 ≤ c ∧ c ≤ 5) (hin : ¬ (i < 0 ∨ N ≤ i.toNatClampNeg)) (hb : f i.toNatClampNeg = some b) (K : xBody M d nx lv (.ref b :: st0) hp r hp') : xBody M d pc lv (.int i :: .ref o :: st0) hp r hp' := by
  refine xB.next hM (s := (nx, lv, .ref b :: st0, hp)) ?_ K
  unfold x1
  rw [hrow]
  show (match xget hp o with | some (.inl (c, N, .inr (.inr (.inr (.inr f))))) => if i < 0 ∨ N ≤ i.toNatClampNeg ∨ c < 3 ∨ 5 < c then none else xnx nx lv (xrf (f i.toNatClampNeg) :: st0) hp | _ => none) = _
  rw [hg]
  show (if i < 0 ∨ N ≤ i.toNatClampNeg ∨ c < 3 ∨ 5 < c then none else xnx nx lv (xrf (f i.toNatClampNeg) :: st0) hp) = _
  rw [if_neg (fun q => by rcases q with q | q | q | q <;> first | exact hin (Or.inl q) | exact hin (Or.inr q) | exact absurd q (Nat.not_lt.mpr hc.1) | exact absurd q (Nat.not_lt.mpr hc.2)), hb]
  rfl
theorem xB.iast (hM : xokM M = true) {nx a o N : Nat} {ks : List (Nat × Nat)} {ws : List Nat} {v : Value} {i w : Int32} {f : Nat → Int32} {st0 : List Value} {hp1 : xH} (hrow : xrow M.2.2.2.2 pc = some (.iastore, nx, a, ks, ws, v)) (hg : xget hp o = some (.inl (0, N, .inl f))) (ho : o < 9216) (hin : ¬ (i < 0 ∨ N ≤ i.toNatClampNeg)) (he : xset hp o (.inl (0, N, .inl (upd f i.toNatClampNeg w))) = hp1) (K : xBody M d nx lv st0 hp1 r hp') : xBody M d pc lv (.int w :: .int i :: .ref o :: st0) hp r hp' := by
  subst he
  refine xB.next hM (s := (nx, lv, st0, xset hp o (.inl (0, N, .inl (upd f i.toNatClampNeg w))))) ?_ K
  unfold x1
  rw [hrow]
  show (match xget hp o with | some (.inl (0, N, .inl f)) => if i < 0 ∨ N ≤ i.toNatClampNeg ∨ 9216 ≤ o then none else xnx nx lv st0 (xset hp o (.inl (0, N, .inl (upd f i.toNatClampNeg w)))) | _ => none) = _
  rw [hg]
  show (if i < 0 ∨ N ≤ i.toNatClampNeg ∨ 9216 ≤ o then none else xnx nx lv st0 (xset hp o (.inl (0, N, .inl (upd f i.toNatClampNeg w))))) = _
  rw [if_neg (fun q => by rcases q with q | q | q; exact hin (Or.inl q); exact hin (Or.inr q); omega)]
  rfl
theorem xB.bast (hM : xokM M = true) {nx a o N : Nat} {ks : List (Nat × Nat)} {ws : List Nat} {v : Value} {i w : Int32} {f : Nat → Int32} {st0 : List Value} {hp1 : xH} (hrow : xrow M.2.2.2.2 pc = some (.bastore, nx, a, ks, ws, v)) (hg : xget hp o = some (.inl (2, N, .inl f))) (ho : o < 9216) (hw : w = 0 ∨ w = 1) (hin : ¬ (i < 0 ∨ N ≤ i.toNatClampNeg)) (he : xset hp o (.inl (2, N, .inl (upd f i.toNatClampNeg w))) = hp1) (K : xBody M d nx lv st0 hp1 r hp') : xBody M d pc lv (.int w :: .int i :: .ref o :: st0) hp r hp' := by
  subst he
  refine xB.next hM (s := (nx, lv, st0, xset hp o (.inl (2, N, .inl (upd f i.toNatClampNeg w))))) ?_ K
  unfold x1
  rw [hrow]
  show (match xget hp o with | some (.inl (2, N, .inl f)) => if i < 0 ∨ N ≤ i.toNatClampNeg ∨ 9216 ≤ o ∨ ¬ (w = 0 ∨ w = 1) then none else xnx nx lv st0 (xset hp o (.inl (2, N, .inl (upd f i.toNatClampNeg w)))) | _ => none) = _
  rw [hg]
  show (if i < 0 ∨ N ≤ i.toNatClampNeg ∨ 9216 ≤ o ∨ ¬ (w = 0 ∨ w = 1) then none else xnx nx lv st0 (xset hp o (.inl (2, N, .inl (upd f i.toNatClampNeg w))))) = _
  rw [if_neg (fun q => by rcases q with q | q | q | q; exact hin (Or.inl q); exact hin (Or.inr q); omega; exact q hw)]
  rfl
theorem xB.last (hM : xokM M = true) {nx a o N : Nat} {ks : List (Nat × Nat)} {ws : List Nat} {v : Value} {i : Int32} {w : Int64} {f : Nat → Int64} {st0 : List Value} {hp1 : xH} (hrow : xrow M.2.2.2.2 pc = some (.lastore, nx, a, ks, ws, v)) (hg : xget hp o = some (.inl (1, N, .inr (.inl f)))) (ho : o < 9216) (hin : ¬ (i < 0 ∨ N ≤ i.toNatClampNeg)) (he : xset hp o (.inl (1, N, .inr (.inl (vp_updL f i.toNatClampNeg w)))) = hp1) (K : xBody M d nx lv st0 hp1 r hp') : xBody M d pc lv (.long w :: .int i :: .ref o :: st0) hp r hp' := by
  subst he
  refine xB.next hM (s := (nx, lv, st0, xset hp o (.inl (1, N, .inr (.inl (vp_updL f i.toNatClampNeg w)))))) ?_ K
  unfold x1
  rw [hrow]
  show (match xget hp o with | some (.inl (1, N, .inr (.inl f))) => if i < 0 ∨ N ≤ i.toNatClampNeg ∨ 9216 ≤ o then none else xnx nx lv st0 (xset hp o (.inl (1, N, .inr (.inl (vp_updL f i.toNatClampNeg w))))) | _ => none) = _
  rw [hg]
  show (if i < 0 ∨ N ≤ i.toNatClampNeg ∨ 9216 ≤ o then none else xnx nx lv st0 (xset hp o (.inl (1, N, .inr (.inl (vp_updL f i.toNatClampNeg w)))))) = _
  rw [if_neg (fun q => by rcases q with q | q | q; exact hin (Or.inl q); exact hin (Or.inr q); omega)]
  rfl
/-- a switch -/
theorem xsw_at {rows : List xRow} {ks : List (Nat × Nat)} {x : Int32} {a t : Nat} {lv1 : xL} {st1 : List Value} {hp0 : xH} (h : x1 rows pc lv st hp = some (.inl (xsw ks x a, lv1, st1, hp0))) (ht : xsw ks x a = t) : x1 rows pc lv st hp = some (.inl (t, lv1, st1, hp0)) := by
  rw [h, ht]
/-- a division -/
theorem xdiv_at {rows : List xRow} {P : Prop} [Decidable P] {o : xO} (hn : ¬ P) (h : x1 rows pc lv st hp = if P then none else some o) : x1 rows pc lv st hp = some o := by
  rw [h, if_neg hn]
end XB
