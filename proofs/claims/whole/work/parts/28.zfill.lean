/-! filling, counting bits, rows of rows, bars -/
theorem xset_same {hp : xH} {o : Nat} {e : va_E} (h : xget hp o = some e) : xset hp o e = hp := by
  obtain ⟨reg, h1, h2⟩ := xget_spec h
  rw [xset_eq h1]
  apply List.ext_getElem?
  intro i
  by_cases hi : i = o / 1024
  · subst hi
    rw [List.getElem?_set_self (List.getElem?_eq_some_iff.mp h1).1, h1]
    congr 1
    apply List.ext_getElem?
    intro j
    by_cases hj : j = o % 1024
    · subst hj
      rw [List.getElem?_set_self (List.getElem?_eq_some_iff.mp h2).1, h2]
    · rw [List.getElem?_set_ne (fun q => hj q.symm)]
  · rw [List.getElem?_set_ne (fun q => hi q.symm)]
theorem xset_xset {hp : xH} {o : Nat} {e0 : va_E} (h : xget hp o = some e0) (e1 e2 : va_E) : xset (xset hp o e1) o e2 = xset hp o e2 := by
  obtain ⟨reg, h1, h2⟩ := xget_spec h
  have l1 := (List.getElem?_eq_some_iff.mp h1).1
  rw [xset_eq h1, xset_eq h1, xset_eq (reg := reg.set (o % 1024) e1) (by rw [List.getElem?_set_self l1]), List.set_set, List.set_set]
theorem xB.alen {M : xM} {d pc : Nat} {lv : xL} {hp : xH} {r : Option Value} {hp' : xH} (hM : xokM M = true) {nx a o N c : Nat} {ks : List (Nat × Nat)} {ws : List Nat} {v : Value} {z : (Nat → Int32) ⊕ (Nat → Int64) ⊕ (Nat → UInt32) ⊕ (Nat → UInt64) ⊕ (Nat → Option Nat)} {st0 : List Value} (hrow : xrow M.2.2.2.2 pc = some (.arraylength, nx, a, ks, ws, v)) (hg : xget hp o = some (.inl (c, N, z))) (hc : c ≤ 5) (K : xBody M d nx lv (.int (nI N) :: st0) hp r hp') : xBody M d pc lv (.ref o :: st0) hp r hp' := by
  refine xB.next hM (s := (nx, lv, .int (nI N) :: st0, hp)) ?_ K
  unfold x1
  rw [hrow]
  show (match xget hp o with | some (.inl (c, N, _)) => if 5 < c then none else xnx nx lv (.int (Int32.ofNat N) :: st0) hp | _ => none) = _
  rw [hg]
  show (if 5 < c then none else xnx nx lv (.int (Int32.ofNat N) :: st0) hp) = _
  rw [if_neg (Nat.not_lt.mpr hc)]
  rfl
def xfill {α : Type} (N : Nat) (v : α) (f : Nat → α) : Nat → α := fun j => if j < N then v else f j
theorem t_fillI_loop (o N : Nat) (v : Int32) (ho : o < 9216) (hN : N < 2 ^ 31) {hp1 : xH} : ∀ (n k : Nat) (hp : xH) (f : Nat → Int32), k + n = N → xget hp o = some (.inl (0, N, .inl f)) → xset hp o (.inl (0, N, .inl (fun j => if k ≤ j ∧ j < N then v else f j))) = hp1 → xBody MJ7_fill_53178 0 5 [some (.ref o), some (.int v), some (.int (nI k)), some (.int (nI N))] [] hp none hp1 := by
  intro n
  induction n with
  | zero =>
    intro k hp f hk hg he
    have hkN : k = N := by omega
    subst hkN
    refine xB.run oJ7_fill_53178 2 (s := (7, [some (.ref o), some (.int v), some (.int (nI k)), some (.int (nI k))], [.int (nI k), .int (nI k)], hp)) rfl ?_
    refine xB.br oJ7_fill_53178 (P := nI k ≤ nI k) rfl (fun h => ?_) (fun h => absurd (nI_le (Nat.le_refl k) hN) h)
    refine xB.ret oJ7_fill_53178 (r1 := none) rfl rfl ?_
    rw [← he, show (fun j => if k ≤ j ∧ j < k then v else f j) = f by
      funext j
      rw [if_neg (by omega)]]
    exact xset_same hg
  | succ n ih =>
    intro k hp f hk hg he
    refine xB.run oJ7_fill_53178 2 (s := (7, [some (.ref o), some (.int v), some (.int (nI k)), some (.int (nI N))], [.int (nI N), .int (nI k)], hp)) rfl ?_
    refine xB.br oJ7_fill_53178 (P := nI N ≤ nI k) rfl (fun h => absurd h (nI_ge (by omega) hN)) (fun h => ?_)
    refine xB.run oJ7_fill_53178 3 (s := (13, [some (.ref o), some (.int v), some (.int (nI k)), some (.int (nI N))], [.int v, .int (nI k), .ref o], hp)) rfl ?_
    refine xB.iast oJ7_fill_53178 (o := o) (N := N) (f := f) (hp1 := xset hp o (.inl (0, N, .inl (upd f (nI k).toNatClampNeg v)))) rfl hg ho (nI_in (by omega) hN) rfl ?_
    rw [nI_clamp (by omega)]
    refine xB.run oJ7_fill_53178 2 (s := (5, [some (.ref o), some (.int v), some (.int (nI k + 1)), some (.int (nI N))], [], xset hp o (.inl (0, N, .inl (upd f k v))))) rfl ?_
    dsimp only
    rw [nI_1]
    refine ih (k + 1) _ (upd f k v) (by omega) (xget_set_self hg _) ?_
    rw [xset_xset hg, ← he]
    refine congrArg (fun g => xset hp o (.inl (0, N, .inl g))) (funext fun j => ?_)
    unfold upd
    by_cases h1 : j = k
    · subst h1
      rw [if_neg (by omega), if_pos rfl, if_pos (by omega)]
    · by_cases h2 : k + 1 ≤ j ∧ j < N
      · rw [if_pos h2, if_pos (by omega)]
      · rw [if_neg h2, if_neg h1, if_neg (by omega)]
theorem t_fillI (hp : xH) (o N : Nat) (f : Nat → Int32) (v : Int32) {hp1 : xH} (hg : xget hp o = some (.inl (0, N, .inl f))) (ho : o < 9216) (hN : N < 2 ^ 31) (he : xset hp o (.inl (0, N, .inl (xfill N v f))) = hp1) : xC MJ7_fill_53178 0 [.ref o, .int v] hp none hp1 := by
  refine ⟨Nat.le_of_ble_eq_true rfl, ?_⟩
  show xBody MJ7_fill_53178 0 0 [some (.ref o), some (.int v), none, none] [] hp none hp1
  refine xB.run oJ7_fill_53178 3 (s := (3, [some (.ref o), some (.int v), some (.int 0), none], [.ref o], hp)) rfl ?_
  refine xB.alen oJ7_fill_53178 rfl hg (by omega) ?_
  refine xB.run oJ7_fill_53178 1 (s := (5, [some (.ref o), some (.int v), some (.int 0), some (.int (nI N))], [], hp)) rfl ?_
  dsimp only
  rw [← nI_0]
  refine t_fillI_loop o N v ho hN N 0 hp f (by omega) hg ?_
  rw [← he]
  refine congrArg (fun g => xset hp o (.inl (0, N, .inl g))) (funext fun j => ?_)
  unfold xfill
  by_cases h : j < N
  · rw [if_pos h, if_pos (by omega)]
  · rw [if_neg h, if_neg (by omega)]
theorem t_fillL_loop (o N : Nat) (v : Int64) (ho : o < 9216) (hN : N < 2 ^ 31) {hp1 : xH} : ∀ (n k : Nat) (hp : xH) (f : Nat → Int64), k + n = N → xget hp o = some (.inl (1, N, .inr (.inl f))) → xset hp o (.inl (1, N, .inr (.inl (fun j => if k ≤ j ∧ j < N then v else f j)))) = hp1 → xBody MJ7_fill_d0a16 0 6 [some (.ref o), some (.long v), none, some (.int (nI k)), some (.int (nI N))] [] hp none hp1 := by
  intro n
  induction n with
  | zero =>
    intro k hp f hk hg he
    have hkN : k = N := by omega
    subst hkN
    refine xB.run oJ7_fill_d0a16 2 (s := (9, [some (.ref o), some (.long v), none, some (.int (nI k)), some (.int (nI k))], [.int (nI k), .int (nI k)], hp)) rfl ?_
    refine xB.br oJ7_fill_d0a16 (P := nI k ≤ nI k) rfl (fun h => ?_) (fun h => absurd (nI_le (Nat.le_refl k) hN) h)
    refine xB.ret oJ7_fill_d0a16 (r1 := none) rfl rfl ?_
    rw [← he, show (fun j => if k ≤ j ∧ j < k then v else f j) = f by
      funext j
      rw [if_neg (by omega)]]
    exact xset_same hg
  | succ n ih =>
    intro k hp f hk hg he
    refine xB.run oJ7_fill_d0a16 2 (s := (9, [some (.ref o), some (.long v), none, some (.int (nI k)), some (.int (nI N))], [.int (nI N), .int (nI k)], hp)) rfl ?_
    refine xB.br oJ7_fill_d0a16 (P := nI N ≤ nI k) rfl (fun h => absurd h (nI_ge (by omega) hN)) (fun h => ?_)
    refine xB.run oJ7_fill_d0a16 3 (s := (15, [some (.ref o), some (.long v), none, some (.int (nI k)), some (.int (nI N))], [.long v, .int (nI k), .ref o], hp)) rfl ?_
    refine xB.last oJ7_fill_d0a16 (o := o) (N := N) (f := f) (hp1 := xset hp o (.inl (1, N, .inr (.inl (vp_updL f (nI k).toNatClampNeg v))))) rfl hg ho (nI_in (by omega) hN) rfl ?_
    rw [nI_clamp (by omega)]
    refine xB.run oJ7_fill_d0a16 2 (s := (6, [some (.ref o), some (.long v), none, some (.int (nI k + 1)), some (.int (nI N))], [], xset hp o (.inl (1, N, .inr (.inl (vp_updL f k v)))))) rfl ?_
    dsimp only
    rw [nI_1]
    refine ih (k + 1) _ (vp_updL f k v) (by omega) (xget_set_self hg _) ?_
    rw [xset_xset hg, ← he]
    refine congrArg (fun g => xset hp o (.inl (1, N, .inr (.inl g)))) (funext fun j => ?_)
    unfold vp_updL
    by_cases h1 : j = k
    · subst h1
      rw [if_neg (by omega), if_pos rfl, if_pos (by omega)]
    · by_cases h2 : k + 1 ≤ j ∧ j < N
      · rw [if_pos h2, if_pos (by omega)]
      · rw [if_neg h2, if_neg h1, if_neg (by omega)]
theorem t_fillL (hp : xH) (o N : Nat) (f : Nat → Int64) (v : Int64) {hp1 : xH} (hg : xget hp o = some (.inl (1, N, .inr (.inl f)))) (ho : o < 9216) (hN : N < 2 ^ 31) (he : xset hp o (.inl (1, N, .inr (.inl (xfill N v f)))) = hp1) : xC MJ7_fill_d0a16 0 [.ref o, .long v] hp none hp1 := by
  refine ⟨Nat.le_of_ble_eq_true rfl, ?_⟩
  show xBody MJ7_fill_d0a16 0 0 [some (.ref o), some (.long v), none, none, none] [] hp none hp1
  refine xB.run oJ7_fill_d0a16 3 (s := (3, [some (.ref o), some (.long v), none, some (.int 0), none], [.ref o], hp)) rfl ?_
  refine xB.alen oJ7_fill_d0a16 rfl hg (by omega) ?_
  refine xB.run oJ7_fill_d0a16 1 (s := (6, [some (.ref o), some (.long v), none, some (.int 0), some (.int (nI N))], [], hp)) rfl ?_
  dsimp only
  rw [← nI_0]
  refine t_fillL_loop o N v ho hN N 0 hp f (by omega) hg ?_
  rw [← he]
  refine congrArg (fun g => xset hp o (.inl (1, N, .inr (.inl g)))) (funext fun j => ?_)
  unfold xfill
  by_cases h : j < N
  · rw [if_pos h, if_pos (by omega)]
  · rw [if_neg h, if_neg (by omega)]

def zfl (s : zZ) (p N : Nat) (v : Int) : zZ := fun q => if q = p then (fun j => if j < N then v else s p j) else s q
theorem zH_outf (s : zZ) (p : Nat) (f : Nat → Int) : ∀ (L : List zD) (k : Nat), p < k → zH (fun q => if q = p then f else s q) L k = zH s L k
  | [], _, _ => rfl
  | d :: L, k, h => by
    simp only [zH]
    rw [zH_outf s p f L (k + 1) (by omega), if_neg (by omega)]
theorem zH_setf (s : zZ) (f : Nat → Int) : ∀ (L : List zD) (k p : Nat) (d : zD), L[p]? = some d → (zH s L k).set p (zcell d f) = zH (fun q => if q = k + p then f else s q) L k
  | [], _, _, _, h => by simp at h
  | d :: L, k, 0, d', h => by
    simp only [List.getElem?_cons_zero, Option.some.injEq] at h
    subst h
    simp only [zH, List.set_cons_zero, Nat.add_zero, if_pos]
    rw [zH_outf s k f L (k + 1) (by omega)]
  | d :: L, k, p + 1, d', h => by
    simp only [List.getElem?_cons_succ] at h
    simp only [zH, List.set_cons_succ]
    rw [zH_setf s f L (k + 1) p d' h, if_neg (by omega), show k + 1 + p = k + (p + 1) by omega]
theorem zsetf {hp : xH} {a g p : Nat} {s : zZ} {L : List zD} {d : zD} (ha : a = 1024 * g + p) (h0 : p < 1024) (hr : hp[g]? = some (zH s L 0)) (hd : L[p]? = some d) (f : Nat → Int) : xset hp a (zcell d f) = hp.set g (zH (fun q => if q = p then f else s q) L 0) := by
  unfold xset
  rw [show a / 1024 = g by omega, show a % 1024 = p by omega, hr]
  dsimp only
  have := zH_setf s f L 0 p d hd
  rw [Nat.zero_add] at this
  rw [this]
theorem zfillI {hp : xH} {a g p N : Nat} {s : zZ} {L : List zD} {q : List (Nat × Nat)} (v : Int) (ha : a = 1024 * g + p) (h0 : p < 1024) (hg : g < 9) (hr : hp[g]? = some (zH s L 0)) (hd : L[p]? = some (0, N, q)) (hN : N ≤ 4096) : xC MJ7_fill_53178 0 [.ref a, .int (zI v)] hp none (hp.set g (zH (zfl s p N v) L 0)) := by
  refine t_fillI hp a N (fun i => zI (s p i)) (zI v) (zget ha h0 hr hd) (by omega) (by omega) ?_
  rw [show xfill N (zI v) (fun i => zI (s p i)) = fun j => zI (if j < N then v else s p j) by funext j; unfold xfill; split <;> rfl]
  exact zsetf ha h0 hr hd (fun j => if j < N then v else s p j)
theorem zfillL {hp : xH} {a g p N : Nat} {s : zZ} {L : List zD} {q : List (Nat × Nat)} (v : Int) (ha : a = 1024 * g + p) (h0 : p < 1024) (hg : g < 9) (hr : hp[g]? = some (zH s L 0)) (hd : L[p]? = some (1, N, q)) (hN : N ≤ 4096) : xC MJ7_fill_d0a16 0 [.ref a, .long (zJ v)] hp none (hp.set g (zH (zfl s p N v) L 0)) := by
  refine t_fillL hp a N (fun i => zJ (s p i)) (zJ v) (zget ha h0 hr hd) (by omega) (by omega) ?_
  rw [show xfill N (zJ v) (fun i => zJ (s p i)) = fun j => zJ (if j < N then v else s p j) by funext j; unfold xfill; split <;> rfl]
  exact zsetf ha h0 hr hd (fun j => if j < N then v else s p j)
theorem zB.iald9_1 {M : xM} {d pc : Nat} {lv : xL} {hp : xH} {r : Option Value} {hp' : xH} (hM : xokM M = true) {nx x0 : Nat} {ks : List (Nat × Nat)} {ws : List Nat} {v : Value} {e : va_E} {i : Int} {st0 : List Value} (hrow : xrow M.2.2.2.2 pc = some (.iaload, nx, x0, ks, ws, v)) (hr : hp[9]? = some (z9 e)) (hi : 0 ≤ i ∧ i < 8) (K : xBody M d nx lv (.int (zI (zrowS i.toNat)) :: st0) hp r hp') : xBody M d pc lv (.int (zI i) :: .ref 9217 :: st0) hp r hp' := by
  refine xB.iald hM hrow (o := 9217) (N := 8) (f := xrowS) ?_ (zin (by decide) hi) ?_
  · show (match hp[9]? with | some r => r[1]? | none => none) = _
    rw [hr]; rfl
  · rw [zcl (N := 8) (by decide) hi, zrowS_eq]
    exact K
theorem zB.iald9_2 {M : xM} {d pc : Nat} {lv : xL} {hp : xH} {r : Option Value} {hp' : xH} (hM : xokM M = true) {nx x0 : Nat} {ks : List (Nat × Nat)} {ws : List Nat} {v : Value} {e : va_E} {i : Int} {st0 : List Value} (hrow : xrow M.2.2.2.2 pc = some (.iaload, nx, x0, ks, ws, v)) (hr : hp[9]? = some (z9 e)) (hi : 0 ≤ i ∧ i < 8) (K : xBody M d nx lv (.int (zI (zcolS i.toNat)) :: st0) hp r hp') : xBody M d pc lv (.int (zI i) :: .ref 9218 :: st0) hp r hp' := by
  refine xB.iald hM hrow (o := 9218) (N := 8) (f := xcolS) ?_ (zin (by decide) hi) ?_
  · show (match hp[9]? with | some r => r[2]? | none => none) = _
    rw [hr]; rfl
  · rw [zcl (N := 8) (by decide) hi, zcolS_eq]
    exact K
theorem zB.aastP {M : xM} {d pc : Nat} {lv : xL} {hp : xH} {r : Option Value} {hp' : xH} (hM : xokM M = true) {nx x0 a g p N g2 p2 q W : Nat} {ks : List (Nat × Nat)} {ws : List Nat} {v : Value} {s s2 : zZ} {L L2 : List zD} {l2 : List (Nat × Nat)} {i : Int} {st0 : List Value} {hp1 : xH} (hrow : xrow M.2.2.2.2 pc = some (.aastore, nx, x0, ks, ws, v)) (ha : a = 1024 * g + p) (h0 : p < 1024) (hg : g < 9 ∧ g2 < 9) (hr : hp[g]? = some (zH s L 0)) (hd : L[p]? = some (4, N, [(g2, p2)])) (hN : N ≤ 4096) (hi : 0 ≤ i ∧ i < N) (h2 : p2 + q < 1024) (hr2 : hp[g2]? = some (zH s2 L2 0)) (hd2 : L2[p2 + q]? = some (1, W, l2)) (he : hp.set g (zH (upz s p i.toNat ((q : Nat) : Int)) L 0) = hp1) (K : xBody M d nx lv st0 hp1 r hp') : xBody M d pc lv (.ref (1024 * g2 + (p2 + q)) :: .int (zI i) :: .ref a :: st0) hp r hp' := by
  refine xB.next hM (s := (nx, lv, st0, hp1)) ?_ K
  unfold x1
  rw [hrow]
  show (match xget hp a, xget hp (1024 * g2 + (p2 + q)) with
      | some (.inl (4, N, .inr (.inr (.inr (.inr f))))), some (.inl (1, _)) => if zI i < 0 ∨ N ≤ (zI i).toNatClampNeg ∨ 9216 ≤ a ∨ 9216 ≤ 1024 * g2 + (p2 + q) then none else xnx nx lv st0 (xset hp a (.inl (4, N, .inr (.inr (.inr (.inr (va_up f (zI i).toNatClampNeg (some (1024 * g2 + (p2 + q))))))))))
      | some (.inl (5, N, .inr (.inr (.inr (.inr f))))), some (.inr (ci, _)) => if zI i < 0 ∨ N ≤ (zI i).toNatClampNeg ∨ 9216 ≤ a ∨ 9216 ≤ 1024 * g2 + (p2 + q) ∨ ¬ (ci = 0 ∨ ci = 1 ∨ ci = 3) then none else xnx nx lv st0 (xset hp a (.inl (5, N, .inr (.inr (.inr (.inr (va_up f (zI i).toNatClampNeg (some (1024 * g2 + (p2 + q))))))))))
      | _, _ => none) = _
  rw [zget ha h0 hr hd, zget rfl h2 hr2 hd2]
  have hz := zin hN hi
  show (if zI i < 0 ∨ N ≤ (zI i).toNatClampNeg ∨ 9216 ≤ a ∨ 9216 ≤ 1024 * g2 + (p2 + q) then none else xnx nx lv st0 (xset hp a (.inl (4, N, .inr (.inr (.inr (.inr (va_up (fun i => if i < N then some (1024 * g2 + (p2 + (s p i).toNat)) else none) (zI i).toNatClampNeg (some (1024 * g2 + (p2 + q)))))))))) ) = _
  rw [if_neg (fun z => by rcases z with z | z | z | z; exact hz (Or.inl z); exact hz (Or.inr z); omega; omega), zcl hN hi]
  have e : va_up (fun i => if i < N then some (1024 * g2 + (p2 + (s p i).toNat)) else none) i.toNat (some (1024 * g2 + (p2 + q))) = (fun j => if j < N then some (1024 * g2 + (p2 + ((fun j => if j = i.toNat then ((q : Nat) : Int) else s p j) j).toNat)) else none) := by
    funext j
    unfold va_up
    by_cases hj : j = i.toNat
    · rw [if_pos hj, if_pos (by omega)]
      dsimp only
      rw [if_pos hj, Int.toNat_natCast]
    · rw [if_neg hj]
      dsimp only
      rw [if_neg hj]
  rw [e, ← he]
  have := zset ha h0 hr hd i.toNat ((q : Nat) : Int)
  rw [← this]
  rfl
theorem zfitbar4 (k : Int) {w : Int} (hw : w = 0 ∨ w = 1) : xfit (xty (zclass k) 4) (.int (zI w)) = true := by
  unfold zclass
  split
  · exact zfitb rfl hw
  · split
    · exact zfitb rfl hw
    · exact zfitb rfl hw
theorem zfitbar5 (k : Int) {w : Int} : xfit (xty (zclass k) 5) (.int (zI w)) = true := by
  unfold zclass
  split
  · rfl
  · split <;> rfl
/-! bits -/
def zpc : Nat → Nat → Nat
  | 0, _ => 0
  | k + 1, n => n % 2 + zpc k (n / 2)

def fJ6_bitCount_0f7a4 (x : Int32) : Int32 := (((((((x - (((x.toUInt32 >>> ((1 : Int32).toUInt32 &&& Int32.toUInt32 31)).toInt32) &&& 1431655765)) &&& 858993459) + ((((x - (((x.toUInt32 >>> ((1 : Int32).toUInt32 &&& Int32.toUInt32 31)).toInt32) &&& 1431655765)).toUInt32 >>> ((2 : Int32).toUInt32 &&& Int32.toUInt32 31)).toInt32) &&& 858993459)) + (((((x - (((x.toUInt32 >>> ((1 : Int32).toUInt32 &&& Int32.toUInt32 31)).toInt32) &&& 1431655765)) &&& 858993459) + ((((x - (((x.toUInt32 >>> ((1 : Int32).toUInt32 &&& Int32.toUInt32 31)).toInt32) &&& 1431655765)).toUInt32 >>> ((2 : Int32).toUInt32 &&& Int32.toUInt32 31)).toInt32) &&& 858993459)).toUInt32 >>> ((4 : Int32).toUInt32 &&& Int32.toUInt32 31)).toInt32)) &&& 252645135) + (((((((x - (((x.toUInt32 >>> ((1 : Int32).toUInt32 &&& Int32.toUInt32 31)).toInt32) &&& 1431655765)) &&& 858993459) + ((((x - (((x.toUInt32 >>> ((1 : Int32).toUInt32 &&& Int32.toUInt32 31)).toInt32) &&& 1431655765)).toUInt32 >>> ((2 : Int32).toUInt32 &&& Int32.toUInt32 31)).toInt32) &&& 858993459)) + (((((x - (((x.toUInt32 >>> ((1 : Int32).toUInt32 &&& Int32.toUInt32 31)).toInt32) &&& 1431655765)) &&& 858993459) + ((((x - (((x.toUInt32 >>> ((1 : Int32).toUInt32 &&& Int32.toUInt32 31)).toInt32) &&& 1431655765)).toUInt32 >>> ((2 : Int32).toUInt32 &&& Int32.toUInt32 31)).toInt32) &&& 858993459)).toUInt32 >>> ((4 : Int32).toUInt32 &&& Int32.toUInt32 31)).toInt32)) &&& 252645135).toUInt32 >>> ((8 : Int32).toUInt32 &&& Int32.toUInt32 31)).toInt32)) + ((((((((x - (((x.toUInt32 >>> ((1 : Int32).toUInt32 &&& Int32.toUInt32 31)).toInt32) &&& 1431655765)) &&& 858993459) + ((((x - (((x.toUInt32 >>> ((1 : Int32).toUInt32 &&& Int32.toUInt32 31)).toInt32) &&& 1431655765)).toUInt32 >>> ((2 : Int32).toUInt32 &&& Int32.toUInt32 31)).toInt32) &&& 858993459)) + (((((x - (((x.toUInt32 >>> ((1 : Int32).toUInt32 &&& Int32.toUInt32 31)).toInt32) &&& 1431655765)) &&& 858993459) + ((((x - (((x.toUInt32 >>> ((1 : Int32).toUInt32 &&& Int32.toUInt32 31)).toInt32) &&& 1431655765)).toUInt32 >>> ((2 : Int32).toUInt32 &&& Int32.toUInt32 31)).toInt32) &&& 858993459)).toUInt32 >>> ((4 : Int32).toUInt32 &&& Int32.toUInt32 31)).toInt32)) &&& 252645135) + (((((((x - (((x.toUInt32 >>> ((1 : Int32).toUInt32 &&& Int32.toUInt32 31)).toInt32) &&& 1431655765)) &&& 858993459) + ((((x - (((x.toUInt32 >>> ((1 : Int32).toUInt32 &&& Int32.toUInt32 31)).toInt32) &&& 1431655765)).toUInt32 >>> ((2 : Int32).toUInt32 &&& Int32.toUInt32 31)).toInt32) &&& 858993459)) + (((((x - (((x.toUInt32 >>> ((1 : Int32).toUInt32 &&& Int32.toUInt32 31)).toInt32) &&& 1431655765)) &&& 858993459) + ((((x - (((x.toUInt32 >>> ((1 : Int32).toUInt32 &&& Int32.toUInt32 31)).toInt32) &&& 1431655765)).toUInt32 >>> ((2 : Int32).toUInt32 &&& Int32.toUInt32 31)).toInt32) &&& 858993459)).toUInt32 >>> ((4 : Int32).toUInt32 &&& Int32.toUInt32 31)).toInt32)) &&& 252645135).toUInt32 >>> ((8 : Int32).toUInt32 &&& Int32.toUInt32 31)).toInt32)).toUInt32 >>> ((16 : Int32).toUInt32 &&& Int32.toUInt32 31)).toInt32)) &&& 63
set_option maxRecDepth 20000 in
theorem t_J6_bitCount_0f7a4 (hp : xH) (x : Int32) : xC MJ6_bitCount_0f7a4 0 [.int x] hp (some (.int (fJ6_bitCount_0f7a4 x))) hp := by
  refine ⟨Nat.le_of_ble_eq_true rfl, ?_⟩
  show xBody MJ6_bitCount_0f7a4 0 0 [some (.int x)] [] hp _ _
  refine xB.run oJ6_bitCount_0f7a4 41 (s := (52, [some (.int (((((((x - (((x.toUInt32 >>> ((1 : Int32).toUInt32 &&& Int32.toUInt32 31)).toInt32) &&& 1431655765)) &&& 858993459) + ((((x - (((x.toUInt32 >>> ((1 : Int32).toUInt32 &&& Int32.toUInt32 31)).toInt32) &&& 1431655765)).toUInt32 >>> ((2 : Int32).toUInt32 &&& Int32.toUInt32 31)).toInt32) &&& 858993459)) + (((((x - (((x.toUInt32 >>> ((1 : Int32).toUInt32 &&& Int32.toUInt32 31)).toInt32) &&& 1431655765)) &&& 858993459) + ((((x - (((x.toUInt32 >>> ((1 : Int32).toUInt32 &&& Int32.toUInt32 31)).toInt32) &&& 1431655765)).toUInt32 >>> ((2 : Int32).toUInt32 &&& Int32.toUInt32 31)).toInt32) &&& 858993459)).toUInt32 >>> ((4 : Int32).toUInt32 &&& Int32.toUInt32 31)).toInt32)) &&& 252645135) + (((((((x - (((x.toUInt32 >>> ((1 : Int32).toUInt32 &&& Int32.toUInt32 31)).toInt32) &&& 1431655765)) &&& 858993459) + ((((x - (((x.toUInt32 >>> ((1 : Int32).toUInt32 &&& Int32.toUInt32 31)).toInt32) &&& 1431655765)).toUInt32 >>> ((2 : Int32).toUInt32 &&& Int32.toUInt32 31)).toInt32) &&& 858993459)) + (((((x - (((x.toUInt32 >>> ((1 : Int32).toUInt32 &&& Int32.toUInt32 31)).toInt32) &&& 1431655765)) &&& 858993459) + ((((x - (((x.toUInt32 >>> ((1 : Int32).toUInt32 &&& Int32.toUInt32 31)).toInt32) &&& 1431655765)).toUInt32 >>> ((2 : Int32).toUInt32 &&& Int32.toUInt32 31)).toInt32) &&& 858993459)).toUInt32 >>> ((4 : Int32).toUInt32 &&& Int32.toUInt32 31)).toInt32)) &&& 252645135).toUInt32 >>> ((8 : Int32).toUInt32 &&& Int32.toUInt32 31)).toInt32)) + ((((((((x - (((x.toUInt32 >>> ((1 : Int32).toUInt32 &&& Int32.toUInt32 31)).toInt32) &&& 1431655765)) &&& 858993459) + ((((x - (((x.toUInt32 >>> ((1 : Int32).toUInt32 &&& Int32.toUInt32 31)).toInt32) &&& 1431655765)).toUInt32 >>> ((2 : Int32).toUInt32 &&& Int32.toUInt32 31)).toInt32) &&& 858993459)) + (((((x - (((x.toUInt32 >>> ((1 : Int32).toUInt32 &&& Int32.toUInt32 31)).toInt32) &&& 1431655765)) &&& 858993459) + ((((x - (((x.toUInt32 >>> ((1 : Int32).toUInt32 &&& Int32.toUInt32 31)).toInt32) &&& 1431655765)).toUInt32 >>> ((2 : Int32).toUInt32 &&& Int32.toUInt32 31)).toInt32) &&& 858993459)).toUInt32 >>> ((4 : Int32).toUInt32 &&& Int32.toUInt32 31)).toInt32)) &&& 252645135) + (((((((x - (((x.toUInt32 >>> ((1 : Int32).toUInt32 &&& Int32.toUInt32 31)).toInt32) &&& 1431655765)) &&& 858993459) + ((((x - (((x.toUInt32 >>> ((1 : Int32).toUInt32 &&& Int32.toUInt32 31)).toInt32) &&& 1431655765)).toUInt32 >>> ((2 : Int32).toUInt32 &&& Int32.toUInt32 31)).toInt32) &&& 858993459)) + (((((x - (((x.toUInt32 >>> ((1 : Int32).toUInt32 &&& Int32.toUInt32 31)).toInt32) &&& 1431655765)) &&& 858993459) + ((((x - (((x.toUInt32 >>> ((1 : Int32).toUInt32 &&& Int32.toUInt32 31)).toInt32) &&& 1431655765)).toUInt32 >>> ((2 : Int32).toUInt32 &&& Int32.toUInt32 31)).toInt32) &&& 858993459)).toUInt32 >>> ((4 : Int32).toUInt32 &&& Int32.toUInt32 31)).toInt32)) &&& 252645135).toUInt32 >>> ((8 : Int32).toUInt32 &&& Int32.toUInt32 31)).toInt32)).toUInt32 >>> ((16 : Int32).toUInt32 &&& Int32.toUInt32 31)).toInt32)))], [.int ((((((((x - (((x.toUInt32 >>> ((1 : Int32).toUInt32 &&& Int32.toUInt32 31)).toInt32) &&& 1431655765)) &&& 858993459) + ((((x - (((x.toUInt32 >>> ((1 : Int32).toUInt32 &&& Int32.toUInt32 31)).toInt32) &&& 1431655765)).toUInt32 >>> ((2 : Int32).toUInt32 &&& Int32.toUInt32 31)).toInt32) &&& 858993459)) + (((((x - (((x.toUInt32 >>> ((1 : Int32).toUInt32 &&& Int32.toUInt32 31)).toInt32) &&& 1431655765)) &&& 858993459) + ((((x - (((x.toUInt32 >>> ((1 : Int32).toUInt32 &&& Int32.toUInt32 31)).toInt32) &&& 1431655765)).toUInt32 >>> ((2 : Int32).toUInt32 &&& Int32.toUInt32 31)).toInt32) &&& 858993459)).toUInt32 >>> ((4 : Int32).toUInt32 &&& Int32.toUInt32 31)).toInt32)) &&& 252645135) + (((((((x - (((x.toUInt32 >>> ((1 : Int32).toUInt32 &&& Int32.toUInt32 31)).toInt32) &&& 1431655765)) &&& 858993459) + ((((x - (((x.toUInt32 >>> ((1 : Int32).toUInt32 &&& Int32.toUInt32 31)).toInt32) &&& 1431655765)).toUInt32 >>> ((2 : Int32).toUInt32 &&& Int32.toUInt32 31)).toInt32) &&& 858993459)) + (((((x - (((x.toUInt32 >>> ((1 : Int32).toUInt32 &&& Int32.toUInt32 31)).toInt32) &&& 1431655765)) &&& 858993459) + ((((x - (((x.toUInt32 >>> ((1 : Int32).toUInt32 &&& Int32.toUInt32 31)).toInt32) &&& 1431655765)).toUInt32 >>> ((2 : Int32).toUInt32 &&& Int32.toUInt32 31)).toInt32) &&& 858993459)).toUInt32 >>> ((4 : Int32).toUInt32 &&& Int32.toUInt32 31)).toInt32)) &&& 252645135).toUInt32 >>> ((8 : Int32).toUInt32 &&& Int32.toUInt32 31)).toInt32)) + ((((((((x - (((x.toUInt32 >>> ((1 : Int32).toUInt32 &&& Int32.toUInt32 31)).toInt32) &&& 1431655765)) &&& 858993459) + ((((x - (((x.toUInt32 >>> ((1 : Int32).toUInt32 &&& Int32.toUInt32 31)).toInt32) &&& 1431655765)).toUInt32 >>> ((2 : Int32).toUInt32 &&& Int32.toUInt32 31)).toInt32) &&& 858993459)) + (((((x - (((x.toUInt32 >>> ((1 : Int32).toUInt32 &&& Int32.toUInt32 31)).toInt32) &&& 1431655765)) &&& 858993459) + ((((x - (((x.toUInt32 >>> ((1 : Int32).toUInt32 &&& Int32.toUInt32 31)).toInt32) &&& 1431655765)).toUInt32 >>> ((2 : Int32).toUInt32 &&& Int32.toUInt32 31)).toInt32) &&& 858993459)).toUInt32 >>> ((4 : Int32).toUInt32 &&& Int32.toUInt32 31)).toInt32)) &&& 252645135) + (((((((x - (((x.toUInt32 >>> ((1 : Int32).toUInt32 &&& Int32.toUInt32 31)).toInt32) &&& 1431655765)) &&& 858993459) + ((((x - (((x.toUInt32 >>> ((1 : Int32).toUInt32 &&& Int32.toUInt32 31)).toInt32) &&& 1431655765)).toUInt32 >>> ((2 : Int32).toUInt32 &&& Int32.toUInt32 31)).toInt32) &&& 858993459)) + (((((x - (((x.toUInt32 >>> ((1 : Int32).toUInt32 &&& Int32.toUInt32 31)).toInt32) &&& 1431655765)) &&& 858993459) + ((((x - (((x.toUInt32 >>> ((1 : Int32).toUInt32 &&& Int32.toUInt32 31)).toInt32) &&& 1431655765)).toUInt32 >>> ((2 : Int32).toUInt32 &&& Int32.toUInt32 31)).toInt32) &&& 858993459)).toUInt32 >>> ((4 : Int32).toUInt32 &&& Int32.toUInt32 31)).toInt32)) &&& 252645135).toUInt32 >>> ((8 : Int32).toUInt32 &&& Int32.toUInt32 31)).toInt32)).toUInt32 >>> ((16 : Int32).toUInt32 &&& Int32.toUInt32 31)).toInt32)) &&& 63)], hp)) rfl ?_
  exact xB.ret oJ6_bitCount_0f7a4 (r1 := some (.int ((((((((x - (((x.toUInt32 >>> ((1 : Int32).toUInt32 &&& Int32.toUInt32 31)).toInt32) &&& 1431655765)) &&& 858993459) + ((((x - (((x.toUInt32 >>> ((1 : Int32).toUInt32 &&& Int32.toUInt32 31)).toInt32) &&& 1431655765)).toUInt32 >>> ((2 : Int32).toUInt32 &&& Int32.toUInt32 31)).toInt32) &&& 858993459)) + (((((x - (((x.toUInt32 >>> ((1 : Int32).toUInt32 &&& Int32.toUInt32 31)).toInt32) &&& 1431655765)) &&& 858993459) + ((((x - (((x.toUInt32 >>> ((1 : Int32).toUInt32 &&& Int32.toUInt32 31)).toInt32) &&& 1431655765)).toUInt32 >>> ((2 : Int32).toUInt32 &&& Int32.toUInt32 31)).toInt32) &&& 858993459)).toUInt32 >>> ((4 : Int32).toUInt32 &&& Int32.toUInt32 31)).toInt32)) &&& 252645135) + (((((((x - (((x.toUInt32 >>> ((1 : Int32).toUInt32 &&& Int32.toUInt32 31)).toInt32) &&& 1431655765)) &&& 858993459) + ((((x - (((x.toUInt32 >>> ((1 : Int32).toUInt32 &&& Int32.toUInt32 31)).toInt32) &&& 1431655765)).toUInt32 >>> ((2 : Int32).toUInt32 &&& Int32.toUInt32 31)).toInt32) &&& 858993459)) + (((((x - (((x.toUInt32 >>> ((1 : Int32).toUInt32 &&& Int32.toUInt32 31)).toInt32) &&& 1431655765)) &&& 858993459) + ((((x - (((x.toUInt32 >>> ((1 : Int32).toUInt32 &&& Int32.toUInt32 31)).toInt32) &&& 1431655765)).toUInt32 >>> ((2 : Int32).toUInt32 &&& Int32.toUInt32 31)).toInt32) &&& 858993459)).toUInt32 >>> ((4 : Int32).toUInt32 &&& Int32.toUInt32 31)).toInt32)) &&& 252645135).toUInt32 >>> ((8 : Int32).toUInt32 &&& Int32.toUInt32 31)).toInt32)) + ((((((((x - (((x.toUInt32 >>> ((1 : Int32).toUInt32 &&& Int32.toUInt32 31)).toInt32) &&& 1431655765)) &&& 858993459) + ((((x - (((x.toUInt32 >>> ((1 : Int32).toUInt32 &&& Int32.toUInt32 31)).toInt32) &&& 1431655765)).toUInt32 >>> ((2 : Int32).toUInt32 &&& Int32.toUInt32 31)).toInt32) &&& 858993459)) + (((((x - (((x.toUInt32 >>> ((1 : Int32).toUInt32 &&& Int32.toUInt32 31)).toInt32) &&& 1431655765)) &&& 858993459) + ((((x - (((x.toUInt32 >>> ((1 : Int32).toUInt32 &&& Int32.toUInt32 31)).toInt32) &&& 1431655765)).toUInt32 >>> ((2 : Int32).toUInt32 &&& Int32.toUInt32 31)).toInt32) &&& 858993459)).toUInt32 >>> ((4 : Int32).toUInt32 &&& Int32.toUInt32 31)).toInt32)) &&& 252645135) + (((((((x - (((x.toUInt32 >>> ((1 : Int32).toUInt32 &&& Int32.toUInt32 31)).toInt32) &&& 1431655765)) &&& 858993459) + ((((x - (((x.toUInt32 >>> ((1 : Int32).toUInt32 &&& Int32.toUInt32 31)).toInt32) &&& 1431655765)).toUInt32 >>> ((2 : Int32).toUInt32 &&& Int32.toUInt32 31)).toInt32) &&& 858993459)) + (((((x - (((x.toUInt32 >>> ((1 : Int32).toUInt32 &&& Int32.toUInt32 31)).toInt32) &&& 1431655765)) &&& 858993459) + ((((x - (((x.toUInt32 >>> ((1 : Int32).toUInt32 &&& Int32.toUInt32 31)).toInt32) &&& 1431655765)).toUInt32 >>> ((2 : Int32).toUInt32 &&& Int32.toUInt32 31)).toInt32) &&& 858993459)).toUInt32 >>> ((4 : Int32).toUInt32 &&& Int32.toUInt32 31)).toInt32)) &&& 252645135).toUInt32 >>> ((8 : Int32).toUInt32 &&& Int32.toUInt32 31)).toInt32)).toUInt32 >>> ((16 : Int32).toUInt32 &&& Int32.toUInt32 31)).toInt32)) &&& 63))) rfl (by simp only [fJ6_bitCount_0f7a4]) rfl
def d_J6_bitCount (x : Int) : Option Int := if 0 ≤ x ∧ x < 4096 then some ((zpc 12 x.toNat : Nat) : Int) else none
theorem zpc_run0 : ∀ a : Nat, a < 64 → ∀ b : Nat, b < 64 → (fun x : Int32 => (fJ6_bitCount_0f7a4 x)) (zI ((64 * a + b : Nat) : Int)) = zI ((zpc 12 (64 * a + b) : Nat) : Int) := by decide +kernel
theorem zpc_run (n : Nat) (h : n < 4096) : (fun x : Int32 => (fJ6_bitCount_0f7a4 x)) (zI (n : Int)) = zI ((zpc 12 n : Nat) : Int) := by
  have := zpc_run0 (n / 64) (by omega) (n % 64) (by omega)
  rwa [Nat.div_add_mod] at this
theorem t_J6_bitCount (r0 r1 r2 r3 r4 r5 r6 r7 r8 r9 : List va_E) (x : Int) {rr : Int} (H : d_J6_bitCount x = some rr) : xC MJ6_bitCount_0f7a4 0 [.int (zI x)] [r0, r1, r2, r3, r4, r5, r6, r7, r8, r9] (some (.int (zI rr))) [r0, r1, r2, r3, r4, r5, r6, r7, r8, r9] := by
  obtain ⟨g, H⟩ := zgd H
  obtain rfl := Option.some.inj H
  have := zpc_run x.toNat (by omega)
  rw [Int.toNat_of_nonneg g.1] at this
  rw [← this]
  exact t_J6_bitCount_0f7a4 _ (zI x)
