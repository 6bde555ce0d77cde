/-! bars: new ones, calls on them -/
def znew (s : zZ) (n : Nat) : zZ := fun q => if q = n then (fun _ => 0) else s q
theorem zH_len (s : zZ) : ∀ (L : List zD) (k : Nat), (zH s L k).length = L.length
  | [], _ => rfl
  | d :: L, k => by simp only [zH, List.length_cons, zH_len s L (k + 1)]
theorem zH_snoc (s : zZ) (f : Nat → Int) (d : zD) : ∀ (L : List zD) (k : Nat), zH s L k ++ [zcell d f] = zH (fun q => if q = k + L.length then f else s q) (L ++ [d]) k
  | [], k => by simp [zH]
  | d' :: L, k => by
    simp only [zH, List.cons_append, List.length_cons]
    rw [zH_snoc s f d L (k + 1), if_neg (by omega), show k + 1 + L.length = k + (L.length + 1) by omega]
theorem zLb_len (ks : List Int) : (zLb ks).length = ks.length := by simp [zLb]
theorem zxreg8 {n : Nat} (h : n < 16) : xreg (144 + n) = 8 := by
  unfold xreg
  rw [if_neg (by omega), if_neg (by omega), if_neg (by omega), if_neg (by omega), if_neg (by omega), if_neg (by omega), if_neg (by omega), if_neg (by omega)]
section ZV
variable {M : xM} {d pc : Nat} {lv : xL} {st : List Value} {hp : xH} {r : Option Value} {hp' : xH}
theorem zB.newbar (hM : xokM M = true) {nx f ci : Nat} {kk : List (Nat × Nat)} {ws : List Nat} {v : Value} {kd : Int} {s0 s1 s2 s3 s4 s5 s6 s7 s8 : zZ} {ks : List Int} {r9 : List va_E} {hp1 : xH} (hrow : xrow M.2.2.2.2 pc = some (.new f, nx, ci, kk, ws, v)) (hci : zclass kd = ci) (hhp : hp = [zH s0 zL0 0, zH s1 zL1 0, zH s2 zL2 0, zH s3 zL3 0, zH s4 zL4 0, zH s5 zL5 0, zH s6 zL6 0, zH s7 zL7 0, zH s8 (zLb ks) 0, r9]) (hg : ks.length < 16) (he : [zH s0 zL0 0, zH s1 zL1 0, zH s2 zL2 0, zH s3 zL3 0, zH s4 zL4 0, zH s5 zL5 0, zH s6 zL6 0, zH s7 zL7 0, zH (znew s8 ks.length) (zLb (ks ++ [kd])) 0, r9] = hp1) (K : xBody M d nx lv (.ref (1024 * 8 + ks.length) :: st) hp1 r hp') : xBody M d pc lv st hp r hp' := by
  subst he
  refine xB.next hM (s := (nx, lv, .ref (1024 * 8 + ks.length) :: st, _)) ?_ K
  unfold x1
  rw [hrow]
  show (if xtot hp < 160 then xnx nx lv (.ref (xfr (xtot hp)) :: st) (xpush hp (.inr (ci, xdf ci))) else none) = _
  have ht : xtot hp = 144 + ks.length := by
    rw [hhp]
    unfold xtot
    simp only [List.take_succ_cons, List.take_zero, List.map_cons, List.map_nil, List.sum_cons, List.sum_nil, zH_len, zLb_len]
    show 1 + (17 + (32 + (45 + (5 + (4 + (8 + (32 + (ks.length + 0)))))))) = _
    omega
  rw [if_pos (by omega)]
  have h1 : xfr (xtot hp) = 1024 * 8 + ks.length := by
    rw [ht]
    unfold xfr
    rw [zxreg8 hg]
    show 1024 * 8 + (144 + ks.length - 144) = _
    omega
  have h2 : xpush hp (.inr (ci, xdf ci)) = [zH s0 zL0 0, zH s1 zL1 0, zH s2 zL2 0, zH s3 zL3 0, zH s4 zL4 0, zH s5 zL5 0, zH s6 zL6 0, zH s7 zL7 0, zH (znew s8 ks.length) (zLb (ks ++ [kd])) 0, r9] := by
    unfold xpush
    rw [ht, zxreg8 hg, hhp]
    show [zH s0 zL0 0, zH s1 zL1 0, zH s2 zL2 0, zH s3 zL3 0, zH s4 zL4 0, zH s5 zL5 0, zH s6 zL6 0, zH s7 zL7 0, zH s8 (zLb ks) 0 ++ [.inr (ci, xdf ci)], r9] = _
    have e1 : (.inr (ci, xdf ci) : va_E) = zcell (zclass kd + 6, 6, [(0, 0), (0, 0), (0, 0), (0, 0), (0, 0), (0, 0)]) (fun _ => 0) := by
      rw [← hci]
      unfold zclass
      split
      · rfl
      · split <;> rfl
    rw [e1, zH_snoc, Nat.zero_add, zLb_len]
    unfold znew zLb
    rw [List.map_append]
    rfl
  rw [h1, h2]
  rfl
theorem zB.aastB (hM : xokM M = true) {nx x0 a g p N q n : Nat} {kk : List (Nat × Nat)} {ws : List Nat} {v : Value} {s s2 : zZ} {L L2 : List zD} {l l2 : List (Nat × Nat)} {i : Int} {st0 : List Value} {hp1 : xH} {kd : Int} (hrow : xrow M.2.2.2.2 pc = some (.aastore, nx, x0, kk, ws, v)) (ha : a = 1024 * g + p) (h0 : p < 1024) (hg : g < 9) (hr : hp[g]? = some (zH s L 0)) (hd : L[p]? = some (5, N, l)) (hN : N ≤ 4096) (hi : 0 ≤ i ∧ i < N) (hin : i = s p 0) (hq : q = i.toNat) (h2 : q < 1024) (hr2 : hp[8]? = some (zH s2 L2 0)) (hd2 : L2[q]? = some (zclass kd + 6, n, l2)) (he : hp.set g (zH (upz s p 0 (i + 1)) L 0) = hp1) (K : xBody M d nx lv st0 hp1 r hp') : xBody M d pc lv (.ref (1024 * 8 + q) :: .int (zI i) :: .ref a :: st0) hp r hp' := by
  refine xB.next hM (s := (nx, lv, st0, hp1)) ?_ K
  unfold x1
  rw [hrow]
  show (match xget hp a, xget hp (1024 * 8 + q) with
      | some (.inl (4, N, .inr (.inr (.inr (.inr f))))), some (.inl (1, _)) => if zI i < 0 ∨ N ≤ (zI i).toNatClampNeg ∨ 9216 ≤ a ∨ 9216 ≤ 1024 * 8 + q then none else xnx nx lv st0 (xset hp a (.inl (4, N, .inr (.inr (.inr (.inr (va_up f (zI i).toNatClampNeg (some (1024 * 8 + q)))))))))
      | some (.inl (5, N, .inr (.inr (.inr (.inr f))))), some (.inr (ci, _)) => if zI i < 0 ∨ N ≤ (zI i).toNatClampNeg ∨ 9216 ≤ a ∨ 9216 ≤ 1024 * 8 + q ∨ ¬ (ci = 0 ∨ ci = 1 ∨ ci = 3) then none else xnx nx lv st0 (xset hp a (.inl (5, N, .inr (.inr (.inr (.inr (va_up f (zI i).toNatClampNeg (some (1024 * 8 + q)))))))))
      | _, _ => none) = _
  rw [zget ha h0 hr hd, zget rfl h2 hr2 hd2]
  have hz := zin hN hi
  have hc : zclass kd = 0 ∨ zclass kd = 1 ∨ zclass kd = 3 := by
    unfold zclass
    split
    · exact Or.inr (Or.inr rfl)
    · split
      · exact Or.inr (Or.inl rfl)
      · exact Or.inl rfl
  show (if zI i < 0 ∨ N ≤ (zI i).toNatClampNeg ∨ 9216 ≤ a ∨ 9216 ≤ 1024 * 8 + q ∨ ¬ (zclass kd = 0 ∨ zclass kd = 1 ∨ zclass kd = 3) then none else xnx nx lv st0 (xset hp a (.inl (5, N, .inr (.inr (.inr (.inr (va_up (fun i => if i < (s p 0).toNat then some (1024 * 8 + i) else none) (zI i).toNatClampNeg (some (1024 * 8 + q)))))))))) = _
  rw [if_neg (fun z => by rcases z with z | z | z | z | z; exact hz (Or.inl z); exact hz (Or.inr z); omega; omega; exact z hc), zcl hN hi]
  have e : va_up (fun i => if i < (s p 0).toNat then some (1024 * 8 + i) else none) i.toNat (some (1024 * 8 + q)) = (fun j => if j < (((fun j => if j = 0 then i + 1 else s p j) : Nat → Int) 0).toNat then some (1024 * 8 + j) else none) := by
    funext j
    unfold va_up
    show (if j = i.toNat then some (1024 * 8 + q) else if j < (s p 0).toNat then some (1024 * 8 + j) else none) = (if j < (i + 1).toNat then some (1024 * 8 + j) else none)
    by_cases hj : j = i.toNat
    · rw [if_pos hj, if_pos (by omega), hq, hj]
    · rw [if_neg hj]
      by_cases hk : j < (s p 0).toNat
      · rw [if_pos hk, if_pos (by omega)]
      · rw [if_neg hk, if_neg (by omega)]
  rw [e, ← he]
  have := zset ha h0 hr hd 0 (i + 1)
  rw [← this]
  rfl
variable {nx x0 a g p f n i : Nat} {kk : List (Nat × Nat)} {ws : List Nat} {v : Value} {s : zZ} {L : List zD} {q : List (Nat × Nat)} {c m : Nat}
theorem zB.inst0 (hM : xokM M = true) (hrow : xrow M.2.2.2.2 pc = some (.instanceof f, nx, x0, kk, ws, v)) (ha : a = 1024 * g + p) (h0 : p < 1024) (hr : hp[g]? = some (zH s L 0)) (hd : L[p]? = some (c + 6, m, q)) (hk : xks kk c = some 0) (K : xBody M d nx lv (.int (zI 0) :: st) hp r hp') : xBody M d pc lv (.ref a :: st) hp r hp' := by
  refine xB.next hM (s := (nx, lv, .int (zI 0) :: st, hp)) ?_ K
  unfold x1
  rw [hrow]
  show (match xget hp a with
      | some (.inr (ci, _)) => match xks kk ci with
        | some 0 => xnx nx lv (.int 0 :: st) hp
        | some 1 => xnx nx lv (.int 1 :: st) hp
        | _ => none
      | _ => none) = _
  rw [zget ha h0 hr hd]
  show (match xks kk c with
        | some 0 => xnx nx lv (.int 0 :: st) hp
        | some 1 => xnx nx lv (.int 1 :: st) hp
        | _ => none) = _
  rw [hk]
  rfl
theorem zB.inst1 (hM : xokM M = true) (hrow : xrow M.2.2.2.2 pc = some (.instanceof f, nx, x0, kk, ws, v)) (ha : a = 1024 * g + p) (h0 : p < 1024) (hr : hp[g]? = some (zH s L 0)) (hd : L[p]? = some (c + 6, m, q)) (hk : xks kk c = some 1) (K : xBody M d nx lv (.int (zI 1) :: st) hp r hp') : xBody M d pc lv (.ref a :: st) hp r hp' := by
  refine xB.next hM (s := (nx, lv, .int (zI 1) :: st, hp)) ?_ K
  unfold x1
  rw [hrow]
  show (match xget hp a with
      | some (.inr (ci, _)) => match xks kk ci with
        | some 0 => xnx nx lv (.int 0 :: st) hp
        | some 1 => xnx nx lv (.int 1 :: st) hp
        | _ => none
      | _ => none) = _
  rw [zget ha h0 hr hd]
  show (match xks kk c with
        | some 0 => xnx nx lv (.int 0 :: st) hp
        | some 1 => xnx nx lv (.int 1 :: st) hp
        | _ => none) = _
  rw [hk]
  rfl
theorem zB.callv (hM : xokM M = true) {M2 : xM} {r1 : Option Value} {hp1 : xH} (hrow : xrow M.2.2.2.2 pc = some (.invokevirtual f, nx, x0, kk, ws, .retAddr n)) (hst : st[n]? = some (.ref a)) (ha : a = 1024 * 8 + p) (h0 : p < 1024) (hr : hp[8]? = some (zH s L 0)) (hd : L[p]? = some (c + 6, m, q)) (hk : xks kk c = some i) (hcat : ((st.drop (n + 1)).map fun v => v.category).sum ≤ 8) (hM2 : xMs[i]? = some M2) (hc : xC M2 d (.ref a :: (st.take n).reverse) hp r1 hp1) (K : xBody M (d + 1) nx lv (r1.toList ++ st.drop (n + 1)) hp1 r hp') : xBody M (d + 1) pc lv st hp r hp' := by
  refine xB.call hM (i := i) (as := .ref a :: (st.take n).reverse) (rest := st.drop (n + 1)) (nx := nx) ?_ hM2 hc K
  unfold x1
  rw [hrow]
  show (match st[n]? with
      | some (.ref o) => match xget hp o with
        | some (.inr (ci, _)) => match xks kk ci with
          | some i => xcall i (.ref o :: (st.take n).reverse) (st.drop (n + 1)) nx
          | none => none
        | _ => none
      | _ => none) = _
  rw [hst]
  show (match xget hp a with
        | some (.inr (ci, _)) => match xks kk ci with
          | some i => xcall i (.ref a :: (st.take n).reverse) (st.drop (n + 1)) nx
          | none => none
        | _ => none) = _
  rw [zget ha h0 hr hd]
  show (match xks kk c with
          | some i => xcall i (.ref a :: (st.take n).reverse) (st.drop (n + 1)) nx
          | none => none) = _
  rw [hk]
  show xcall i (.ref a :: (st.take n).reverse) (st.drop (n + 1)) nx = _
  unfold xcall
  rw [if_pos hcat]
theorem zB.calls (hM : xokM M = true) {k0 : Nat × Nat} {M2 : xM} {r1 : Option Value} {hp1 : xH} (hrow : xrow M.2.2.2.2 pc = some (.invokespecial f, nx, x0, k0 :: kk, ws, .retAddr n)) (hst : st[n]? = some (.ref a)) (ha : a = 1024 * 8 + p) (h0 : p < 1024) (hr : hp[8]? = some (zH s L 0)) (hd : L[p]? = some (c + 6, m, q)) (hk : xks (k0 :: kk) c = some i) (hcat : ((st.drop (n + 1)).map fun v => v.category).sum ≤ 8) (hM2 : xMs[i]? = some M2) (hc : xC M2 d (.ref a :: (st.take n).reverse) hp r1 hp1) (K : xBody M (d + 1) nx lv (r1.toList ++ st.drop (n + 1)) hp1 r hp') : xBody M (d + 1) pc lv st hp r hp' := by
  refine xB.call hM (i := i) (as := .ref a :: (st.take n).reverse) (rest := st.drop (n + 1)) (nx := nx) ?_ hM2 hc K
  unfold x1
  rw [hrow]
  show (match st[n]? with
      | some (.ref o) => match xget hp o with
          | some (.inr (ci, _)) => match xks (k0 :: kk) ci with
            | some i => xcall i (.ref o :: (st.take n).reverse) (st.drop (n + 1)) nx
            | none => none
          | _ => none
      | _ => none) = _
  rw [hst]
  show (match xget hp a with
        | some (.inr (ci, _)) => match xks (k0 :: kk) ci with
          | some i => xcall i (.ref a :: (st.take n).reverse) (st.drop (n + 1)) nx
          | none => none
        | _ => none) = _
  rw [zget ha h0 hr hd]
  show (match xks (k0 :: kk) c with
          | some i => xcall i (.ref a :: (st.take n).reverse) (st.drop (n + 1)) nx
          | none => none) = _
  rw [hk]
  show xcall i (.ref a :: (st.take n).reverse) (st.drop (n + 1)) nx = _
  unfold xcall
  rw [if_pos hcat]
end ZV
theorem zks_bar2 {k : Int} {j0 : Nat} {l : List (Nat × Nat)} (h : k = 1 ∨ k = 2) (h3 : xks l 3 = some j0) (h1 : xks l 1 = some j0) : xks l (zclass k) = some j0 := by
  rcases h with rfl | rfl
  · exact h3
  · exact h1
theorem zfitbar0 (k : Int) {w : Int} : xfit (xty (zclass k) 0) (.int (zI w)) = true := by
  unfold zclass
  split
  · rfl
  · split <;> rfl
theorem zfitbar1 (k : Int) {w : Int} : xfit (xty (zclass k) 1) (.int (zI w)) = true := by
  unfold zclass
  split
  · rfl
  · split <;> rfl
theorem zfitbar2 (k : Int) {w : Int} : xfit (xty (zclass k) 2) (.int (zI w)) = true := by
  unfold zclass
  split
  · rfl
  · split <;> rfl
theorem zfitbar3 (k : Int) {w : Int} : xfit (xty (zclass k) 3) (.int (zI w)) = true := by
  unfold zclass
  split
  · rfl
  · split <;> rfl
