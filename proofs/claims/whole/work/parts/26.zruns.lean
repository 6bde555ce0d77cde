/-! rules of runs over Int: comparisons, cells -/
theorem zc_eq {a b : Int} (h : zr a ∧ zr b) : xcmp .eq (zI a) (zI b) = decide (a = b) := decide_eq_decide.mpr ⟨fun q => by have := congrArg Int32.toInt q; rwa [zi_toInt h.1, zi_toInt h.2] at this, fun q => by rw [q]⟩
theorem zc_ne {a b : Int} (h : zr a ∧ zr b) : xcmp .ne (zI a) (zI b) = decide (a ≠ b) := decide_eq_decide.mpr (not_congr ⟨fun q => by have := congrArg Int32.toInt q; rwa [zi_toInt h.1, zi_toInt h.2] at this, fun q => by rw [q]⟩)
theorem zc_lt {a b : Int} (h : zr a ∧ zr b) : xcmp .lt (zI a) (zI b) = decide (a < b) := decide_eq_decide.mpr (by rw [Int32.lt_iff_toInt_lt, zi_toInt h.1, zi_toInt h.2])
theorem zc_ge {a b : Int} (h : zr a ∧ zr b) : xcmp .ge (zI a) (zI b) = decide (b ≤ a) := decide_eq_decide.mpr (by rw [Int32.le_iff_toInt_le, zi_toInt h.1, zi_toInt h.2])
theorem zc_gt {a b : Int} (h : zr a ∧ zr b) : xcmp .gt (zI a) (zI b) = decide (b < a) := decide_eq_decide.mpr (by rw [Int32.lt_iff_toInt_lt, zi_toInt h.1, zi_toInt h.2])
theorem zc_le {a b : Int} (h : zr a ∧ zr b) : xcmp .le (zI a) (zI b) = decide (a ≤ b) := decide_eq_decide.mpr (by rw [Int32.le_iff_toInt_le, zi_toInt h.1, zi_toInt h.2])
theorem zj_inj {a b : Int} (h : zrl a ∧ zrl b) : zJ a = zJ b ↔ a = b := ⟨fun q => by have := congrArg Int64.toInt q; rwa [zj_toInt h.1, zj_toInt h.2] at this, fun q => by rw [q]⟩
theorem zl_eq {a b : Int} (h : zrl a ∧ zrl b) : xcmp .eq (lg_cmp (zJ a) (zJ b)) 0 = decide (a = b) := by rw [xlc_eq]; exact decide_eq_decide.mpr (zj_inj h)
theorem zl_ne {a b : Int} (h : zrl a ∧ zrl b) : xcmp .ne (lg_cmp (zJ a) (zJ b)) 0 = decide (a ≠ b) := by rw [xlc_ne]; exact decide_eq_decide.mpr (not_congr (zj_inj h))
theorem zl_lt {a b : Int} (h : zrl a ∧ zrl b) : xcmp .lt (lg_cmp (zJ a) (zJ b)) 0 = decide (a < b) := by rw [xlc_lt]; exact decide_eq_decide.mpr (by rw [Int64.lt_iff_toInt_lt, zj_toInt h.1, zj_toInt h.2])
theorem zl_ge {a b : Int} (h : zrl a ∧ zrl b) : xcmp .ge (lg_cmp (zJ a) (zJ b)) 0 = decide (b ≤ a) := by rw [xlc_ge]; exact decide_eq_decide.mpr (by rw [Int64.le_iff_toInt_le, zj_toInt h.1, zj_toInt h.2])
theorem zl_gt {a b : Int} (h : zrl a ∧ zrl b) : xcmp .gt (lg_cmp (zJ a) (zJ b)) 0 = decide (b < a) := by rw [xlc_gt]; exact decide_eq_decide.mpr (by rw [Int64.lt_iff_toInt_lt, zj_toInt h.1, zj_toInt h.2])
theorem zl_le {a b : Int} (h : zrl a ∧ zrl b) : xcmp .le (lg_cmp (zJ a) (zJ b)) 0 = decide (a ≤ b) := by rw [xlc_le]; exact decide_eq_decide.mpr (by rw [Int64.le_iff_toInt_le, zj_toInt h.1, zj_toInt h.2])
/-- guards and branches of a program -/
theorem zgd {α : Type} {P : Prop} [Decidable P] {A : Option α} {x : α} (H : (if P then A else none) = some x) : P ∧ A = some x := by
  by_cases h : P
  · rw [if_pos h] at H; exact ⟨h, H⟩
  · rw [if_neg h] at H; cases H
theorem zif {α : Type} {P : Prop} [Decidable P] {A B : Option α} {x : α} (H : (if P then A else B) = some x) : (P → A = some x) ∧ (¬ P → B = some x) := by
  by_cases h : P
  · rw [if_pos h] at H; exact ⟨fun _ => H, fun q => absurd h q⟩
  · rw [if_neg h] at H; exact ⟨fun q => absurd q h, fun _ => H⟩
theorem zbd {α β : Type} {A : Option α} {f : α → Option β} {x : β} (H : A.bind f = some x) : ∃ v, A = some v ∧ f v = some x := by
  cases A with
  | none => cases H
  | some v => exact ⟨v, rfl, H⟩
theorem zin {i : Int} {N : Nat} (hN : N ≤ 4096) (hi : 0 ≤ i ∧ i < N) : ¬ (zI i < 0 ∨ N ≤ (zI i).toNatClampNeg) := by
  rw [show (zI i).toNatClampNeg = i.toNat from Int32.toNatClampNeg_ofInt_of_le (by omega) (by omega), Int32.lt_iff_toInt_lt, zi_toInt (by omega)]
  show ¬ (i < 0 ∨ N ≤ i.toNat)
  omega
theorem zcl {i : Int} {N : Nat} (hN : N ≤ 4096) (hi : 0 ≤ i ∧ i < N) : (zI i).toNatClampNeg = i.toNat := Int32.toNatClampNeg_ofInt_of_le (by omega) (by omega)
theorem zfld_int (f : Nat → Int) : ∀ (l : List (Nat × Nat)) (k j y : Nat), l[j]? = some (0, y) → (zfld f l k)[j]? = some (.int (zI (f (k + j))))
  | [], _, _, _, h => by simp at h
  | (0, a) :: l, k, 0, y, h => by simp [zfld]
  | (1, a) :: l, k, 0, y, h => by simp at h
  | (c + 2, a) :: l, k, 0, y, h => by simp at h
  | (0, a) :: l, k, j + 1, y, h => by
    simp only [zfld, List.getElem?_cons_succ] at h ⊢
    rw [zfld_int f l (k + 1) j y h, show k + 1 + j = k + (j + 1) by omega]
  | (1, a) :: l, k, j + 1, y, h => by
    simp only [zfld, List.getElem?_cons_succ] at h ⊢
    rw [zfld_int f l (k + 1) j y h, show k + 1 + j = k + (j + 1) by omega]
  | (c + 2, a) :: l, k, j + 1, y, h => by
    simp only [zfld, List.getElem?_cons_succ] at h ⊢
    rw [zfld_int f l (k + 1) j y h, show k + 1 + j = k + (j + 1) by omega]
theorem zfld_out (f : Nat → Int) (i : Nat) (v : Int) : ∀ (l : List (Nat × Nat)) (k : Nat), i < k → zfld (fun j => if j = i then v else f j) l k = zfld f l k
  | [], _, _ => rfl
  | (0, a) :: l, k, h => by simp only [zfld]; rw [zfld_out f i v l (k + 1) (by omega), if_neg (by omega)]
  | (1, a) :: l, k, h => by simp only [zfld]; rw [zfld_out f i v l (k + 1) (by omega), if_neg (by omega)]
  | (c + 2, a) :: l, k, h => by simp only [zfld]; rw [zfld_out f i v l (k + 1) (by omega)]
theorem zfld_setI (f : Nat → Int) (v : Int) : ∀ (l : List (Nat × Nat)) (k j y : Nat), l[j]? = some (0, y) → (zfld f l k).set j (.int (zI v)) = zfld (fun i => if i = k + j then v else f i) l k
  | [], _, _, _, h => by simp at h
  | (0, a) :: l, k, 0, y, h => by simp only [zfld, List.set_cons_zero, Nat.add_zero, if_pos]; rw [zfld_out f k v l (k + 1) (by omega)]
  | (1, a) :: l, k, 0, y, h => by simp at h
  | (c + 2, a) :: l, k, 0, y, h => by simp at h
  | (0, a) :: l, k, j + 1, y, h => by
    simp only [List.getElem?_cons_succ] at h
    simp only [zfld, List.set_cons_succ]
    rw [zfld_setI f v l (k + 1) j y h, if_neg (by omega), show k + 1 + j = k + (j + 1) by omega]
  | (1, a) :: l, k, j + 1, y, h => by
    simp only [List.getElem?_cons_succ] at h
    simp only [zfld, List.set_cons_succ]
    rw [zfld_setI f v l (k + 1) j y h, if_neg (by omega), show k + 1 + j = k + (j + 1) by omega]
  | (c + 2, a) :: l, k, j + 1, y, h => by
    simp only [List.getElem?_cons_succ] at h
    simp only [zfld, List.set_cons_succ]
    rw [zfld_setI f v l (k + 1) j y h, show k + 1 + j = k + (j + 1) by omega]
theorem zfld_setL (f : Nat → Int) (v : Int) : ∀ (l : List (Nat × Nat)) (k j y : Nat), l[j]? = some (1, y) → (zfld f l k).set j (.long (zJ v)) = zfld (fun i => if i = k + j then v else f i) l k
  | [], _, _, _, h => by simp at h
  | (1, a) :: l, k, 0, y, h => by simp only [zfld, List.set_cons_zero, Nat.add_zero, if_pos]; rw [zfld_out f k v l (k + 1) (by omega)]
  | (0, a) :: l, k, 0, y, h => by simp at h
  | (c + 2, a) :: l, k, 0, y, h => by simp at h
  | (0, a) :: l, k, j + 1, y, h => by
    simp only [List.getElem?_cons_succ] at h
    simp only [zfld, List.set_cons_succ]
    rw [zfld_setL f v l (k + 1) j y h, if_neg (by omega), show k + 1 + j = k + (j + 1) by omega]
  | (1, a) :: l, k, j + 1, y, h => by
    simp only [List.getElem?_cons_succ] at h
    simp only [zfld, List.set_cons_succ]
    rw [zfld_setL f v l (k + 1) j y h, if_neg (by omega), show k + 1 + j = k + (j + 1) by omega]
  | (c + 2, a) :: l, k, j + 1, y, h => by
    simp only [List.getElem?_cons_succ] at h
    simp only [zfld, List.set_cons_succ]
    rw [zfld_setL f v l (k + 1) j y h, show k + 1 + j = k + (j + 1) by omega]
theorem zfld_len (f : Nat → Int) : ∀ (l : List (Nat × Nat)) (k : Nat), (zfld f l k).length = l.length
  | [], _ => rfl
  | (0, a) :: l, k => by simp only [zfld, List.length_cons, zfld_len f l]
  | (1, a) :: l, k => by simp only [zfld, List.length_cons, zfld_len f l]
  | (c + 2, a) :: l, k => by simp only [zfld, List.length_cons, zfld_len f l]
/-- a bar or none -/
def zref (e : Int) : Value := if e < 0 then .null else .ref (1024 * 8 + e.toNat)
theorem zref_neg {e : Int} (h : e < 0) : zref e = .null := if_pos h
theorem zref_pos {e : Int} (h : ¬ e < 0) : zref e = .ref (1024 * 8 + e.toNat) := if_neg h
section ZB
variable {M : xM} {d pc : Nat} {lv : xL} {st : List Value} {hp : xH} {r : Option Value} {hp' : xH}
theorem zB.opi (hM : xokM M = true) {nx : Nat} {x : Int32} {y : Int} {st0 : List Value} (h : x1 M.2.2.2.2 pc lv st hp = some (.inl (nx, lv, .int x :: st0, hp))) (e : x = zI y) (K : xBody M d nx lv (.int (zI y) :: st0) hp r hp') : xBody M d pc lv st hp r hp' := by
  subst e
  exact xB.next hM h K
theorem zB.opl (hM : xokM M = true) {nx : Nat} {x : Int64} {y : Int} {st0 : List Value} (h : x1 M.2.2.2.2 pc lv st hp = some (.inl (nx, lv, .long x :: st0, hp))) (e : x = zJ y) (K : xBody M d nx lv (.long (zJ y) :: st0) hp r hp') : xBody M d pc lv st hp r hp' := by
  subst e
  exact xB.next hM h K
/-- iinc -/
theorem zB.inc (hM : xokM M = true) {nx : Nat} {lv1 lv2 : xL} (h : x1 M.2.2.2.2 pc lv st hp = some (.inl (nx, lv1, st, hp))) (e : lv1 = lv2) (K : xBody M d nx lv2 st hp r hp') : xBody M d pc lv st hp r hp' := by
  subst e
  exact xB.next hM h K
theorem zi_inc {a : Int} {lv : xL} {i : Nat} {x c : Int32} {z : Int} (h : x + c = zI z) (lv1 : xL) (e : xst1 lv i (.int (zI z)) = lv1) : xst1 lv i (.int (x + c)) = lv1 := by
  rw [h, e]
theorem zB.divi (hM : xokM M = true) {nx : Nat} {x y : Int32} {q : Int} {st0 : List Value} (h : x1 M.2.2.2.2 pc lv st hp = if y = 0 then none else some (.inl (nx, lv, .int x :: st0, hp))) (e : x = zI q) {b : Int} (hy : y = zI b) (hb : b ≠ 0 ∧ zr b) (K : xBody M d nx lv (.int (zI q) :: st0) hp r hp') : xBody M d pc lv st hp r hp' := by
  subst e
  refine xB.next hM (s := (nx, lv, .int (zI q) :: st0, hp)) ?_ K
  rw [h, if_neg]
  rw [hy]
  intro z
  have := congrArg Int32.toInt z
  rw [zi_toInt hb.2] at this
  exact hb.1 this
theorem zB.divl (hM : xokM M = true) {nx : Nat} {x y : Int64} {q : Int} {st0 : List Value} (h : x1 M.2.2.2.2 pc lv st hp = if y = 0 then none else some (.inl (nx, lv, .long x :: st0, hp))) (e : x = zJ q) {b : Int} (hy : y = zJ b) (hb : b ≠ 0 ∧ zrl b) (K : xBody M d nx lv (.long (zJ q) :: st0) hp r hp') : xBody M d pc lv st hp r hp' := by
  subst e
  refine xB.next hM (s := (nx, lv, .long (zJ q) :: st0, hp)) ?_ K
  rw [h, if_neg]
  rw [hy]
  intro z
  have := congrArg Int64.toInt z
  rw [zj_toInt hb.2] at this
  exact hb.1 this
/-- a boolean answer -/
theorem zB.retb (hM : xokM M = true) {v : Int} (h : x1 M.2.2.2.2 pc lv st hp = if 1 = 1 ∧ ¬ (zI v = 0 ∨ zI v = 1) then none else some (.inr (.inl (some (.int (zI v)))))) (hv : v = 0 ∨ v = 1) : xBody M d pc lv st hp (some (.int (zI v))) hp := by
  refine xB.ret hM (r1 := some (.int (zI v))) ?_ rfl rfl
  rw [h, if_neg]
  rintro ⟨-, q⟩
  apply q
  rcases hv with rfl | rfl
  · exact Or.inl rfl
  · exact Or.inr rfl
variable {nx x0 a g p N : Nat} {ks : List (Nat × Nat)} {ws : List Nat} {v : Value} {q : List (Nat × Nat)} {s : zZ} {L : List zD} {i : Int} {st0 : List Value}
theorem zB.iald (hM : xokM M = true) (hrow : xrow M.2.2.2.2 pc = some (.iaload, nx, x0, ks, ws, v)) (ha : a = 1024 * g + p) (h0 : p < 1024) (hr : hp[g]? = some (zH s L 0)) (hd : L[p]? = some (0, N, q)) (hN : N ≤ 4096) (hi : 0 ≤ i ∧ i < N) (K : xBody M d nx lv (.int (zI (s p i.toNat)) :: st0) hp r hp') : xBody M d pc lv (.int (zI i) :: .ref a :: st0) hp r hp' := by
  refine xB.iald hM hrow (zget ha h0 hr hd) (zin hN hi) ?_
  rw [zcl hN hi]
  exact K
theorem zB.bald (hM : xokM M = true) (hrow : xrow M.2.2.2.2 pc = some (.baload, nx, x0, ks, ws, v)) (ha : a = 1024 * g + p) (h0 : p < 1024) (hr : hp[g]? = some (zH s L 0)) (hd : L[p]? = some (2, N, q)) (hN : N ≤ 4096) (hi : 0 ≤ i ∧ i < N) (K : xBody M d nx lv (.int (zI (s p i.toNat)) :: st0) hp r hp') : xBody M d pc lv (.int (zI i) :: .ref a :: st0) hp r hp' := by
  refine xB.bald hM hrow (zget ha h0 hr hd) (zin hN hi) ?_
  rw [zcl hN hi]
  exact K
theorem zB.lald (hM : xokM M = true) (hrow : xrow M.2.2.2.2 pc = some (.laload, nx, x0, ks, ws, v)) (ha : a = 1024 * g + p) (h0 : p < 1024) (hr : hp[g]? = some (zH s L 0)) (hd : L[p]? = some (1, N, q)) (hN : N ≤ 4096) (hi : 0 ≤ i ∧ i < N) (K : xBody M d nx lv (.long (zJ (s p i.toNat)) :: st0) hp r hp') : xBody M d pc lv (.int (zI i) :: .ref a :: st0) hp r hp' := by
  refine xB.lald hM hrow (zget ha h0 hr hd) (zin hN hi) ?_
  rw [zcl hN hi]
  exact K
theorem zupd (f : Nat → Int) (k : Nat) (w : Int) : upd (fun j => zI (f j)) k (zI w) = fun j => zI (if j = k then w else f j) := by
  funext j
  unfold upd
  split <;> rfl
theorem zupdL (f : Nat → Int) (k : Nat) (w : Int) : vp_updL (fun j => zJ (f j)) k (zJ w) = fun j => zJ (if j = k then w else f j) := by
  funext j
  unfold vp_updL
  split <;> rfl
theorem zB.iast (hM : xokM M = true) {w : Int} {hp1 : xH} (hrow : xrow M.2.2.2.2 pc = some (.iastore, nx, x0, ks, ws, v)) (ha : a = 1024 * g + p) (h0 : p < 1024) (hg : g < 9) (hr : hp[g]? = some (zH s L 0)) (hd : L[p]? = some (0, N, q)) (hN : N ≤ 4096) (hi : 0 ≤ i ∧ i < N) (he : hp.set g (zH (upz s p i.toNat w) L 0) = hp1) (K : xBody M d nx lv st0 hp1 r hp') : xBody M d pc lv (.int (zI w) :: .int (zI i) :: .ref a :: st0) hp r hp' := by
  refine xB.iast hM hrow (zget ha h0 hr hd) (by omega) (zin hN hi) ?_ K
  rw [zcl hN hi, zupd, ← he]
  exact zset ha h0 hr hd i.toNat w
theorem zB.bast (hM : xokM M = true) {w : Int} {hp1 : xH} (hrow : xrow M.2.2.2.2 pc = some (.bastore, nx, x0, ks, ws, v)) (ha : a = 1024 * g + p) (h0 : p < 1024) (hg : g < 9) (hr : hp[g]? = some (zH s L 0)) (hd : L[p]? = some (2, N, q)) (hN : N ≤ 4096) (hw : w = 0 ∨ w = 1) (hi : 0 ≤ i ∧ i < N) (he : hp.set g (zH (upz s p i.toNat w) L 0) = hp1) (K : xBody M d nx lv st0 hp1 r hp') : xBody M d pc lv (.int (zI w) :: .int (zI i) :: .ref a :: st0) hp r hp' := by
  refine xB.bast hM hrow (zget ha h0 hr hd) (by omega) (by rcases hw with rfl | rfl; exact Or.inl rfl; exact Or.inr rfl) (zin hN hi) ?_ K
  rw [zcl hN hi, zupd, ← he]
  exact zset ha h0 hr hd i.toNat w
theorem zB.last (hM : xokM M = true) {w : Int} {hp1 : xH} (hrow : xrow M.2.2.2.2 pc = some (.lastore, nx, x0, ks, ws, v)) (ha : a = 1024 * g + p) (h0 : p < 1024) (hg : g < 9) (hr : hp[g]? = some (zH s L 0)) (hd : L[p]? = some (1, N, q)) (hN : N ≤ 4096) (hi : 0 ≤ i ∧ i < N) (he : hp.set g (zH (upz s p i.toNat w) L 0) = hp1) (K : xBody M d nx lv st0 hp1 r hp') : xBody M d pc lv (.long (zJ w) :: .int (zI i) :: .ref a :: st0) hp r hp' := by
  refine xB.last hM hrow (zget ha h0 hr hd) (by omega) (zin hN hi) ?_ K
  rw [zcl hN hi, zupdL, ← he]
  exact zset ha h0 hr hd i.toNat w
/-- a row of rows -/
theorem zB.aaldG (hM : xokM M = true) {c g2 p2 : Nat} (hrow : xrow M.2.2.2.2 pc = some (.aaload, nx, x0, ks, ws, v)) (ha : a = 1024 * g + p) (h0 : p < 1024) (hr : hp[g]? = some (zH s L 0)) (hd : L[p]? = some (3, N, [(c, 0), (g2, p2)])) (hc : 3 ≤ c ∧ c ≤ 5) (hN : N ≤ 4096) (hi : 0 ≤ i ∧ i < N) (K : xBody M d nx lv (.ref (1024 * g2 + (p2 + i.toNat)) :: st0) hp r hp') : xBody M d pc lv (.int (zI i) :: .ref a :: st0) hp r hp' := by
  refine xB.aald hM (b := 1024 * g2 + (p2 + i.toNat)) hrow (zget ha h0 hr hd) hc (zin hN hi) ?_ K
  rw [zcl hN hi]
  exact if_pos (by omega)
theorem zB.aaldP (hM : xokM M = true) {g2 p2 : Nat} (hrow : xrow M.2.2.2.2 pc = some (.aaload, nx, x0, ks, ws, v)) (ha : a = 1024 * g + p) (h0 : p < 1024) (hr : hp[g]? = some (zH s L 0)) (hd : L[p]? = some (4, N, [(g2, p2)])) (hN : N ≤ 4096) (hi : 0 ≤ i ∧ i < N) (K : xBody M d nx lv (.ref (1024 * g2 + (p2 + (s p i.toNat).toNat)) :: st0) hp r hp') : xBody M d pc lv (.int (zI i) :: .ref a :: st0) hp r hp' := by
  refine xB.aald hM (b := 1024 * g2 + (p2 + (s p i.toNat).toNat)) hrow (zget ha h0 hr hd) (by decide) (zin hN hi) ?_ K
  rw [zcl hN hi]
  exact if_pos (by omega)
theorem zB.aaldB (hM : xokM M = true) (hrow : xrow M.2.2.2.2 pc = some (.aaload, nx, x0, ks, ws, v)) (ha : a = 1024 * g + p) (h0 : p < 1024) (hr : hp[g]? = some (zH s L 0)) (hd : L[p]? = some (5, N, q)) (hN : N ≤ 4096) (hi : (0 ≤ i ∧ i < N) ∧ i < s p 0) (K : xBody M d nx lv (.ref (1024 * 8 + i.toNat) :: st0) hp r hp') : xBody M d pc lv (.int (zI i) :: .ref a :: st0) hp r hp' := by
  refine xB.aald hM (b := 1024 * 8 + i.toNat) hrow (zget ha h0 hr hd) (by decide) (zin hN hi.1) ?_ K
  rw [zcl hN hi.1]
  exact if_pos (by omega)
/-- fields -/
theorem zB.getI (hM : xokM M = true) {c k y n f : Nat} (hrow : xrow M.2.2.2.2 pc = some (.getfield f, nx, x0, ks, ws, v)) (ha : a = 1024 * g + p) (h0 : p < 1024) (hr : hp[g]? = some (zH s L 0)) (hd : L[p]? = some (c + 6, n, q)) (hk : xks ks c = some k) (hq : q[k]? = some (0, y)) (K : xBody M d nx lv (.int (zI (s p k)) :: st0) hp r hp') : xBody M d pc lv (.ref a :: st0) hp r hp' := by
  refine xB.next hM (s := (nx, lv, .int (zI (s p k)) :: st0, hp)) ?_ K
  unfold x1
  rw [hrow]
  show (match xget hp a with
      | some (.inr (ci, fs)) => match xks ks ci with
        | some k => match fs[k]? with
          | some w => xnx nx lv (w :: st0) hp
          | none => none
        | none => none
      | _ => none) = _
  rw [zget ha h0 hr hd]
  show (match xks ks c with
        | some k => match (zfld (s p) q 0)[k]? with
          | some w => xnx nx lv (w :: st0) hp
          | none => none
        | none => none) = _
  rw [hk]
  show (match (zfld (s p) q 0)[k]? with
          | some w => xnx nx lv (w :: st0) hp
          | none => none) = _
  rw [zfld_int (s p) q 0 k y hq, Nat.zero_add]
  rfl
theorem zB.putI (hM : xokM M = true) {c k y n f : Nat} {w : Int} {hp1 : xH} (hrow : xrow M.2.2.2.2 pc = some (.putfield f, nx, x0, ks, ws, v)) (ha : a = 1024 * g + p) (h0 : p < 1024) (hg : g < 9) (hr : hp[g]? = some (zH s L 0)) (hd : L[p]? = some (c + 6, n, q)) (hk : xks ks c = some k) (hq : q[k]? = some (0, y)) (hf : xfit (xty c k) (.int (zI w)) = true) (he : hp.set g (zH (upz s p k w) L 0) = hp1) (K : xBody M d nx lv st0 hp1 r hp') : xBody M d pc lv (.int (zI w) :: .ref a :: st0) hp r hp' := by
  refine xB.next hM (s := (nx, lv, st0, hp1)) ?_ K
  unfold x1
  rw [hrow]
  show (match xget hp a with
      | some (.inr (ci, fs)) => match xks ks ci with
        | some k => if k < fs.length ∧ a < 9216 ∧ xfit (xty ci k) (.int (zI w)) = true then xnx nx lv st0 (xset hp a (.inr (ci, fs.set k (.int (zI w))))) else none
        | none => none
      | _ => none) = _
  rw [zget ha h0 hr hd]
  show (match xks ks c with
        | some k => if k < (zfld (s p) q 0).length ∧ a < 9216 ∧ xfit (xty c k) (.int (zI w)) = true then xnx nx lv st0 (xset hp a (.inr (c, (zfld (s p) q 0).set k (.int (zI w))))) else none
        | none => none) = _
  rw [hk]
  show (if k < (zfld (s p) q 0).length ∧ a < 9216 ∧ xfit (xty c k) (.int (zI w)) = true then xnx nx lv st0 (xset hp a (.inr (c, (zfld (s p) q 0).set k (.int (zI w))))) else none) = _
  rw [if_pos ⟨by rw [zfld_len]; exact (List.getElem?_eq_some_iff.mp hq).1, by omega, hf⟩, zfld_setI (s p) w q 0 k y hq, Nat.zero_add]
  have := zset ha h0 hr hd k w
  rw [← he, ← this]
  rfl
theorem zB.putL (hM : xokM M = true) {c k y n f : Nat} {w : Int} {hp1 : xH} (hrow : xrow M.2.2.2.2 pc = some (.putfield f, nx, x0, ks, ws, v)) (ha : a = 1024 * g + p) (h0 : p < 1024) (hg : g < 9) (hr : hp[g]? = some (zH s L 0)) (hd : L[p]? = some (c + 6, n, q)) (hk : xks ks c = some k) (hq : q[k]? = some (1, y)) (hf : xfit (xty c k) (.long (zJ w)) = true) (he : hp.set g (zH (upz s p k w) L 0) = hp1) (K : xBody M d nx lv st0 hp1 r hp') : xBody M d pc lv (.long (zJ w) :: .ref a :: st0) hp r hp' := by
  refine xB.next hM (s := (nx, lv, st0, hp1)) ?_ K
  unfold x1
  rw [hrow]
  show (match xget hp a with
      | some (.inr (ci, fs)) => match xks ks ci with
        | some k => if k < fs.length ∧ a < 9216 ∧ xfit (xty ci k) (.long (zJ w)) = true then xnx nx lv st0 (xset hp a (.inr (ci, fs.set k (.long (zJ w))))) else none
        | none => none
      | _ => none) = _
  rw [zget ha h0 hr hd]
  show (match xks ks c with
        | some k => if k < (zfld (s p) q 0).length ∧ a < 9216 ∧ xfit (xty c k) (.long (zJ w)) = true then xnx nx lv st0 (xset hp a (.inr (c, (zfld (s p) q 0).set k (.long (zJ w))))) else none
        | none => none) = _
  rw [hk]
  show (if k < (zfld (s p) q 0).length ∧ a < 9216 ∧ xfit (xty c k) (.long (zJ w)) = true then xnx nx lv st0 (xset hp a (.inr (c, (zfld (s p) q 0).set k (.long (zJ w))))) else none) = _
  rw [if_pos ⟨by rw [zfld_len]; exact (List.getElem?_eq_some_iff.mp hq).1, by omega, hf⟩, zfld_setL (s p) w q 0 k y hq, Nat.zero_add]
  have := zset ha h0 hr hd k w
  rw [← he, ← this]
  rfl
theorem zfitb {c k : Nat} {w : Int} (h : xty c k = .boolean) (hw : w = 0 ∨ w = 1) : xfit (xty c k) (.int (zI w)) = true := by
  rw [h]
  rcases hw with rfl | rfl <;> rfl
end ZB
