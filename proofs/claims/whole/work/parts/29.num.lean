/-! numbers: filling, common divisors, roots -/
theorem xset_same {hp : xH} {o : Nat} {e : va_E} (h : xget hp o = some e) : xset hp o e = hp := by
  obtain ⟨reg, h1, h2⟩ := xget_spec h
  rw [xset_eq h1]
  apply List.ext_getElem?
  intro i
  by_cases hi : i = o / 1024
  · subst hi
    rw [List.getElem?_set_self (List.getElem?_eq_some_iff.mp h1).1, h1]
    congr 1
    apply List.ext_getElem?
    intro j
    by_cases hj : j = o % 1024
    · subst hj
      rw [List.getElem?_set_self (List.getElem?_eq_some_iff.mp h2).1, h2]
    · rw [List.getElem?_set_ne (fun q => hj q.symm)]
  · rw [List.getElem?_set_ne (fun q => hi q.symm)]
theorem xset_xset {hp : xH} {o : Nat} {e0 : va_E} (h : xget hp o = some e0) (e1 e2 : va_E) : xset (xset hp o e1) o e2 = xset hp o e2 := by
  obtain ⟨reg, h1, h2⟩ := xget_spec h
  have l1 := (List.getElem?_eq_some_iff.mp h1).1
  rw [xset_eq h1, xset_eq h1, xset_eq (reg := reg.set (o % 1024) e1) (by rw [List.getElem?_set_self l1]), List.set_set, List.set_set]
theorem xB.alen {M : xM} {d pc : Nat} {lv : xL} {hp : xH} {r : Option Value} {hp' : xH} (hM : xokM M = true) {nx a o N c : Nat} {ks : List (Nat × Nat)} {ws : List Nat} {v : Value} {z : (Nat → Int32) ⊕ (Nat → Int64) ⊕ (Nat → UInt32) ⊕ (Nat → UInt64) ⊕ (Nat → Option Nat)} {st0 : List Value} (hrow : xrow M.2.2.2.2 pc = some (.arraylength, nx, a, ks, ws, v)) (hg : xget hp o = some (.inl (c, N, z))) (hc : c ≤ 5) (K : xBody M d nx lv (.int (nI N) :: st0) hp r hp') : xBody M d pc lv (.ref o :: st0) hp r hp' := by
  refine xB.next hM (s := (nx, lv, .int (nI N) :: st0, hp)) ?_ K
  unfold x1
  rw [hrow]
  show (match xget hp o with | some (.inl (c, N, _)) => if 5 < c then none else xnx nx lv (.int (Int32.ofNat N) :: st0) hp | _ => none) = _
  rw [hg]
  show (if 5 < c then none else xnx nx lv (.int (Int32.ofNat N) :: st0) hp) = _
  rw [if_neg (Nat.not_lt.mpr hc)]
  rfl
def xfill {α : Type} (N : Nat) (v : α) (f : Nat → α) : Nat → α := fun j => if j < N then v else f j
theorem t_fillI_loop (o N : Nat) (v : Int32) (ho : o < 9216) (hN : N < 2 ^ 31) {hp1 : xH} : ∀ (n k : Nat) (hp : xH) (f : Nat → Int32), k + n = N → xget hp o = some (.inl (0, N, .inl f)) → xset hp o (.inl (0, N, .inl (fun j => if k ≤ j ∧ j < N then v else f j))) = hp1 → xBody MJ7_fill_53178 0 5 [some (.ref o), some (.int v), some (.int (nI k)), some (.int (nI N))] [] hp none hp1 := by
  intro n
  induction n with
  | zero =>
    intro k hp f hk hg he
    have hkN : k = N := by omega
    subst hkN
    refine xB.run oJ7_fill_53178 2 (s := (7, [some (.ref o), some (.int v), some (.int (nI k)), some (.int (nI k))], [.int (nI k), .int (nI k)], hp)) rfl ?_
    refine xB.br oJ7_fill_53178 (P := nI k ≤ nI k) rfl (fun h => ?_) (fun h => absurd (nI_le (Nat.le_refl k) hN) h)
    refine xB.ret oJ7_fill_53178 (r1 := none) rfl rfl ?_
    rw [← he, show (fun j => if k ≤ j ∧ j < k then v else f j) = f by
      funext j
      rw [if_neg (by omega)]]
    exact xset_same hg
  | succ n ih =>
    intro k hp f hk hg he
    refine xB.run oJ7_fill_53178 2 (s := (7, [some (.ref o), some (.int v), some (.int (nI k)), some (.int (nI N))], [.int (nI N), .int (nI k)], hp)) rfl ?_
    refine xB.br oJ7_fill_53178 (P := nI N ≤ nI k) rfl (fun h => absurd h (nI_ge (by omega) hN)) (fun h => ?_)
    refine xB.run oJ7_fill_53178 3 (s := (13, [some (.ref o), some (.int v), some (.int (nI k)), some (.int (nI N))], [.int v, .int (nI k), .ref o], hp)) rfl ?_
    refine xB.iast oJ7_fill_53178 (o := o) (N := N) (f := f) (hp1 := xset hp o (.inl (0, N, .inl (upd f (nI k).toNatClampNeg v)))) rfl hg ho (nI_in (by omega) hN) rfl ?_
    rw [nI_clamp (by omega)]
    refine xB.run oJ7_fill_53178 2 (s := (5, [some (.ref o), some (.int v), some (.int (nI k + 1)), some (.int (nI N))], [], xset hp o (.inl (0, N, .inl (upd f k v))))) rfl ?_
    dsimp only
    rw [nI_1]
    refine ih (k + 1) _ (upd f k v) (by omega) (xget_set_self hg _) ?_
    rw [xset_xset hg, ← he]
    refine congrArg (fun g => xset hp o (.inl (0, N, .inl g))) (funext fun j => ?_)
    unfold upd
    by_cases h1 : j = k
    · subst h1
      rw [if_neg (by omega), if_pos rfl, if_pos (by omega)]
    · by_cases h2 : k + 1 ≤ j ∧ j < N
      · rw [if_pos h2, if_pos (by omega)]
      · rw [if_neg h2, if_neg h1, if_neg (by omega)]
theorem t_fillI (hp : xH) (o N : Nat) (f : Nat → Int32) (v : Int32) {hp1 : xH} (hg : xget hp o = some (.inl (0, N, .inl f))) (ho : o < 9216) (hN : N < 2 ^ 31) (he : xset hp o (.inl (0, N, .inl (xfill N v f))) = hp1) : xC MJ7_fill_53178 0 [.ref o, .int v] hp none hp1 := by
  refine ⟨Nat.le_of_ble_eq_true rfl, ?_⟩
  show xBody MJ7_fill_53178 0 0 [some (.ref o), some (.int v), none, none] [] hp none hp1
  refine xB.run oJ7_fill_53178 3 (s := (3, [some (.ref o), some (.int v), some (.int 0), none], [.ref o], hp)) rfl ?_
  refine xB.alen oJ7_fill_53178 rfl hg (by omega) ?_
  refine xB.run oJ7_fill_53178 1 (s := (5, [some (.ref o), some (.int v), some (.int 0), some (.int (nI N))], [], hp)) rfl ?_
  dsimp only
  rw [← nI_0]
  refine t_fillI_loop o N v ho hN N 0 hp f (by omega) hg ?_
  rw [← he]
  refine congrArg (fun g => xset hp o (.inl (0, N, .inl g))) (funext fun j => ?_)
  unfold xfill
  by_cases h : j < N
  · rw [if_pos h, if_pos (by omega)]
  · rw [if_neg h, if_neg (by omega)]
theorem t_fillL_loop (o N : Nat) (v : Int64) (ho : o < 9216) (hN : N < 2 ^ 31) {hp1 : xH} : ∀ (n k : Nat) (hp : xH) (f : Nat → Int64), k + n = N → xget hp o = some (.inl (1, N, .inr (.inl f))) → xset hp o (.inl (1, N, .inr (.inl (fun j => if k ≤ j ∧ j < N then v else f j)))) = hp1 → xBody MJ7_fill_d0a16 0 6 [some (.ref o), some (.long v), none, some (.int (nI k)), some (.int (nI N))] [] hp none hp1 := by
  intro n
  induction n with
  | zero =>
    intro k hp f hk hg he
    have hkN : k = N := by omega
    subst hkN
    refine xB.run oJ7_fill_d0a16 2 (s := (9, [some (.ref o), some (.long v), none, some (.int (nI k)), some (.int (nI k))], [.int (nI k), .int (nI k)], hp)) rfl ?_
    refine xB.br oJ7_fill_d0a16 (P := nI k ≤ nI k) rfl (fun h => ?_) (fun h => absurd (nI_le (Nat.le_refl k) hN) h)
    refine xB.ret oJ7_fill_d0a16 (r1 := none) rfl rfl ?_
    rw [← he, show (fun j => if k ≤ j ∧ j < k then v else f j) = f by
      funext j
      rw [if_neg (by omega)]]
    exact xset_same hg
  | succ n ih =>
    intro k hp f hk hg he
    refine xB.run oJ7_fill_d0a16 2 (s := (9, [some (.ref o), some (.long v), none, some (.int (nI k)), some (.int (nI N))], [.int (nI N), .int (nI k)], hp)) rfl ?_
    refine xB.br oJ7_fill_d0a16 (P := nI N ≤ nI k) rfl (fun h => absurd h (nI_ge (by omega) hN)) (fun h => ?_)
    refine xB.run oJ7_fill_d0a16 3 (s := (15, [some (.ref o), some (.long v), none, some (.int (nI k)), some (.int (nI N))], [.long v, .int (nI k), .ref o], hp)) rfl ?_
    refine xB.last oJ7_fill_d0a16 (o := o) (N := N) (f := f) (hp1 := xset hp o (.inl (1, N, .inr (.inl (vp_updL f (nI k).toNatClampNeg v))))) rfl hg ho (nI_in (by omega) hN) rfl ?_
    rw [nI_clamp (by omega)]
    refine xB.run oJ7_fill_d0a16 2 (s := (6, [some (.ref o), some (.long v), none, some (.int (nI k + 1)), some (.int (nI N))], [], xset hp o (.inl (1, N, .inr (.inl (vp_updL f k v)))))) rfl ?_
    dsimp only
    rw [nI_1]
    refine ih (k + 1) _ (vp_updL f k v) (by omega) (xget_set_self hg _) ?_
    rw [xset_xset hg, ← he]
    refine congrArg (fun g => xset hp o (.inl (1, N, .inr (.inl g)))) (funext fun j => ?_)
    unfold vp_updL
    by_cases h1 : j = k
    · subst h1
      rw [if_neg (by omega), if_pos rfl, if_pos (by omega)]
    · by_cases h2 : k + 1 ≤ j ∧ j < N
      · rw [if_pos h2, if_pos (by omega)]
      · rw [if_neg h2, if_neg h1, if_neg (by omega)]
theorem t_fillL (hp : xH) (o N : Nat) (f : Nat → Int64) (v : Int64) {hp1 : xH} (hg : xget hp o = some (.inl (1, N, .inr (.inl f)))) (ho : o < 9216) (hN : N < 2 ^ 31) (he : xset hp o (.inl (1, N, .inr (.inl (xfill N v f)))) = hp1) : xC MJ7_fill_d0a16 0 [.ref o, .long v] hp none hp1 := by
  refine ⟨Nat.le_of_ble_eq_true rfl, ?_⟩
  show xBody MJ7_fill_d0a16 0 0 [some (.ref o), some (.long v), none, none, none] [] hp none hp1
  refine xB.run oJ7_fill_d0a16 3 (s := (3, [some (.ref o), some (.long v), none, some (.int 0), none], [.ref o], hp)) rfl ?_
  refine xB.alen oJ7_fill_d0a16 rfl hg (by omega) ?_
  refine xB.run oJ7_fill_d0a16 1 (s := (6, [some (.ref o), some (.long v), none, some (.int 0), some (.int (nI N))], [], hp)) rfl ?_
  dsimp only
  rw [← nI_0]
  refine t_fillL_loop o N v ho hN N 0 hp f (by omega) hg ?_
  rw [← he]
  refine congrArg (fun g => xset hp o (.inl (1, N, .inr (.inl g)))) (funext fun j => ?_)
  unfold xfill
  by_cases h : j < N
  · rw [if_pos h, if_pos (by omega)]
  · rw [if_neg h, if_neg (by omega)]
/-! common divisors -/
theorem xbm {a : Int} (h1 : -2 ^ 63 ≤ a) (h2 : a < 2 ^ 63) : a.bmod (2 ^ 64) = a := Int.bmod_eq_of_le (by omega) (by omega)
theorem xl_rem {x y : Int64} (hx : 0 ≤ x.toInt) (hy : 0 < y.toInt) : (x - x / y * y).toInt = x.toInt % y.toInt := by
  have hd := lg_ldiv_nonneg hx hy
  have hlt := x.toInt_lt
  have h1 : 0 ≤ x.toInt / y.toInt * y.toInt := Int.mul_nonneg (Int.ediv_nonneg hx (Int.le_of_lt hy)) (Int.le_of_lt hy)
  have h2 : x.toInt / y.toInt * y.toInt ≤ x.toInt := Int.ediv_mul_le _ (by omega)
  have h3 := Int.emod_def x.toInt y.toInt
  rw [Int.mul_comm] at h3
  rw [Int64.toInt_sub, Int64.toInt_mul, hd, xbm (a := x.toInt / y.toInt * y.toInt) (by omega) (by omega), xbm (by omega) (by omega), h3]
def xgcd (a b : Int64) : Int64 := Int64.ofInt (Int.gcd a.toInt b.toInt)
theorem xgcd_zero {x y : Int64} (hx : 0 ≤ x.toInt) (hy : y.toInt = 0) : xgcd x y = x := by
  unfold xgcd
  rw [hy, Int.gcd_zero_right, Int.natAbs_of_nonneg hx, Int64.ofInt_toInt]
theorem xgcd_step {x y : Int64} (hx : 0 ≤ x.toInt) (hy : 0 < y.toInt) : xgcd y (x - x / y * y) = xgcd x y := by
  unfold xgcd
  rw [xl_rem hx hy]
  congr 2
  rw [Int.gcd_comm y.toInt, Int.gcd_comm x.toInt]
  simp only [Int.gcd, Int.natAbs_emod_of_nonneg hx]
  rw [← Nat.gcd_rec]
theorem xhalf {a b : Int} (h0 : 0 < b) (h1 : b < a) : 2 * (a % b) < a := by
  have h2 := Int.emod_lt_of_pos a h0
  have h3 := Int.emod_nonneg a (show b ≠ 0 by omega)
  have h4 := Int.emod_add_mul_ediv a b
  have h5 : 1 ≤ a / b := (Int.le_ediv_iff_mul_le h0).mpr (by omega)
  have h6 : b ≤ b * (a / b) := by
    have := Int.mul_le_mul_of_nonneg_left h5 (Int.le_of_lt h0)
    omega
  omega
theorem xz_of {y : Int64} (h : y.toInt = 0) : y = 0 := Int64.toInt_inj.mp (by rw [h]; rfl)
theorem xz_ne {y : Int64} (h : 0 < y.toInt) : ¬ y = 0 := fun q => by
  rw [q] at h
  exact absurd h (by decide)
/-- Euclid's steps in the class -/
theorem t_cd_loop (hp : xH) (a b : Int64) : ∀ (n : Nat) (x y : Int64) (k : Nat), 0 ≤ x.toInt → 0 ≤ y.toInt → y.toInt < 2 ^ n → k + 2 * n < 1000 → xBody MX11_commonDivisor 1 15 [some (.long a), none, some (.long b), none, some (.long x), none, some (.long y), none, some (.int (nI k)), none, none] [] hp (some (.long (xgcd x y))) hp := by
  intro n
  induction n with
  | zero =>
    intro x y k hx hy h hk
    have hy0 : y.toInt = 0 := by simp at h; omega
    refine b_X11_commonDivisor_15 hp a b x y (nI k) ⟨fun _ => ⟨by rw [xgcd_zero hx hy0], rfl⟩, fun _ => ⟨fun _ => ⟨by rw [xgcd_zero hx hy0], rfl⟩, fun q => absurd (xz_of hy0) q⟩⟩
  | succ n ih =>
    intro x y k hx hy h hk
    have nk : ∀ j : Nat, j < 1000 → ¬ (1000 : Int32) ≤ nI j := fun j hj q => nI_ge (b := 1000) hj (by decide) q
    refine b_X11_commonDivisor_15 hp a b x y (nI k) ⟨fun q => absurd q (nk k (by omega)), fun _ => ⟨fun q => ⟨by rw [xgcd_zero hx (by rw [q]; rfl)], rfl⟩, fun q => ⟨q, ?_⟩⟩⟩
    have hy1 : 0 < y.toInt := by
      rcases Int.lt_or_eq_of_le hy with z | z
      · exact z
      · exact absurd (xz_of z.symm) q
    have hz := xl_rem hx hy1
    have hz0 : 0 ≤ (x - x / y * y).toInt := by rw [hz]; exact Int.emod_nonneg _ (by omega)
    have hz1 : (x - x / y * y).toInt < y.toInt := by rw [hz]; exact Int.emod_lt_of_pos _ hy1
    rw [← xgcd_step hx hy1, nI_1]
    generalize x - x / y * y = z at hz0 hz1
    refine b_X11_commonDivisor_15 hp a b y z (nI (k + 1)) ⟨fun q => absurd q (nk (k + 1) (by omega)), fun _ => ⟨fun q => ⟨by rw [xgcd_zero hy (by rw [q]; rfl)], rfl⟩, fun q => ⟨q, ?_⟩⟩⟩
    have hp1 : 0 < z.toInt := by
      rcases Int.lt_or_eq_of_le hz0 with w | w
      · exact w
      · exact absurd (xz_of w.symm) q
    have hw := xl_rem hy hp1
    rw [← xgcd_step hy hp1, nI_1]
    refine ih z _ (k + 1 + 1) hz0 (by rw [hw]; exact Int.emod_nonneg _ (by omega)) ?_ (by omega)
    rw [hw]
    have h2 := xhalf hp1 hz1
    rw [Int.pow_succ] at h
    omega
theorem t_cm_loop (hp : xH) (a b : Int64) : ∀ (n : Nat) (x y : Int64), 0 ≤ x.toInt → 0 ≤ y.toInt → y.toInt < 2 ^ n → xBody MX12_common 1 12 [some (.long a), none, some (.long b), none, some (.long x), none, some (.long y), none, none, none] [] hp (some (.long (xgcd x y))) hp := by
  intro n
  induction n with
  | zero =>
    intro x y hx hy h
    have hy0 : y.toInt = 0 := by simp at h; omega
    exact b_X12_common_12 hp a b x y ⟨fun _ => ⟨by rw [xgcd_zero hx hy0], rfl⟩, fun q => absurd (xz_of hy0) q⟩
  | succ n ih =>
    intro x y hx hy h
    refine b_X12_common_12 hp a b x y ⟨fun q => ⟨by rw [xgcd_zero hx (by rw [q]; rfl)], rfl⟩, fun q => ⟨q, ?_⟩⟩
    have hy1 : 0 < y.toInt := by
      rcases Int.lt_or_eq_of_le hy with z | z
      · exact z
      · exact absurd (xz_of z.symm) q
    have hz := xl_rem hx hy1
    have hz0 : 0 ≤ (x - x / y * y).toInt := by rw [hz]; exact Int.emod_nonneg _ (by omega)
    have hz1 : (x - x / y * y).toInt < y.toInt := by rw [hz]; exact Int.emod_lt_of_pos _ hy1
    rw [← xgcd_step hx hy1]
    generalize x - x / y * y = z at hz0 hz1
    refine b_X12_common_12 hp a b y z ⟨fun q => ⟨by rw [xgcd_zero hy (by rw [q]; rfl)], rfl⟩, fun q => ⟨q, ?_⟩⟩
    have hp1 : 0 < z.toInt := by
      rcases Int.lt_or_eq_of_le hz0 with w | w
      · exact w
      · exact absurd (xz_of w.symm) q
    have hw := xl_rem hy hp1
    rw [← xgcd_step hy hp1]
    refine ih z _ hz0 (by rw [hw]; exact Int.emod_nonneg _ (by omega)) ?_
    rw [hw]
    have h2 := xhalf hp1 hz1
    rw [Int.pow_succ] at h
    omega
theorem xabs_int {a : Int64} (h : a.toInt ≠ -2 ^ 63) : (fJ9_abs_067f4 a).toInt = (a.toInt.natAbs : Int) := by
  unfold fJ9_abs_067f4
  have h1 := a.toInt_lt
  have h2 := a.le_toInt
  by_cases q : (0 : Int64) ≤ a
  · rw [if_pos q]
    rw [Int64.le_iff_toInt_le] at q
    have : (0 : Int64).toInt = 0 := rfl
    omega
  · rw [if_neg q]
    rw [Int64.le_iff_toInt_le] at q
    have : (0 : Int64).toInt = 0 := rfl
    rw [Int64.toInt_neg, xbm (by omega) (by omega)]
    omega
theorem xsize_eq (a : Int64) : fX12_size a = fJ9_abs_067f4 a := rfl
theorem xgcd_abs {a b : Int64} (ha : a.toInt ≠ -2 ^ 63) (hb : b.toInt ≠ -2 ^ 63) : xgcd (fJ9_abs_067f4 a) (fJ9_abs_067f4 b) = xgcd a b := by
  unfold xgcd
  rw [xabs_int ha, xabs_int hb]
  simp [Int.gcd]
theorem t_X11_commonDivisor (hp : xH) (a b : Int64) (K : a.toInt ≠ -2 ^ 63 ∧ b.toInt ≠ -2 ^ 63) : xC MX11_commonDivisor 1 [.long a, .long b] hp (some (.long (xgcd a b))) hp := by
  refine ⟨Nat.le_of_ble_eq_true rfl, ?_⟩
  refine b_X11_commonDivisor_0 hp a b ?_
  rw [← xgcd_abs K.1 K.2, ← nI_0]
  exact t_cd_loop hp a b 63 _ _ 0 (by rw [xabs_int K.1]; omega) (by rw [xabs_int K.2]; omega) (Int64.toInt_lt _) (by decide)
theorem t_X12_common (hp : xH) (a b : Int64) (K : a.toInt ≠ -2 ^ 63 ∧ b.toInt ≠ -2 ^ 63) : xC MX12_common 1 [.long a, .long b] hp (some (.long (xgcd a b))) hp := by
  refine ⟨Nat.le_of_ble_eq_true rfl, ?_⟩
  refine b_X12_common_0 hp a b ?_
  rw [← xgcd_abs K.1 K.2, xsize_eq, xsize_eq]
  exact t_cm_loop hp a b 63 _ _ (by rw [xabs_int K.1]; omega) (by rw [xabs_int K.2]; omega) (Int64.toInt_lt _)
/-! roots: bit by bit -/
def xbs (p : Nat → Prop) [DecidablePred p] : Nat → Nat → Nat
  | 0, r => r
  | n + 1, r => xbs p n (if p (r + 2 ^ n) then r + 2 ^ n else r)
theorem xbs_spec (p : Nat → Prop) [DecidablePred p] (hm : ∀ a b, a ≤ b → p b → p a) : ∀ (n r : Nat), p r → ¬ p (r + 2 ^ n) → p (xbs p n r) ∧ ¬ p (xbs p n r + 1) ∧ xbs p n r < r + 2 ^ n
  | 0, r, h1, h2 => ⟨h1, h2, by simp [xbs]⟩
  | n + 1, r, h1, h2 => by
    unfold xbs
    by_cases q : p (r + 2 ^ n)
    · rw [if_pos q]
      have := xbs_spec p hm n (r + 2 ^ n) q (by rw [Nat.add_assoc, ← Nat.two_mul, ← Nat.pow_succ']; exact h2)
      rw [Nat.pow_succ]
      exact ⟨this.1, this.2.1, by omega⟩
    · rw [if_neg q]
      have := xbs_spec p hm n r h1 q
      rw [Nat.pow_succ]
      exact ⟨this.1, this.2.1, by omega⟩
theorem xbs_uniq (p : Nat → Prop) (hm : ∀ a b, a ≤ b → p b → p a) {r s : Nat} (h1 : p r) (h2 : ¬ p (r + 1)) (h3 : p s) (h4 : ¬ p (s + 1)) : r = s := by
  rcases Nat.lt_trichotomy r s with q | q | q
  · exact absurd (hm _ _ q h3) h2
  · exact q
  · exact absurd (hm _ _ q h1) h4
theorem xlN_int {n : Nat} (h : n < 2 ^ 63) : (lN n).toInt = (n : Int) := lg_ofNat_toInt h
theorem xlN_add (a b : Nat) : lN a + lN b = lN (a + b) := lN_add a b
theorem xshl1 : ∀ n : Nat, n ≤ 30 → (1 : Int64) <<< ((nI n).toInt64 &&& 63) = lN (2 ^ n) := by decide +kernel
theorem xsq_lt {r : Nat} {sq : Int64} (hr : r < 2 ^ 31) : (sq < lN r * lN r) ↔ ¬ ((r * r : Nat) : Int) ≤ sq.toInt := by
  have hrr : r * r < 2 ^ 63 := by
    have := Nat.mul_lt_mul'' hr hr
    omega
  rw [lN_mul, Int64.lt_iff_toInt_lt, xlN_int hrr]
  omega
/-- the class's root -/
def xqp (sq : Int64) (r : Nat) : Prop := ((r * r : Nat) : Int) ≤ sq.toInt
theorem t_wr_loop (hp : xH) (sq : Int64) : ∀ (n r : Nat), n ≤ 31 → r + 2 ^ n ≤ 2 ^ 31 → xBody MX11_wholeRoot 0 6 [some (.long sq), none, some (.long (lN r)), none, some (.int (nI n - 1)), none, none] [] hp (some (.long (lN (@xbs (xqp sq) (fun _ => Classical.propDecidable _) n r)))) hp := by
  intro n
  induction n with
  | zero =>
    intro r _ _
    exact b_X11_wholeRoot_6 hp sq (lN r) (nI 0 - 1) ⟨fun _ => ⟨rfl, rfl⟩, fun q => absurd (by decide +kernel) q⟩
  | succ n ih =>
    intro r hn hr
    have hp2 : 2 ^ (n + 1) = 2 ^ n + 2 ^ n := by rw [Nat.pow_succ]; omega
    have hpos : 0 < 2 ^ n := Nat.pos_of_ne_zero (by simp)
    rw [nI_pred]
    have hbit : nI n + -1 = nI n - 1 := by rw [Int32.sub_eq_add_neg]
    refine b_X11_wholeRoot_6 hp sq (lN r) (nI n) ⟨fun q => absurd q (nI_pos (by omega)), fun _ => ?_⟩
    rw [xshl1 n (by omega), lN_add, hbit]
    unfold xbs
    have hlt : r + 2 ^ n < 2 ^ 31 := by omega
    refine ⟨fun q => ?_, fun q => ?_⟩
    · rw [if_neg (show ¬ xqp sq (r + 2 ^ n) from (xsq_lt hlt).mp q)]
      exact ih r (by omega) (by omega)
    · rw [if_pos (show xqp sq (r + 2 ^ n) from Classical.byContradiction fun z => q ((xsq_lt hlt).mpr z))]
      exact ih (r + 2 ^ n) (by omega) (by omega)
theorem xqp_mono (sq : Int64) : ∀ a b, a ≤ b → xqp sq b → xqp sq a := by
  intro a b h hb
  unfold xqp at hb ⊢
  have := Nat.mul_le_mul h h
  omega
/-- the greatest r whose square is no more -/
def xrt (n : Nat) : Nat := @xbs (fun r => r * r ≤ n) (fun _ => inferInstance) 31 0
theorem xrt_spec {n : Nat} (h : n < 2 ^ 62) : xrt n * xrt n ≤ n ∧ n < (xrt n + 1) * (xrt n + 1) ∧ xrt n < 2 ^ 31 := by
  have := @xbs_spec (fun r => r * r ≤ n) (fun _ => inferInstance) (fun a b hab hb => Nat.le_trans (Nat.mul_le_mul hab hab) hb) 31 0 (by simp) (by simp; omega)
  exact ⟨this.1, Nat.not_le.mp this.2.1, by have := this.2.2; unfold xrt; omega⟩
theorem t_X11_wholeRoot (hp : xH) (sq : Int64) (K : 0 ≤ sq.toInt ∧ sq.toInt < 2 ^ 62) : xC MX11_wholeRoot 0 [.long sq] hp (some (.long (lN (xrt sq.toInt.toNat)))) hp := by
  refine ⟨Nat.le_of_ble_eq_true rfl, ?_⟩
  refine b_X11_wholeRoot_0 hp sq ?_
  have h := t_wr_loop hp sq 31 0 (by omega) (by omega)
  have h0 : (lN 0) = 0 := rfl
  have h30 : nI 31 - 1 = 30 := by decide +kernel
  rw [h0, h30] at h
  have e : @xbs (xqp sq) (fun _ => Classical.propDecidable _) 31 0 = xrt sq.toInt.toNat := by
    have a := @xbs_spec (xqp sq) (fun _ => Classical.propDecidable _) (xqp_mono sq) 31 0 (by unfold xqp; simp; omega) (by unfold xqp; simp; omega)
    obtain ⟨b1, b2, -⟩ := xrt_spec (n := sq.toInt.toNat) (by omega)
    refine xbs_uniq (xqp sq) (xqp_mono sq) a.1 a.2.1 ?_ ?_
    · unfold xqp
      omega
    · unfold xqp
      omega
  rw [e] at h
  exact h
/-- the model's root -/
def xqm (a b : Int64) (r : Nat) : Prop := ((r * r : Nat) : Int) * b.toInt ≤ a.toInt
theorem xqm_lt {r : Nat} {a b : Int64} (hr : r < 2 ^ 23) (hb0 : 0 < b.toInt) (hb : b.toInt < 2 ^ 14) : (a < lN r * lN r * b) ↔ ¬ xqm a b r := by
  have hrr : r * r < 2 ^ 46 := by
    have := Nat.mul_lt_mul'' hr hr
    omega
  have h1 : ((r * r : Nat) : Int) * b.toInt ≤ 2 ^ 46 * 2 ^ 14 := Int.mul_le_mul (by omega) (by omega) (by omega) (by omega)
  have h2 : 0 ≤ ((r * r : Nat) : Int) * b.toInt := Int.mul_nonneg (by omega) (by omega)
  unfold xqm
  rw [lN_mul, Int64.lt_iff_toInt_lt, Int64.toInt_mul, xlN_int (by omega), xbm (by omega) (by omega)]
  omega
theorem xhalfN {m : Nat} (h : m < 2 ^ 62) : lN m / 2 = lN (m / 2) := by
  apply Int64.toInt_inj.mp
  rw [lg_ldiv_nonneg (by rw [xlN_int (by omega)]; omega) (by decide), xlN_int (by omega), xlN_int (by omega)]
  have : (2 : Int64).toInt = 2 := by decide
  rw [this]
  omega
theorem t_rt_loop (hp : xH) (a b : Int64) (hb0 : 0 < b.toInt) (hb : b.toInt < 2 ^ 14) : ∀ (n r : Nat), n ≤ 23 → r + 2 ^ n ≤ 2 ^ 23 → xBody MX12_root 0 8 [some (.long a), none, some (.long b), none, some (.long (lN r)), none, some (.long (lN (2 ^ n / 2))), none] [] hp (some (.int (nI (@xbs (xqm a b) (fun _ => Classical.propDecidable _) n r)))) hp := by
  intro n
  induction n with
  | zero =>
    intro r _ _
    refine b_X12_root_8 hp a b (lN r) (lN (2 ^ 0 / 2)) ⟨fun _ => ⟨by rw [lN_i]; rfl, rfl⟩, fun q => absurd (by decide +kernel) q⟩
  | succ n ih =>
    intro r hn hr
    have hp2 : 2 ^ (n + 1) = 2 ^ n + 2 ^ n := by rw [Nat.pow_succ]; omega
    have hpos : 0 < 2 ^ n := Nat.pos_of_ne_zero (by simp)
    have hlt : r + 2 ^ n < 2 ^ 23 := by omega
    have e1 : 2 ^ (n + 1) / 2 = 2 ^ n := by omega
    rw [e1]
    refine b_X12_root_8 hp a b (lN r) (lN (2 ^ n)) ⟨fun q => ?_, fun _ => ?_⟩
    · rw [Int64.le_iff_toInt_le, xlN_int (by omega)] at q
      have : (0 : Int64).toInt = 0 := rfl
      omega
    rw [lN_add, xhalfN (by omega)]
    unfold xbs
    refine ⟨fun q => ?_, fun q => ?_⟩
    · rw [if_neg (show ¬ xqm a b (r + 2 ^ n) from (xqm_lt hlt hb0 hb).mp q)]
      exact ih r (by omega) (by omega)
    · rw [if_pos (show xqm a b (r + 2 ^ n) from Classical.byContradiction fun z => q ((xqm_lt hlt hb0 hb).mpr z))]
      exact ih (r + 2 ^ n) (by omega) (by omega)
theorem xqm_mono (a b : Int64) (hb0 : 0 < b.toInt) : ∀ x y, x ≤ y → xqm a b y → xqm a b x := by
  intro x y h hy
  unfold xqm at hy ⊢
  have h1 := Nat.mul_le_mul h h
  have h2 : ((x * x : Nat) : Int) * b.toInt ≤ ((y * y : Nat) : Int) * b.toInt := Int.mul_le_mul_of_nonneg_right (by omega) (by omega)
  omega
theorem xqm_div {a b : Int64} (ha : 0 ≤ a.toInt) (hb0 : 0 < b.toInt) (r : Nat) : xqm a b r ↔ r * r ≤ a.toInt.toNat / b.toInt.toNat := by
  unfold xqm
  have e1 : (a.toInt.toNat : Int) = a.toInt := Int.toNat_of_nonneg ha
  have e2 : (b.toInt.toNat : Int) = b.toInt := Int.toNat_of_nonneg (by omega)
  rw [Nat.le_div_iff_mul_le (by omega)]
  constructor
  · intro h
    have : ((r * r * b.toInt.toNat : Nat) : Int) ≤ (a.toInt.toNat : Int) := by
      rw [e1]
      push_cast [e2] at h ⊢
      exact h
    omega
  · intro h
    have : ((r * r * b.toInt.toNat : Nat) : Int) ≤ (a.toInt.toNat : Int) := by omega
    rw [e1] at this
    push_cast at this ⊢
    rw [e2] at this
    exact this
theorem t_X12_root (hp : xH) (a b : Int64) (K : 0 ≤ a.toInt ∧ 0 < b.toInt ∧ b.toInt < 2 ^ 14 ∧ a.toInt.toNat / b.toInt.toNat < 2 ^ 46) : xC MX12_root 0 [.long a, .long b] hp (some (.int (nI (xrt (a.toInt.toNat / b.toInt.toNat))))) hp := by
  obtain ⟨ha, hb0, hb, hq⟩ := K
  refine ⟨Nat.le_of_ble_eq_true rfl, ?_⟩
  refine b_X12_root_0 hp a b ?_
  have h := t_rt_loop hp a b hb0 hb 23 0 (by omega) (by omega)
  have h0 : (lN 0) = 0 := rfl
  have h30 : lN (2 ^ 23 / 2) = 4194304 := by decide +kernel
  rw [h0, h30] at h
  have e : @xbs (xqm a b) (fun _ => Classical.propDecidable _) 23 0 = xrt (a.toInt.toNat / b.toInt.toNat) := by
    have s := @xbs_spec (xqm a b) (fun _ => Classical.propDecidable _) (xqm_mono a b hb0) 23 0 (by rw [xqm_div ha hb0]; simp) (by rw [xqm_div ha hb0]; show ¬ (0 + 2 ^ 23) * (0 + 2 ^ 23) ≤ _; omega)
    obtain ⟨b1, b2, -⟩ := xrt_spec (n := a.toInt.toNat / b.toInt.toNat) (by omega)
    refine xbs_uniq (xqm a b) (xqm_mono a b hb0) s.1 s.2.1 ?_ ?_
    · rw [xqm_div ha hb0]
      exact b1
    · rw [xqm_div ha hb0]
      omega
  rw [e] at h
  exact h
/-- bits -/
def xbc : Nat → Int32 → Int32
  | 0, _ => 0
  | n + 1, s => xbc n s + ((s >>> (nI n &&& 31)) &&& 1)
theorem t_bo_loop (hp : xH) (set : Int32) : ∀ n k : Nat, k + n = 16 → xBody MX12_bitsOf 0 4 [some (.int set), some (.int (xbc k set)), some (.int (nI k))] [] hp (some (.int (xbc 16 set))) hp := by
  intro n
  induction n with
  | zero =>
    intro k hk
    have : k = 16 := by omega
    subst this
    exact b_X12_bitsOf_4 hp set _ _ ⟨fun _ => ⟨rfl, rfl⟩, fun q => absurd (by decide +kernel) q⟩
  | succ n ih =>
    intro k hk
    refine b_X12_bitsOf_4 hp set _ _ ⟨fun q => absurd q (nI_ge (b := 16) (by omega) (by decide)), fun _ => ?_⟩
    rw [nI_1]
    exact ih (k + 1) (by omega)
theorem t_X12_bitsOf (hp : xH) (set : Int32) : xC MX12_bitsOf 0 [.int set] hp (some (.int (xbc 16 set))) hp := by
  refine ⟨Nat.le_of_ble_eq_true rfl, ?_⟩
  exact b_X12_bitsOf_0 hp set (t_bo_loop hp set 16 0 rfl)
