/-! the law: one round of its loop -/
abbrev LwV (i : Nat) : xL := [some (.ref 9216), some (.ref 0), some (.ref 7168), some (.int (zI (i : Int)))]
abbrev HPs (L : Nat) (xs : Nat → Int32) (s0 s1 s2 s3 s4 s5 s6 s7 s8 : zZ) (ks : List Int) : xH := [zH s0 zL0 0, zH s1 zL1 0, zH s2 zL2 0, zH s3 zL3 0, zH s4 zL4 0, zH s5 zL5 0, zH s6 zL6 0, zH s7 zL7 0, zH s8 (zLb ks) 0, xr9 L xs]
def LwP (L : Nat) (xs : Nat → Int32) (pc i : Nat) (s0 s1 s2 s3 s4 s5 s6 s7 s8 : zZ) (ks : List Int) : Prop := ∃ hp' : xH, xBody ML_law 10 pc (LwV i) [] (HPs L xs s0 s1 s2 s3 s4 s5 s6 s7 s8 ks) (some (.int 1)) hp' ∧ xtot hp' ≤ 600000 ∧ xsl hp' ≤ 7302250
def av (xs : Nat → Int32) (i k : Nat) : Int := (xs (i + k)).toInt
theorem av_zr (xs : Nat → Int32) (i k : Nat) : zr (av xs i k) := by
  unfold av
  have h1 := Int32.le_toInt (xs (i + k))
  have h2 := Int32.toInt_lt (xs (i + k))
  constructor
  · have : (-2 : Int) ^ 31 = -2147483648 := by decide
    omega
  · have : (2 : Int) ^ 31 = 2147483648 := by decide
    omega
theorem law_ld {L : Nat} {xs : Nat → Int32} (hL : L ≤ 2560) {i k : Nat} (hk : i + k < L) {rows : List xRow} {P : Nat} (hE : ∀ q, P ≤ q → xrow ML_law.2.2.2.2 q = xrow rows q) {pc n4 nx x0 : Nat} {kq : List (Nat × Nat)} {ws : List Nat} {v : Value} {kk : Int32} (hkk : kk = zI (k : Int)) {st : List Value} {hp : xH} {r : Option Value} {hp' : xH} (h9 : hp[9]? = some (xr9 L xs)) (hrun : xNP rows P 4 (pc, LwV i, st, hp) = some (n4, LwV i, .int (zI (i : Int) + kk) :: .ref 9216 :: st, hp)) (hP : P ≤ n4) (hrow : xrow rows n4 = some (.iaload, nx, x0, kq, ws, v)) (K : xBody ML_law 10 nx (LwV i) (.int (zI (av xs i k)) :: st) hp r hp') : xBody ML_law 10 pc (LwV i) st hp r hp' := by
  refine xB.run oL_law 4 (xNP_run hE 4 hrun) ?_
  dsimp only
  have e : zI (i : Int) + kk = zI ((i + k : Nat) : Int) := by
    rw [hkk, zi_add, Int.natCast_add]
  rw [e]
  have g : xget hp 9216 = some (.inl (0, L, .inl xs)) := by
    unfold xget
    rw [show 9216 / 1024 = 9 by decide, h9]
    rfl
  refine xB.iald oL_law (by rw [hE n4 hP]; exact hrow) g (zin (by omega) ⟨by omega, by omega⟩) ?_
  rw [zcl (N := L) (by omega) ⟨by omega, by omega⟩, Int.toNat_natCast]
  have f : xs (i + k) = zI (av xs i k) := zi_of _
  rw [f]
  exact K
theorem xB.same {M : xM} {d pc : Nat} {lv : xL} {st : List Value} {hp : xH} {r : Option Value} {hp' : xH} (hM : xokM M = true) {a b : Nat} {x : Int32} {lv1 : xL} {st1 : List Value} (h : x1 M.2.2.2.2 pc lv st hp = some (.inl (bif xcmp .eq x x then a else b, lv1, st1, hp))) (K : xBody M d a lv1 st1 hp r hp') : xBody M d pc lv st hp r hp' :=
  xB.brE hM (P := True) h (by unfold xcmp; exact decide_eq_decide.mpr ⟨fun _ => trivial, fun _ => rfl⟩) (fun _ => K) (fun n => absurd trivial n)
theorem xB.sameL {M : xM} {d pc : Nat} {lv : xL} {st : List Value} {hp : xH} {r : Option Value} {hp' : xH} (hM : xokM M = true) {a b : Nat} {x : Int64} {lv1 : xL} {st1 : List Value} (h : x1 M.2.2.2.2 pc lv st hp = some (.inl (bif xcmp .eq (lg_cmp x x) 0 then a else b, lv1, st1, hp))) (K : xBody M d a lv1 st1 hp r hp') : xBody M d pc lv st hp r hp' :=
  xB.brE hM (P := True) h (by rw [xlc_eq]; exact decide_eq_decide.mpr ⟨fun _ => trivial, fun _ => rfl⟩) (fun _ => K) (fun n => absurd trivial n)
def bv (x : Int) : Int := if x = 0 then 0 else 1
theorem bv_01 (x : Int) : bv x = 0 ∨ bv x = 1 := by
  unfold bv
  split
  · exact Or.inl rfl
  · exact Or.inr rfl
theorem l_text {L : Nat} {xs : Nat → Int32} (hL : L ≤ 2560) {i : Nat} (hi : i + 5 ≤ L) {s0 s1 s2 s3 s4 s5 s6 s7 s8 : zZ} {ks : List Int} (Q : Rel s0 s1 s2 s3 s4 s5 s6 s7 s8 ks) (next : ∀ (s0 s1 s2 s3 s4 s5 s6 s7 s8 : zZ) (ks : List Int), Rel s0 s1 s2 s3 s4 s5 s6 s7 s8 ks → LwP L xs 1517 i s0 s1 s2 s3 s4 s5 s6 s7 s8 ks) : LwP L xs 204 i s0 s1 s2 s3 s4 s5 s6 s7 s8 ks := by
  obtain ⟨r, s0', s1', s7', e1, e2, Q'⟩ := c_text Q (av_zr xs i 1) (av_zr xs i 2) (av_zr xs i 3) (av_zr xs i 4)
  obtain ⟨hp', X, b1, b2⟩ := next s0' s1' s2 s3 s4 s5 s6 s7' s8 ks Q'
  refine ⟨hp', ?_, b1, b2⟩
  refine xB.run oL_law 1 (s := (205, LwV i, [.ref 0], [zH s0 zL0 0, zH s1 zL1 0, zH s2 zL2 0, zH s3 zL3 0, zH s4 zL4 0, zH s5 zL5 0, zH s6 zL6 0, zH s7 zL7 0, zH s8 (zLb ks) 0, xr9 L xs])) (xNP_run hS0 1 rfl) ?_
  refine law_ld hL (k := 1) (by omega) hS0 (n4 := 209) (kk := 1) rfl rfl rfl (by decide) rfl ?_
  show xBody ML_law 10 210 (LwV i) [.int (zI (av xs i 1)), .ref 0] ([zH s0 zL0 0, zH s1 zL1 0, zH s2 zL2 0, zH s3 zL3 0, zH s4 zL4 0, zH s5 zL5 0, zH s6 zL6 0, zH s7 zL7 0, zH s8 (zLb ks) 0, xr9 L xs]) _ _
  refine law_ld hL (k := 2) (by omega) hS0 (n4 := 214) (kk := 2) rfl rfl rfl (by decide) rfl ?_
  show xBody ML_law 10 215 (LwV i) [.int (zI (av xs i 2)), .int (zI (av xs i 1)), .ref 0] ([zH s0 zL0 0, zH s1 zL1 0, zH s2 zL2 0, zH s3 zL3 0, zH s4 zL4 0, zH s5 zL5 0, zH s6 zL6 0, zH s7 zL7 0, zH s8 (zLb ks) 0, xr9 L xs]) _ _
  refine law_ld hL (k := 3) (by omega) hS0 (n4 := 219) (kk := 3) rfl rfl rfl (by decide) rfl ?_
  show xBody ML_law 10 220 (LwV i) [.int (zI (av xs i 3)), .int (zI (av xs i 2)), .int (zI (av xs i 1)), .ref 0] ([zH s0 zL0 0, zH s1 zL1 0, zH s2 zL2 0, zH s3 zL3 0, zH s4 zL4 0, zH s5 zL5 0, zH s6 zL6 0, zH s7 zL7 0, zH s8 (zLb ks) 0, xr9 L xs]) _ _
  refine law_ld hL (k := 4) (by omega) hS0 (n4 := 224) (kk := 4) rfl rfl rfl (by decide) rfl ?_
  show xBody ML_law 10 225 (LwV i) [.int (zI (av xs i 4)), .int (zI (av xs i 3)), .int (zI (av xs i 2)), .int (zI (av xs i 1)), .ref 0] ([zH s0 zL0 0, zH s1 zL1 0, zH s2 zL2 0, zH s3 zL3 0, zH s4 zL4 0, zH s5 zL5 0, zH s6 zL6 0, zH s7 zL7 0, zH s8 (zLb ks) 0, xr9 L xs]) _ _
  refine xB.call oL_law (M2 := MX11_text) ((x1S hS0 (Nat.le_of_ble_eq_true rfl) _ _ _).trans rfl) rfl ((t_X11_text s0 s1 (zH s2 zL2 0) (zH s3 zL3 0) (zH s4 zL4 0) (zH s5 zL5 0) s6 (zH s7 zL7 0) (zH s8 (zLb ks) 0) (xr9 L xs) (av xs i 1) (av xs i 2) (av xs i 3) (av xs i 4) e1).deep (by decide : 5 ≤ 9)) ?_
  show xBody ML_law 10 228 (LwV i) [.int (zI r)] ([zH s0' zL0 0, zH s1' zL1 0, zH s2 zL2 0, zH s3 zL3 0, zH s4 zL4 0, zH s5 zL5 0, zH s6 zL6 0, zH s7 zL7 0, zH s8 (zLb ks) 0, xr9 L xs]) _ _
  refine xB.run oL_law 1 (s := (229, LwV i, [.ref 7168, .int (zI r)], [zH s0' zL0 0, zH s1' zL1 0, zH s2 zL2 0, zH s3 zL3 0, zH s4 zL4 0, zH s5 zL5 0, zH s6 zL6 0, zH s7 zL7 0, zH s8 (zLb ks) 0, xr9 L xs])) (xNP_run hS0 1 rfl) ?_
  refine law_ld hL (k := 1) (by omega) hS0 (n4 := 233) (kk := 1) rfl rfl rfl (by decide) rfl ?_
  show xBody ML_law 10 234 (LwV i) [.int (zI (av xs i 1)), .ref 7168, .int (zI r)] ([zH s0' zL0 0, zH s1' zL1 0, zH s2 zL2 0, zH s3 zL3 0, zH s4 zL4 0, zH s5 zL5 0, zH s6 zL6 0, zH s7 zL7 0, zH s8 (zLb ks) 0, xr9 L xs]) _ _
  refine law_ld hL (k := 2) (by omega) hS0 (n4 := 238) (kk := 2) rfl rfl rfl (by decide) rfl ?_
  show xBody ML_law 10 239 (LwV i) [.int (zI (av xs i 2)), .int (zI (av xs i 1)), .ref 7168, .int (zI r)] ([zH s0' zL0 0, zH s1' zL1 0, zH s2 zL2 0, zH s3 zL3 0, zH s4 zL4 0, zH s5 zL5 0, zH s6 zL6 0, zH s7 zL7 0, zH s8 (zLb ks) 0, xr9 L xs]) _ _
  refine law_ld hL (k := 3) (by omega) hS0 (n4 := 243) (kk := 3) rfl rfl rfl (by decide) rfl ?_
  show xBody ML_law 10 244 (LwV i) [.int (zI (av xs i 3)), .int (zI (av xs i 2)), .int (zI (av xs i 1)), .ref 7168, .int (zI r)] ([zH s0' zL0 0, zH s1' zL1 0, zH s2 zL2 0, zH s3 zL3 0, zH s4 zL4 0, zH s5 zL5 0, zH s6 zL6 0, zH s7 zL7 0, zH s8 (zLb ks) 0, xr9 L xs]) _ _
  refine law_ld hL (k := 4) (by omega) hS0 (n4 := 248) (kk := 4) rfl rfl rfl (by decide) rfl ?_
  show xBody ML_law 10 249 (LwV i) [.int (zI (av xs i 4)), .int (zI (av xs i 3)), .int (zI (av xs i 2)), .int (zI (av xs i 1)), .ref 7168, .int (zI r)] ([zH s0' zL0 0, zH s1' zL1 0, zH s2 zL2 0, zH s3 zL3 0, zH s4 zL4 0, zH s5 zL5 0, zH s6 zL6 0, zH s7 zL7 0, zH s8 (zLb ks) 0, xr9 L xs]) _ _
  refine xB.call oL_law (M2 := MX12_text) ((x1S hS0 (Nat.le_of_ble_eq_true rfl) _ _ _).trans rfl) rfl ((t_X12_text (zH s0' zL0 0) (zH s1' zL1 0) (zH s2 zL2 0) (zH s3 zL3 0) (zH s4 zL4 0) (zH s5 zL5 0) (zH s6 zL6 0) s7 (zH s8 (zLb ks) 0) (xr9 L xs) (av xs i 1) (av xs i 2) (av xs i 3) (av xs i 4) e2).deep (by decide : 4 ≤ 9)) ?_
  show xBody ML_law 10 252 (LwV i) [.int (zI r), .int (zI r)] ([zH s0' zL0 0, zH s1' zL1 0, zH s2 zL2 0, zH s3 zL3 0, zH s4 zL4 0, zH s5 zL5 0, zH s6 zL6 0, zH s7' zL7 0, zH s8 (zLb ks) 0, xr9 L xs]) _ _
  exact xB.same oL_law ((x1S hS0 (Nat.le_of_ble_eq_true rfl) _ _ _).trans rfl) X
theorem l_panel {L : Nat} {xs : Nat → Int32} (hL : L ≤ 2560) {i : Nat} (hi : i + 5 ≤ L) {s0 s1 s2 s3 s4 s5 s6 s7 s8 : zZ} {ks : List Int} (Q : Rel s0 s1 s2 s3 s4 s5 s6 s7 s8 ks) (next : ∀ (s0 s1 s2 s3 s4 s5 s6 s7 s8 : zZ) (ks : List Int), Rel s0 s1 s2 s3 s4 s5 s6 s7 s8 ks → LwP L xs 1517 i s0 s1 s2 s3 s4 s5 s6 s7 s8 ks) : LwP L xs 257 i s0 s1 s2 s3 s4 s5 s6 s7 s8 ks := by
  obtain ⟨r, e1, e2, Q'⟩ := c_panel Q (av_zr xs i 1) (av_zr xs i 2)
  obtain ⟨hp', X, b1, b2⟩ := next s0 s1 s2 s3 s4 s5 s6 s7 s8 ks Q'
  refine ⟨hp', ?_, b1, b2⟩
  refine xB.run oL_law 1 (s := (258, LwV i, [.ref 0], [zH s0 zL0 0, zH s1 zL1 0, zH s2 zL2 0, zH s3 zL3 0, zH s4 zL4 0, zH s5 zL5 0, zH s6 zL6 0, zH s7 zL7 0, zH s8 (zLb ks) 0, xr9 L xs])) (xNP_run hS1 1 rfl) ?_
  refine law_ld hL (k := 1) (by omega) hS1 (n4 := 262) (kk := 1) rfl rfl rfl (by decide) rfl ?_
  show xBody ML_law 10 263 (LwV i) [.int (zI (av xs i 1)), .ref 0] ([zH s0 zL0 0, zH s1 zL1 0, zH s2 zL2 0, zH s3 zL3 0, zH s4 zL4 0, zH s5 zL5 0, zH s6 zL6 0, zH s7 zL7 0, zH s8 (zLb ks) 0, xr9 L xs]) _ _
  refine law_ld hL (k := 2) (by omega) hS1 (n4 := 267) (kk := 2) rfl rfl rfl (by decide) rfl ?_
  show xBody ML_law 10 268 (LwV i) [.int (zI (av xs i 2)), .int (zI (av xs i 1)), .ref 0] ([zH s0 zL0 0, zH s1 zL1 0, zH s2 zL2 0, zH s3 zL3 0, zH s4 zL4 0, zH s5 zL5 0, zH s6 zL6 0, zH s7 zL7 0, zH s8 (zLb ks) 0, xr9 L xs]) _ _
  refine xB.call oL_law (M2 := MX11_panel) ((x1S hS1 (Nat.le_of_ble_eq_true rfl) _ _ _).trans rfl) rfl ((t_X11_panel s0 s1 (zH s2 zL2 0) (zH s3 zL3 0) (zH s4 zL4 0) (zH s5 zL5 0) (zH s6 zL6 0) (zH s7 zL7 0) (zH s8 (zLb ks) 0) (xr9 L xs) (av xs i 1) (av xs i 2) e1).deep (by decide : 3 ≤ 9)) ?_
  show xBody ML_law 10 271 (LwV i) [.int (zI r)] ([zH s0 zL0 0, zH s1 zL1 0, zH s2 zL2 0, zH s3 zL3 0, zH s4 zL4 0, zH s5 zL5 0, zH s6 zL6 0, zH s7 zL7 0, zH s8 (zLb ks) 0, xr9 L xs]) _ _
  refine xB.run oL_law 1 (s := (272, LwV i, [.ref 7168, .int (zI r)], [zH s0 zL0 0, zH s1 zL1 0, zH s2 zL2 0, zH s3 zL3 0, zH s4 zL4 0, zH s5 zL5 0, zH s6 zL6 0, zH s7 zL7 0, zH s8 (zLb ks) 0, xr9 L xs])) (xNP_run hS1 1 rfl) ?_
  refine law_ld hL (k := 1) (by omega) hS1 (n4 := 276) (kk := 1) rfl rfl rfl (by decide) rfl ?_
  show xBody ML_law 10 277 (LwV i) [.int (zI (av xs i 1)), .ref 7168, .int (zI r)] ([zH s0 zL0 0, zH s1 zL1 0, zH s2 zL2 0, zH s3 zL3 0, zH s4 zL4 0, zH s5 zL5 0, zH s6 zL6 0, zH s7 zL7 0, zH s8 (zLb ks) 0, xr9 L xs]) _ _
  refine law_ld hL (k := 2) (by omega) hS1 (n4 := 281) (kk := 2) rfl rfl rfl (by decide) rfl ?_
  show xBody ML_law 10 282 (LwV i) [.int (zI (av xs i 2)), .int (zI (av xs i 1)), .ref 7168, .int (zI r)] ([zH s0 zL0 0, zH s1 zL1 0, zH s2 zL2 0, zH s3 zL3 0, zH s4 zL4 0, zH s5 zL5 0, zH s6 zL6 0, zH s7 zL7 0, zH s8 (zLb ks) 0, xr9 L xs]) _ _
  refine xB.call oL_law (M2 := MX12_panel) ((x1S hS1 (Nat.le_of_ble_eq_true rfl) _ _ _).trans rfl) rfl ((t_X12_panel (zH s0 zL0 0) (zH s1 zL1 0) (zH s2 zL2 0) (zH s3 zL3 0) (zH s4 zL4 0) (zH s5 zL5 0) (zH s6 zL6 0) s7 (zH s8 (zLb ks) 0) (xr9 L xs) (av xs i 1) (av xs i 2) e2).deep (by decide : 2 ≤ 9)) ?_
  show xBody ML_law 10 285 (LwV i) [.int (zI r), .int (zI r)] ([zH s0 zL0 0, zH s1 zL1 0, zH s2 zL2 0, zH s3 zL3 0, zH s4 zL4 0, zH s5 zL5 0, zH s6 zL6 0, zH s7 zL7 0, zH s8 (zLb ks) 0, xr9 L xs]) _ _
  exact xB.same oL_law ((x1S hS1 (Nat.le_of_ble_eq_true rfl) _ _ _).trans rfl) X
theorem l_thrust {L : Nat} {xs : Nat → Int32} (hL : L ≤ 2560) {i : Nat} (hi : i + 5 ≤ L) {s0 s1 s2 s3 s4 s5 s6 s7 s8 : zZ} {ks : List Int} (Q : Rel s0 s1 s2 s3 s4 s5 s6 s7 s8 ks) (next : ∀ (s0 s1 s2 s3 s4 s5 s6 s7 s8 : zZ) (ks : List Int), Rel s0 s1 s2 s3 s4 s5 s6 s7 s8 ks → LwP L xs 1517 i s0 s1 s2 s3 s4 s5 s6 s7 s8 ks) : LwP L xs 290 i s0 s1 s2 s3 s4 s5 s6 s7 s8 ks := by
  obtain ⟨r, e1, e2, Q'⟩ := c_thrust Q (av_zr xs i 1) (av_zr xs i 2)
  obtain ⟨hp', X, b1, b2⟩ := next s0 s1 s2 s3 s4 s5 s6 s7 s8 ks Q'
  refine ⟨hp', ?_, b1, b2⟩
  refine xB.run oL_law 1 (s := (291, LwV i, [.ref 0], [zH s0 zL0 0, zH s1 zL1 0, zH s2 zL2 0, zH s3 zL3 0, zH s4 zL4 0, zH s5 zL5 0, zH s6 zL6 0, zH s7 zL7 0, zH s8 (zLb ks) 0, xr9 L xs])) (xNP_run hS2 1 rfl) ?_
  refine law_ld hL (k := 1) (by omega) hS2 (n4 := 295) (kk := 1) rfl rfl rfl (by decide) rfl ?_
  show xBody ML_law 10 296 (LwV i) [.int (zI (av xs i 1)), .ref 0] ([zH s0 zL0 0, zH s1 zL1 0, zH s2 zL2 0, zH s3 zL3 0, zH s4 zL4 0, zH s5 zL5 0, zH s6 zL6 0, zH s7 zL7 0, zH s8 (zLb ks) 0, xr9 L xs]) _ _
  refine law_ld hL (k := 2) (by omega) hS2 (n4 := 300) (kk := 2) rfl rfl rfl (by decide) rfl ?_
  show xBody ML_law 10 301 (LwV i) [.int (zI (av xs i 2)), .int (zI (av xs i 1)), .ref 0] ([zH s0 zL0 0, zH s1 zL1 0, zH s2 zL2 0, zH s3 zL3 0, zH s4 zL4 0, zH s5 zL5 0, zH s6 zL6 0, zH s7 zL7 0, zH s8 (zLb ks) 0, xr9 L xs]) _ _
  refine xB.call oL_law (M2 := MX11_thrust) ((x1S hS2 (Nat.le_of_ble_eq_true rfl) _ _ _).trans rfl) rfl ((t_X11_thrust s0 s1 (zH s2 zL2 0) (zH s3 zL3 0) (zH s4 zL4 0) (zH s5 zL5 0) (zH s6 zL6 0) (zH s7 zL7 0) (zH s8 (zLb ks) 0) (xr9 L xs) (av xs i 1) (av xs i 2) e1).deep (by decide : 4 ≤ 9)) ?_
  show xBody ML_law 10 304 (LwV i) [.long (zJ r)] ([zH s0 zL0 0, zH s1 zL1 0, zH s2 zL2 0, zH s3 zL3 0, zH s4 zL4 0, zH s5 zL5 0, zH s6 zL6 0, zH s7 zL7 0, zH s8 (zLb ks) 0, xr9 L xs]) _ _
  refine xB.run oL_law 1 (s := (305, LwV i, [.ref 7168, .long (zJ r)], [zH s0 zL0 0, zH s1 zL1 0, zH s2 zL2 0, zH s3 zL3 0, zH s4 zL4 0, zH s5 zL5 0, zH s6 zL6 0, zH s7 zL7 0, zH s8 (zLb ks) 0, xr9 L xs])) (xNP_run hS2 1 rfl) ?_
  refine law_ld hL (k := 1) (by omega) hS2 (n4 := 309) (kk := 1) rfl rfl rfl (by decide) rfl ?_
  show xBody ML_law 10 310 (LwV i) [.int (zI (av xs i 1)), .ref 7168, .long (zJ r)] ([zH s0 zL0 0, zH s1 zL1 0, zH s2 zL2 0, zH s3 zL3 0, zH s4 zL4 0, zH s5 zL5 0, zH s6 zL6 0, zH s7 zL7 0, zH s8 (zLb ks) 0, xr9 L xs]) _ _
  refine law_ld hL (k := 2) (by omega) hS2 (n4 := 314) (kk := 2) rfl rfl rfl (by decide) rfl ?_
  show xBody ML_law 10 315 (LwV i) [.int (zI (av xs i 2)), .int (zI (av xs i 1)), .ref 7168, .long (zJ r)] ([zH s0 zL0 0, zH s1 zL1 0, zH s2 zL2 0, zH s3 zL3 0, zH s4 zL4 0, zH s5 zL5 0, zH s6 zL6 0, zH s7 zL7 0, zH s8 (zLb ks) 0, xr9 L xs]) _ _
  refine xB.call oL_law (M2 := MX12_thrust) ((x1S hS2 (Nat.le_of_ble_eq_true rfl) _ _ _).trans rfl) rfl ((t_X12_thrust (zH s0 zL0 0) (zH s1 zL1 0) (zH s2 zL2 0) (zH s3 zL3 0) (zH s4 zL4 0) (zH s5 zL5 0) (zH s6 zL6 0) s7 (zH s8 (zLb ks) 0) (xr9 L xs) (av xs i 1) (av xs i 2) e2).deep (by decide : 3 ≤ 9)) ?_
  show xBody ML_law 10 318 (LwV i) [.long (zJ r), .long (zJ r)] ([zH s0 zL0 0, zH s1 zL1 0, zH s2 zL2 0, zH s3 zL3 0, zH s4 zL4 0, zH s5 zL5 0, zH s6 zL6 0, zH s7 zL7 0, zH s8 (zLb ks) 0, xr9 L xs]) _ _
  refine xB.run oL_law 1 (s := (319, LwV i, [.int (lg_cmp (zJ r) (zJ r))], [zH s0 zL0 0, zH s1 zL1 0, zH s2 zL2 0, zH s3 zL3 0, zH s4 zL4 0, zH s5 zL5 0, zH s6 zL6 0, zH s7 zL7 0, zH s8 (zLb ks) 0, xr9 L xs])) (xNP_run hS2 1 rfl) ?_
  exact xB.sameL oL_law ((x1S hS2 (Nat.le_of_ble_eq_true rfl) _ _ _).trans rfl) X
theorem l_pull {L : Nat} {xs : Nat → Int32} (hL : L ≤ 2560) {i : Nat} (hi : i + 5 ≤ L) {s0 s1 s2 s3 s4 s5 s6 s7 s8 : zZ} {ks : List Int} (Q : Rel s0 s1 s2 s3 s4 s5 s6 s7 s8 ks) (next : ∀ (s0 s1 s2 s3 s4 s5 s6 s7 s8 : zZ) (ks : List Int), Rel s0 s1 s2 s3 s4 s5 s6 s7 s8 ks → LwP L xs 1517 i s0 s1 s2 s3 s4 s5 s6 s7 s8 ks) : LwP L xs 324 i s0 s1 s2 s3 s4 s5 s6 s7 s8 ks := by
  obtain ⟨r, e1, e2, Q'⟩ := c_pull Q (av_zr xs i 1) (av_zr xs i 2)
  obtain ⟨hp', X, b1, b2⟩ := next s0 s1 s2 s3 s4 s5 s6 s7 s8 ks Q'
  refine ⟨hp', ?_, b1, b2⟩
  refine xB.run oL_law 1 (s := (325, LwV i, [.ref 0], [zH s0 zL0 0, zH s1 zL1 0, zH s2 zL2 0, zH s3 zL3 0, zH s4 zL4 0, zH s5 zL5 0, zH s6 zL6 0, zH s7 zL7 0, zH s8 (zLb ks) 0, xr9 L xs])) (xNP_run hS3 1 rfl) ?_
  refine law_ld hL (k := 1) (by omega) hS3 (n4 := 329) (kk := 1) rfl rfl rfl (by decide) rfl ?_
  show xBody ML_law 10 330 (LwV i) [.int (zI (av xs i 1)), .ref 0] ([zH s0 zL0 0, zH s1 zL1 0, zH s2 zL2 0, zH s3 zL3 0, zH s4 zL4 0, zH s5 zL5 0, zH s6 zL6 0, zH s7 zL7 0, zH s8 (zLb ks) 0, xr9 L xs]) _ _
  refine law_ld hL (k := 2) (by omega) hS3 (n4 := 334) (kk := 2) rfl rfl rfl (by decide) rfl ?_
  show xBody ML_law 10 335 (LwV i) [.int (zI (av xs i 2)), .int (zI (av xs i 1)), .ref 0] ([zH s0 zL0 0, zH s1 zL1 0, zH s2 zL2 0, zH s3 zL3 0, zH s4 zL4 0, zH s5 zL5 0, zH s6 zL6 0, zH s7 zL7 0, zH s8 (zLb ks) 0, xr9 L xs]) _ _
  refine xB.call oL_law (M2 := MX11_pull) ((x1S hS3 (Nat.le_of_ble_eq_true rfl) _ _ _).trans rfl) rfl ((t_X11_pull s0 s1 (zH s2 zL2 0) (zH s3 zL3 0) (zH s4 zL4 0) (zH s5 zL5 0) (zH s6 zL6 0) (zH s7 zL7 0) (zH s8 (zLb ks) 0) (xr9 L xs) (av xs i 1) (av xs i 2) e1).deep (by decide : 5 ≤ 9)) ?_
  show xBody ML_law 10 338 (LwV i) [.long (zJ r)] ([zH s0 zL0 0, zH s1 zL1 0, zH s2 zL2 0, zH s3 zL3 0, zH s4 zL4 0, zH s5 zL5 0, zH s6 zL6 0, zH s7 zL7 0, zH s8 (zLb ks) 0, xr9 L xs]) _ _
  refine xB.run oL_law 1 (s := (339, LwV i, [.ref 7168, .long (zJ r)], [zH s0 zL0 0, zH s1 zL1 0, zH s2 zL2 0, zH s3 zL3 0, zH s4 zL4 0, zH s5 zL5 0, zH s6 zL6 0, zH s7 zL7 0, zH s8 (zLb ks) 0, xr9 L xs])) (xNP_run hS3 1 rfl) ?_
  refine law_ld hL (k := 1) (by omega) hS3 (n4 := 343) (kk := 1) rfl rfl rfl (by decide) rfl ?_
  show xBody ML_law 10 344 (LwV i) [.int (zI (av xs i 1)), .ref 7168, .long (zJ r)] ([zH s0 zL0 0, zH s1 zL1 0, zH s2 zL2 0, zH s3 zL3 0, zH s4 zL4 0, zH s5 zL5 0, zH s6 zL6 0, zH s7 zL7 0, zH s8 (zLb ks) 0, xr9 L xs]) _ _
  refine law_ld hL (k := 2) (by omega) hS3 (n4 := 348) (kk := 2) rfl rfl rfl (by decide) rfl ?_
  show xBody ML_law 10 349 (LwV i) [.int (zI (av xs i 2)), .int (zI (av xs i 1)), .ref 7168, .long (zJ r)] ([zH s0 zL0 0, zH s1 zL1 0, zH s2 zL2 0, zH s3 zL3 0, zH s4 zL4 0, zH s5 zL5 0, zH s6 zL6 0, zH s7 zL7 0, zH s8 (zLb ks) 0, xr9 L xs]) _ _
  refine xB.call oL_law (M2 := MX12_pull) ((x1S hS3 (Nat.le_of_ble_eq_true rfl) _ _ _).trans rfl) rfl ((t_X12_pull (zH s0 zL0 0) (zH s1 zL1 0) (zH s2 zL2 0) (zH s3 zL3 0) (zH s4 zL4 0) (zH s5 zL5 0) (zH s6 zL6 0) s7 (zH s8 (zLb ks) 0) (xr9 L xs) (av xs i 1) (av xs i 2) e2).deep (by decide : 4 ≤ 9)) ?_
  show xBody ML_law 10 352 (LwV i) [.long (zJ r), .long (zJ r)] ([zH s0 zL0 0, zH s1 zL1 0, zH s2 zL2 0, zH s3 zL3 0, zH s4 zL4 0, zH s5 zL5 0, zH s6 zL6 0, zH s7 zL7 0, zH s8 (zLb ks) 0, xr9 L xs]) _ _
  refine xB.run oL_law 1 (s := (353, LwV i, [.int (lg_cmp (zJ r) (zJ r))], [zH s0 zL0 0, zH s1 zL1 0, zH s2 zL2 0, zH s3 zL3 0, zH s4 zL4 0, zH s5 zL5 0, zH s6 zL6 0, zH s7 zL7 0, zH s8 (zLb ks) 0, xr9 L xs])) (xNP_run hS3 1 rfl) ?_
  exact xB.sameL oL_law ((x1S hS3 (Nat.le_of_ble_eq_true rfl) _ _ _).trans rfl) X
theorem l_thick {L : Nat} {xs : Nat → Int32} (hL : L ≤ 2560) {i : Nat} (hi : i + 5 ≤ L) {s0 s1 s2 s3 s4 s5 s6 s7 s8 : zZ} {ks : List Int} (Q : Rel s0 s1 s2 s3 s4 s5 s6 s7 s8 ks) (next : ∀ (s0 s1 s2 s3 s4 s5 s6 s7 s8 : zZ) (ks : List Int), Rel s0 s1 s2 s3 s4 s5 s6 s7 s8 ks → LwP L xs 1517 i s0 s1 s2 s3 s4 s5 s6 s7 s8 ks) : LwP L xs 358 i s0 s1 s2 s3 s4 s5 s6 s7 s8 ks := by
  obtain ⟨r, s1', s7', e1, e2, Q'⟩ := c_thick Q (av_zr xs i 1) (av_zr xs i 2)
  obtain ⟨hp', X, b1, b2⟩ := next s0 s1' s2 s3 s4 s5 s6 s7' s8 ks Q'
  refine ⟨hp', ?_, b1, b2⟩
  refine xB.run oL_law 1 (s := (359, LwV i, [.ref 0], [zH s0 zL0 0, zH s1 zL1 0, zH s2 zL2 0, zH s3 zL3 0, zH s4 zL4 0, zH s5 zL5 0, zH s6 zL6 0, zH s7 zL7 0, zH s8 (zLb ks) 0, xr9 L xs])) (xNP_run hS3 1 rfl) ?_
  refine law_ld hL (k := 1) (by omega) hS3 (n4 := 363) (kk := 1) rfl rfl rfl (by decide) rfl ?_
  show xBody ML_law 10 364 (LwV i) [.int (zI (av xs i 1)), .ref 0] ([zH s0 zL0 0, zH s1 zL1 0, zH s2 zL2 0, zH s3 zL3 0, zH s4 zL4 0, zH s5 zL5 0, zH s6 zL6 0, zH s7 zL7 0, zH s8 (zLb ks) 0, xr9 L xs]) _ _
  refine law_ld hL (k := 2) (by omega) hS3 (n4 := 368) (kk := 2) rfl rfl rfl (by decide) rfl ?_
  show xBody ML_law 10 369 (LwV i) [.int (zI (av xs i 2)), .int (zI (av xs i 1)), .ref 0] ([zH s0 zL0 0, zH s1 zL1 0, zH s2 zL2 0, zH s3 zL3 0, zH s4 zL4 0, zH s5 zL5 0, zH s6 zL6 0, zH s7 zL7 0, zH s8 (zLb ks) 0, xr9 L xs]) _ _
  refine xB.call oL_law (M2 := MX11_thick) ((x1S hS3 (Nat.le_of_ble_eq_true rfl) _ _ _).trans rfl) rfl ((t_X11_thick s0 s1 (zH s2 zL2 0) (zH s3 zL3 0) (zH s4 zL4 0) (zH s5 zL5 0) (zH s6 zL6 0) (zH s7 zL7 0) (zH s8 (zLb ks) 0) (xr9 L xs) (av xs i 1) (av xs i 2) e1).deep (by decide : 4 ≤ 9)) ?_
  show xBody ML_law 10 372 (LwV i) [.int (zI r)] ([zH s0 zL0 0, zH s1' zL1 0, zH s2 zL2 0, zH s3 zL3 0, zH s4 zL4 0, zH s5 zL5 0, zH s6 zL6 0, zH s7 zL7 0, zH s8 (zLb ks) 0, xr9 L xs]) _ _
  refine xB.run oL_law 1 (s := (373, LwV i, [.ref 7168, .int (zI r)], [zH s0 zL0 0, zH s1' zL1 0, zH s2 zL2 0, zH s3 zL3 0, zH s4 zL4 0, zH s5 zL5 0, zH s6 zL6 0, zH s7 zL7 0, zH s8 (zLb ks) 0, xr9 L xs])) (xNP_run hS3 1 rfl) ?_
  refine law_ld hL (k := 1) (by omega) hS3 (n4 := 377) (kk := 1) rfl rfl rfl (by decide) rfl ?_
  show xBody ML_law 10 378 (LwV i) [.int (zI (av xs i 1)), .ref 7168, .int (zI r)] ([zH s0 zL0 0, zH s1' zL1 0, zH s2 zL2 0, zH s3 zL3 0, zH s4 zL4 0, zH s5 zL5 0, zH s6 zL6 0, zH s7 zL7 0, zH s8 (zLb ks) 0, xr9 L xs]) _ _
  refine law_ld hL (k := 2) (by omega) hS3 (n4 := 382) (kk := 2) rfl rfl rfl (by decide) rfl ?_
  show xBody ML_law 10 383 (LwV i) [.int (zI (av xs i 2)), .int (zI (av xs i 1)), .ref 7168, .int (zI r)] ([zH s0 zL0 0, zH s1' zL1 0, zH s2 zL2 0, zH s3 zL3 0, zH s4 zL4 0, zH s5 zL5 0, zH s6 zL6 0, zH s7 zL7 0, zH s8 (zLb ks) 0, xr9 L xs]) _ _
  refine xB.call oL_law (M2 := MX12_thick) ((x1S hS3 (Nat.le_of_ble_eq_true rfl) _ _ _).trans rfl) rfl ((t_X12_thick (zH s0 zL0 0) (zH s1' zL1 0) (zH s2 zL2 0) (zH s3 zL3 0) (zH s4 zL4 0) (zH s5 zL5 0) (zH s6 zL6 0) s7 (zH s8 (zLb ks) 0) (xr9 L xs) (av xs i 1) (av xs i 2) e2).deep (by decide : 3 ≤ 9)) ?_
  show xBody ML_law 10 386 (LwV i) [.int (zI r), .int (zI r)] ([zH s0 zL0 0, zH s1' zL1 0, zH s2 zL2 0, zH s3 zL3 0, zH s4 zL4 0, zH s5 zL5 0, zH s6 zL6 0, zH s7' zL7 0, zH s8 (zLb ks) 0, xr9 L xs]) _ _
  exact xB.same oL_law ((x1S hS3 (Nat.le_of_ble_eq_true rfl) _ _ _).trans rfl) X
theorem l_rib {L : Nat} {xs : Nat → Int32} (hL : L ≤ 2560) {i : Nat} (hi : i + 5 ≤ L) {s0 s1 s2 s3 s4 s5 s6 s7 s8 : zZ} {ks : List Int} (Q : Rel s0 s1 s2 s3 s4 s5 s6 s7 s8 ks) (next : ∀ (s0 s1 s2 s3 s4 s5 s6 s7 s8 : zZ) (ks : List Int), Rel s0 s1 s2 s3 s4 s5 s6 s7 s8 ks → LwP L xs 1517 i s0 s1 s2 s3 s4 s5 s6 s7 s8 ks) : LwP L xs 391 i s0 s1 s2 s3 s4 s5 s6 s7 s8 ks := by
  obtain ⟨r, s2', s7', e1, e2, Q'⟩ := c_rib Q (av_zr xs i 1)
  obtain ⟨hp', X, b1, b2⟩ := next s0 s1 s2' s3 s4 s5 s6 s7' s8 ks Q'
  refine ⟨hp', ?_, b1, b2⟩
  refine xB.run oL_law 1 (s := (392, LwV i, [.ref 0], [zH s0 zL0 0, zH s1 zL1 0, zH s2 zL2 0, zH s3 zL3 0, zH s4 zL4 0, zH s5 zL5 0, zH s6 zL6 0, zH s7 zL7 0, zH s8 (zLb ks) 0, xr9 L xs])) (xNP_run hS4 1 rfl) ?_
  refine law_ld hL (k := 1) (by omega) hS4 (n4 := 396) (kk := 1) rfl rfl rfl (by decide) rfl ?_
  show xBody ML_law 10 397 (LwV i) [.int (zI (av xs i 1)), .ref 0] ([zH s0 zL0 0, zH s1 zL1 0, zH s2 zL2 0, zH s3 zL3 0, zH s4 zL4 0, zH s5 zL5 0, zH s6 zL6 0, zH s7 zL7 0, zH s8 (zLb ks) 0, xr9 L xs]) _ _
  refine xB.call oL_law (M2 := MX11_rib) ((x1S hS4 (Nat.le_of_ble_eq_true rfl) _ _ _).trans rfl) rfl ((t_X11_rib s0 (zH s1 zL1 0) s2 (zH s3 zL3 0) (zH s4 zL4 0) (zH s5 zL5 0) (zH s6 zL6 0) (zH s7 zL7 0) (zH s8 (zLb ks) 0) (xr9 L xs) (av xs i 1) e1).deep (by decide : 4 ≤ 9)) ?_
  show xBody ML_law 10 400 (LwV i) [.int (zI r)] ([zH s0 zL0 0, zH s1 zL1 0, zH s2' zL2 0, zH s3 zL3 0, zH s4 zL4 0, zH s5 zL5 0, zH s6 zL6 0, zH s7 zL7 0, zH s8 (zLb ks) 0, xr9 L xs]) _ _
  refine xB.run oL_law 1 (s := (401, LwV i, [.ref 7168, .int (zI r)], [zH s0 zL0 0, zH s1 zL1 0, zH s2' zL2 0, zH s3 zL3 0, zH s4 zL4 0, zH s5 zL5 0, zH s6 zL6 0, zH s7 zL7 0, zH s8 (zLb ks) 0, xr9 L xs])) (xNP_run hS4 1 rfl) ?_
  refine law_ld hL (k := 1) (by omega) hS4 (n4 := 405) (kk := 1) rfl rfl rfl (by decide) rfl ?_
  show xBody ML_law 10 406 (LwV i) [.int (zI (av xs i 1)), .ref 7168, .int (zI r)] ([zH s0 zL0 0, zH s1 zL1 0, zH s2' zL2 0, zH s3 zL3 0, zH s4 zL4 0, zH s5 zL5 0, zH s6 zL6 0, zH s7 zL7 0, zH s8 (zLb ks) 0, xr9 L xs]) _ _
  refine xB.call oL_law (M2 := MX12_rib) ((x1S hS4 (Nat.le_of_ble_eq_true rfl) _ _ _).trans rfl) rfl ((t_X12_rib (zH s0 zL0 0) (zH s1 zL1 0) (zH s2' zL2 0) (zH s3 zL3 0) (zH s4 zL4 0) (zH s5 zL5 0) (zH s6 zL6 0) s7 (zH s8 (zLb ks) 0) (xr9 L xs) (av xs i 1) e2).deep (by decide : 1 ≤ 9)) ?_
  show xBody ML_law 10 409 (LwV i) [.int (zI r), .int (zI r)] ([zH s0 zL0 0, zH s1 zL1 0, zH s2' zL2 0, zH s3 zL3 0, zH s4 zL4 0, zH s5 zL5 0, zH s6 zL6 0, zH s7' zL7 0, zH s8 (zLb ks) 0, xr9 L xs]) _ _
  exact xB.same oL_law ((x1S hS4 (Nat.le_of_ble_eq_true rfl) _ _ _).trans rfl) X
theorem l_spring {L : Nat} {xs : Nat → Int32} (hL : L ≤ 2560) {i : Nat} (hi : i + 5 ≤ L) {s0 s1 s2 s3 s4 s5 s6 s7 s8 : zZ} {ks : List Int} (Q : Rel s0 s1 s2 s3 s4 s5 s6 s7 s8 ks) (next : ∀ (s0 s1 s2 s3 s4 s5 s6 s7 s8 : zZ) (ks : List Int), Rel s0 s1 s2 s3 s4 s5 s6 s7 s8 ks → LwP L xs 1517 i s0 s1 s2 s3 s4 s5 s6 s7 s8 ks) : LwP L xs 414 i s0 s1 s2 s3 s4 s5 s6 s7 s8 ks := by
  obtain ⟨r, s2', s7', e1, e2, Q'⟩ := c_spring Q (av_zr xs i 1) (av_zr xs i 2)
  obtain ⟨hp', X, b1, b2⟩ := next s0 s1 s2' s3 s4 s5 s6 s7' s8 ks Q'
  refine ⟨hp', ?_, b1, b2⟩
  refine xB.run oL_law 1 (s := (415, LwV i, [.ref 0], [zH s0 zL0 0, zH s1 zL1 0, zH s2 zL2 0, zH s3 zL3 0, zH s4 zL4 0, zH s5 zL5 0, zH s6 zL6 0, zH s7 zL7 0, zH s8 (zLb ks) 0, xr9 L xs])) (xNP_run hS4 1 rfl) ?_
  refine law_ld hL (k := 1) (by omega) hS4 (n4 := 419) (kk := 1) rfl rfl rfl (by decide) rfl ?_
  show xBody ML_law 10 420 (LwV i) [.int (zI (av xs i 1)), .ref 0] ([zH s0 zL0 0, zH s1 zL1 0, zH s2 zL2 0, zH s3 zL3 0, zH s4 zL4 0, zH s5 zL5 0, zH s6 zL6 0, zH s7 zL7 0, zH s8 (zLb ks) 0, xr9 L xs]) _ _
  refine law_ld hL (k := 2) (by omega) hS4 (n4 := 424) (kk := 2) rfl rfl rfl (by decide) rfl ?_
  show xBody ML_law 10 425 (LwV i) [.int (zI (av xs i 2)), .int (zI (av xs i 1)), .ref 0] ([zH s0 zL0 0, zH s1 zL1 0, zH s2 zL2 0, zH s3 zL3 0, zH s4 zL4 0, zH s5 zL5 0, zH s6 zL6 0, zH s7 zL7 0, zH s8 (zLb ks) 0, xr9 L xs]) _ _
  refine xB.call oL_law (M2 := MX11_spring) ((x1S hS4 (Nat.le_of_ble_eq_true rfl) _ _ _).trans rfl) rfl ((t_X11_spring s0 (zH s1 zL1 0) s2 (zH s3 zL3 0) (zH s4 zL4 0) (zH s5 zL5 0) (zH s6 zL6 0) (zH s7 zL7 0) (zH s8 (zLb ks) 0) (xr9 L xs) (av xs i 1) (av xs i 2) e1).deep (by decide : 4 ≤ 9)) ?_
  show xBody ML_law 10 428 (LwV i) [.int (zI r)] ([zH s0 zL0 0, zH s1 zL1 0, zH s2' zL2 0, zH s3 zL3 0, zH s4 zL4 0, zH s5 zL5 0, zH s6 zL6 0, zH s7 zL7 0, zH s8 (zLb ks) 0, xr9 L xs]) _ _
  refine xB.run oL_law 1 (s := (429, LwV i, [.ref 7168, .int (zI r)], [zH s0 zL0 0, zH s1 zL1 0, zH s2' zL2 0, zH s3 zL3 0, zH s4 zL4 0, zH s5 zL5 0, zH s6 zL6 0, zH s7 zL7 0, zH s8 (zLb ks) 0, xr9 L xs])) (xNP_run hS4 1 rfl) ?_
  refine law_ld hL (k := 1) (by omega) hS4 (n4 := 433) (kk := 1) rfl rfl rfl (by decide) rfl ?_
  show xBody ML_law 10 434 (LwV i) [.int (zI (av xs i 1)), .ref 7168, .int (zI r)] ([zH s0 zL0 0, zH s1 zL1 0, zH s2' zL2 0, zH s3 zL3 0, zH s4 zL4 0, zH s5 zL5 0, zH s6 zL6 0, zH s7 zL7 0, zH s8 (zLb ks) 0, xr9 L xs]) _ _
  refine law_ld hL (k := 2) (by omega) hS4 (n4 := 438) (kk := 2) rfl rfl rfl (by decide) rfl ?_
  show xBody ML_law 10 439 (LwV i) [.int (zI (av xs i 2)), .int (zI (av xs i 1)), .ref 7168, .int (zI r)] ([zH s0 zL0 0, zH s1 zL1 0, zH s2' zL2 0, zH s3 zL3 0, zH s4 zL4 0, zH s5 zL5 0, zH s6 zL6 0, zH s7 zL7 0, zH s8 (zLb ks) 0, xr9 L xs]) _ _
  refine xB.call oL_law (M2 := MX12_spring) ((x1S hS4 (Nat.le_of_ble_eq_true rfl) _ _ _).trans rfl) rfl ((t_X12_spring (zH s0 zL0 0) (zH s1 zL1 0) (zH s2' zL2 0) (zH s3 zL3 0) (zH s4 zL4 0) (zH s5 zL5 0) (zH s6 zL6 0) s7 (zH s8 (zLb ks) 0) (xr9 L xs) (av xs i 1) (av xs i 2) e2).deep (by decide : 1 ≤ 9)) ?_
  show xBody ML_law 10 442 (LwV i) [.int (zI r), .int (zI r)] ([zH s0 zL0 0, zH s1 zL1 0, zH s2' zL2 0, zH s3 zL3 0, zH s4 zL4 0, zH s5 zL5 0, zH s6 zL6 0, zH s7' zL7 0, zH s8 (zLb ks) 0, xr9 L xs]) _ _
  exact xB.same oL_law ((x1S hS4 (Nat.le_of_ble_eq_true rfl) _ _ _).trans rfl) X
theorem l_poly {L : Nat} {xs : Nat → Int32} (hL : L ≤ 2560) {i : Nat} (hi : i + 5 ≤ L) {s0 s1 s2 s3 s4 s5 s6 s7 s8 : zZ} {ks : List Int} (Q : Rel s0 s1 s2 s3 s4 s5 s6 s7 s8 ks) (next : ∀ (s0 s1 s2 s3 s4 s5 s6 s7 s8 : zZ) (ks : List Int), Rel s0 s1 s2 s3 s4 s5 s6 s7 s8 ks → LwP L xs 1517 i s0 s1 s2 s3 s4 s5 s6 s7 s8 ks) : LwP L xs 447 i s0 s1 s2 s3 s4 s5 s6 s7 s8 ks := by
  obtain ⟨r, s7', e1, e2, Q'⟩ := c_poly Q (av_zr xs i 1)
  obtain ⟨hp', X, b1, b2⟩ := next s0 s1 s2 s3 s4 s5 s6 s7' s8 ks Q'
  refine ⟨hp', ?_, b1, b2⟩
  refine xB.run oL_law 1 (s := (448, LwV i, [.ref 0], [zH s0 zL0 0, zH s1 zL1 0, zH s2 zL2 0, zH s3 zL3 0, zH s4 zL4 0, zH s5 zL5 0, zH s6 zL6 0, zH s7 zL7 0, zH s8 (zLb ks) 0, xr9 L xs])) (xNP_run hS5 1 rfl) ?_
  refine law_ld hL (k := 1) (by omega) hS5 (n4 := 452) (kk := 1) rfl rfl rfl (by decide) rfl ?_
  show xBody ML_law 10 453 (LwV i) [.int (zI (av xs i 1)), .ref 0] ([zH s0 zL0 0, zH s1 zL1 0, zH s2 zL2 0, zH s3 zL3 0, zH s4 zL4 0, zH s5 zL5 0, zH s6 zL6 0, zH s7 zL7 0, zH s8 (zLb ks) 0, xr9 L xs]) _ _
  refine xB.call oL_law (M2 := MX11_poly) ((x1S hS5 (Nat.le_of_ble_eq_true rfl) _ _ _).trans rfl) rfl ((t_X11_poly s0 (zH s1 zL1 0) s2 (zH s3 zL3 0) (zH s4 zL4 0) (zH s5 zL5 0) (zH s6 zL6 0) (zH s7 zL7 0) (zH s8 (zLb ks) 0) (xr9 L xs) (av xs i 1) e1).deep (by decide : 2 ≤ 9)) ?_
  show xBody ML_law 10 456 (LwV i) [.long (zJ r)] ([zH s0 zL0 0, zH s1 zL1 0, zH s2 zL2 0, zH s3 zL3 0, zH s4 zL4 0, zH s5 zL5 0, zH s6 zL6 0, zH s7 zL7 0, zH s8 (zLb ks) 0, xr9 L xs]) _ _
  refine xB.run oL_law 1 (s := (457, LwV i, [.ref 7168, .long (zJ r)], [zH s0 zL0 0, zH s1 zL1 0, zH s2 zL2 0, zH s3 zL3 0, zH s4 zL4 0, zH s5 zL5 0, zH s6 zL6 0, zH s7 zL7 0, zH s8 (zLb ks) 0, xr9 L xs])) (xNP_run hS5 1 rfl) ?_
  refine law_ld hL (k := 1) (by omega) hS5 (n4 := 461) (kk := 1) rfl rfl rfl (by decide) rfl ?_
  show xBody ML_law 10 462 (LwV i) [.int (zI (av xs i 1)), .ref 7168, .long (zJ r)] ([zH s0 zL0 0, zH s1 zL1 0, zH s2 zL2 0, zH s3 zL3 0, zH s4 zL4 0, zH s5 zL5 0, zH s6 zL6 0, zH s7 zL7 0, zH s8 (zLb ks) 0, xr9 L xs]) _ _
  refine xB.call oL_law (M2 := MX12_poly) ((x1S hS5 (Nat.le_of_ble_eq_true rfl) _ _ _).trans rfl) rfl ((t_X12_poly (zH s0 zL0 0) (zH s1 zL1 0) (zH s2 zL2 0) (zH s3 zL3 0) (zH s4 zL4 0) (zH s5 zL5 0) (zH s6 zL6 0) s7 (zH s8 (zLb ks) 0) (xr9 L xs) (av xs i 1) e2).deep (by decide : 3 ≤ 9)) ?_
  show xBody ML_law 10 465 (LwV i) [.long (zJ r), .long (zJ r)] ([zH s0 zL0 0, zH s1 zL1 0, zH s2 zL2 0, zH s3 zL3 0, zH s4 zL4 0, zH s5 zL5 0, zH s6 zL6 0, zH s7' zL7 0, zH s8 (zLb ks) 0, xr9 L xs]) _ _
  refine xB.run oL_law 1 (s := (466, LwV i, [.int (lg_cmp (zJ r) (zJ r))], [zH s0 zL0 0, zH s1 zL1 0, zH s2 zL2 0, zH s3 zL3 0, zH s4 zL4 0, zH s5 zL5 0, zH s6 zL6 0, zH s7' zL7 0, zH s8 (zLb ks) 0, xr9 L xs])) (xNP_run hS5 1 rfl) ?_
  exact xB.sameL oL_law ((x1S hS5 (Nat.le_of_ble_eq_true rfl) _ _ _).trans rfl) X
theorem l_folds {L : Nat} {xs : Nat → Int32} (hL : L ≤ 2560) {i : Nat} (hi : i + 5 ≤ L) {s0 s1 s2 s3 s4 s5 s6 s7 s8 : zZ} {ks : List Int} (Q : Rel s0 s1 s2 s3 s4 s5 s6 s7 s8 ks) (next : ∀ (s0 s1 s2 s3 s4 s5 s6 s7 s8 : zZ) (ks : List Int), Rel s0 s1 s2 s3 s4 s5 s6 s7 s8 ks → LwP L xs 1517 i s0 s1 s2 s3 s4 s5 s6 s7 s8 ks) : LwP L xs 471 i s0 s1 s2 s3 s4 s5 s6 s7 s8 ks := by
  obtain ⟨r, s2', s7', e1, e2, Q'⟩ := c_folds Q (av_zr xs i 1) (av_zr xs i 2)
  obtain ⟨hp', X, b1, b2⟩ := next s0 s1 s2' s3 s4 s5 s6 s7' s8 ks Q'
  refine ⟨hp', ?_, b1, b2⟩
  refine xB.run oL_law 1 (s := (472, LwV i, [.ref 0], [zH s0 zL0 0, zH s1 zL1 0, zH s2 zL2 0, zH s3 zL3 0, zH s4 zL4 0, zH s5 zL5 0, zH s6 zL6 0, zH s7 zL7 0, zH s8 (zLb ks) 0, xr9 L xs])) (xNP_run hS6 1 rfl) ?_
  refine law_ld hL (k := 1) (by omega) hS6 (n4 := 476) (kk := 1) rfl rfl rfl (by decide) rfl ?_
  show xBody ML_law 10 477 (LwV i) [.int (zI (av xs i 1)), .ref 0] ([zH s0 zL0 0, zH s1 zL1 0, zH s2 zL2 0, zH s3 zL3 0, zH s4 zL4 0, zH s5 zL5 0, zH s6 zL6 0, zH s7 zL7 0, zH s8 (zLb ks) 0, xr9 L xs]) _ _
  refine law_ld hL (k := 2) (by omega) hS6 (n4 := 481) (kk := 2) rfl rfl rfl (by decide) rfl ?_
  show xBody ML_law 10 482 (LwV i) [.int (zI (av xs i 2)), .int (zI (av xs i 1)), .ref 0] ([zH s0 zL0 0, zH s1 zL1 0, zH s2 zL2 0, zH s3 zL3 0, zH s4 zL4 0, zH s5 zL5 0, zH s6 zL6 0, zH s7 zL7 0, zH s8 (zLb ks) 0, xr9 L xs]) _ _
  refine xB.call oL_law (M2 := MX11_folds) ((x1S hS6 (Nat.le_of_ble_eq_true rfl) _ _ _).trans rfl) rfl ((t_X11_folds s0 (zH s1 zL1 0) s2 (zH s3 zL3 0) (zH s4 zL4 0) (zH s5 zL5 0) (zH s6 zL6 0) (zH s7 zL7 0) (zH s8 (zLb ks) 0) (xr9 L xs) (av xs i 1) (av xs i 2) e1).deep (by decide : 2 ≤ 9)) ?_
  show xBody ML_law 10 485 (LwV i) [.int (zI r)] ([zH s0 zL0 0, zH s1 zL1 0, zH s2' zL2 0, zH s3 zL3 0, zH s4 zL4 0, zH s5 zL5 0, zH s6 zL6 0, zH s7 zL7 0, zH s8 (zLb ks) 0, xr9 L xs]) _ _
  refine xB.run oL_law 1 (s := (486, LwV i, [.ref 7168, .int (zI r)], [zH s0 zL0 0, zH s1 zL1 0, zH s2' zL2 0, zH s3 zL3 0, zH s4 zL4 0, zH s5 zL5 0, zH s6 zL6 0, zH s7 zL7 0, zH s8 (zLb ks) 0, xr9 L xs])) (xNP_run hS6 1 rfl) ?_
  refine law_ld hL (k := 1) (by omega) hS6 (n4 := 490) (kk := 1) rfl rfl rfl (by decide) rfl ?_
  show xBody ML_law 10 491 (LwV i) [.int (zI (av xs i 1)), .ref 7168, .int (zI r)] ([zH s0 zL0 0, zH s1 zL1 0, zH s2' zL2 0, zH s3 zL3 0, zH s4 zL4 0, zH s5 zL5 0, zH s6 zL6 0, zH s7 zL7 0, zH s8 (zLb ks) 0, xr9 L xs]) _ _
  refine law_ld hL (k := 2) (by omega) hS6 (n4 := 495) (kk := 2) rfl rfl rfl (by decide) rfl ?_
  show xBody ML_law 10 496 (LwV i) [.int (zI (av xs i 2)), .int (zI (av xs i 1)), .ref 7168, .int (zI r)] ([zH s0 zL0 0, zH s1 zL1 0, zH s2' zL2 0, zH s3 zL3 0, zH s4 zL4 0, zH s5 zL5 0, zH s6 zL6 0, zH s7 zL7 0, zH s8 (zLb ks) 0, xr9 L xs]) _ _
  refine xB.call oL_law (M2 := MX12_folds) ((x1S hS6 (Nat.le_of_ble_eq_true rfl) _ _ _).trans rfl) rfl ((t_X12_folds (zH s0 zL0 0) (zH s1 zL1 0) (zH s2' zL2 0) (zH s3 zL3 0) (zH s4 zL4 0) (zH s5 zL5 0) (zH s6 zL6 0) s7 (zH s8 (zLb ks) 0) (xr9 L xs) (av xs i 1) (av xs i 2) e2).deep (by decide : 5 ≤ 9)) ?_
  show xBody ML_law 10 499 (LwV i) [.int (zI r), .int (zI r)] ([zH s0 zL0 0, zH s1 zL1 0, zH s2' zL2 0, zH s3 zL3 0, zH s4 zL4 0, zH s5 zL5 0, zH s6 zL6 0, zH s7' zL7 0, zH s8 (zLb ks) 0, xr9 L xs]) _ _
  exact xB.same oL_law ((x1S hS6 (Nat.le_of_ble_eq_true rfl) _ _ _).trans rfl) X
theorem l_fold {L : Nat} {xs : Nat → Int32} (hL : L ≤ 2560) {i : Nat} (hi : i + 5 ≤ L) {s0 s1 s2 s3 s4 s5 s6 s7 s8 : zZ} {ks : List Int} (Q : Rel s0 s1 s2 s3 s4 s5 s6 s7 s8 ks) (next : ∀ (s0 s1 s2 s3 s4 s5 s6 s7 s8 : zZ) (ks : List Int), Rel s0 s1 s2 s3 s4 s5 s6 s7 s8 ks → LwP L xs 1517 i s0 s1 s2 s3 s4 s5 s6 s7 s8 ks) : LwP L xs 504 i s0 s1 s2 s3 s4 s5 s6 s7 s8 ks := by
  obtain ⟨r, s2', s7', e1, e2, Q'⟩ := c_fold Q (av_zr xs i 1) (av_zr xs i 2)
  obtain ⟨hp', X, b1, b2⟩ := next s0 s1 s2' s3 s4 s5 s6 s7' s8 ks Q'
  refine ⟨hp', ?_, b1, b2⟩
  refine xB.run oL_law 1 (s := (505, LwV i, [.ref 0], [zH s0 zL0 0, zH s1 zL1 0, zH s2 zL2 0, zH s3 zL3 0, zH s4 zL4 0, zH s5 zL5 0, zH s6 zL6 0, zH s7 zL7 0, zH s8 (zLb ks) 0, xr9 L xs])) (xNP_run hS6 1 rfl) ?_
  refine law_ld hL (k := 1) (by omega) hS6 (n4 := 509) (kk := 1) rfl rfl rfl (by decide) rfl ?_
  show xBody ML_law 10 510 (LwV i) [.int (zI (av xs i 1)), .ref 0] ([zH s0 zL0 0, zH s1 zL1 0, zH s2 zL2 0, zH s3 zL3 0, zH s4 zL4 0, zH s5 zL5 0, zH s6 zL6 0, zH s7 zL7 0, zH s8 (zLb ks) 0, xr9 L xs]) _ _
  refine law_ld hL (k := 2) (by omega) hS6 (n4 := 514) (kk := 2) rfl rfl rfl (by decide) rfl ?_
  show xBody ML_law 10 515 (LwV i) [.int (zI (av xs i 2)), .int (zI (av xs i 1)), .ref 0] ([zH s0 zL0 0, zH s1 zL1 0, zH s2 zL2 0, zH s3 zL3 0, zH s4 zL4 0, zH s5 zL5 0, zH s6 zL6 0, zH s7 zL7 0, zH s8 (zLb ks) 0, xr9 L xs]) _ _
  refine xB.call oL_law (M2 := MX11_fold) ((x1S hS6 (Nat.le_of_ble_eq_true rfl) _ _ _).trans rfl) rfl ((t_X11_fold s0 (zH s1 zL1 0) s2 (zH s3 zL3 0) (zH s4 zL4 0) (zH s5 zL5 0) (zH s6 zL6 0) (zH s7 zL7 0) (zH s8 (zLb ks) 0) (xr9 L xs) (av xs i 1) (av xs i 2) e1).deep (by decide : 2 ≤ 9)) ?_
  show xBody ML_law 10 518 (LwV i) [.int (zI r)] ([zH s0 zL0 0, zH s1 zL1 0, zH s2' zL2 0, zH s3 zL3 0, zH s4 zL4 0, zH s5 zL5 0, zH s6 zL6 0, zH s7 zL7 0, zH s8 (zLb ks) 0, xr9 L xs]) _ _
  refine xB.run oL_law 1 (s := (519, LwV i, [.ref 7168, .int (zI r)], [zH s0 zL0 0, zH s1 zL1 0, zH s2' zL2 0, zH s3 zL3 0, zH s4 zL4 0, zH s5 zL5 0, zH s6 zL6 0, zH s7 zL7 0, zH s8 (zLb ks) 0, xr9 L xs])) (xNP_run hS6 1 rfl) ?_
  refine law_ld hL (k := 1) (by omega) hS6 (n4 := 523) (kk := 1) rfl rfl rfl (by decide) rfl ?_
  show xBody ML_law 10 524 (LwV i) [.int (zI (av xs i 1)), .ref 7168, .int (zI r)] ([zH s0 zL0 0, zH s1 zL1 0, zH s2' zL2 0, zH s3 zL3 0, zH s4 zL4 0, zH s5 zL5 0, zH s6 zL6 0, zH s7 zL7 0, zH s8 (zLb ks) 0, xr9 L xs]) _ _
  refine law_ld hL (k := 2) (by omega) hS6 (n4 := 528) (kk := 2) rfl rfl rfl (by decide) rfl ?_
  show xBody ML_law 10 529 (LwV i) [.int (zI (av xs i 2)), .int (zI (av xs i 1)), .ref 7168, .int (zI r)] ([zH s0 zL0 0, zH s1 zL1 0, zH s2' zL2 0, zH s3 zL3 0, zH s4 zL4 0, zH s5 zL5 0, zH s6 zL6 0, zH s7 zL7 0, zH s8 (zLb ks) 0, xr9 L xs]) _ _
  refine xB.call oL_law (M2 := MX12_fold) ((x1S hS6 (Nat.le_of_ble_eq_true rfl) _ _ _).trans rfl) rfl ((t_X12_fold (zH s0 zL0 0) (zH s1 zL1 0) (zH s2' zL2 0) (zH s3 zL3 0) (zH s4 zL4 0) (zH s5 zL5 0) (zH s6 zL6 0) s7 (zH s8 (zLb ks) 0) (xr9 L xs) (av xs i 1) (av xs i 2) e2).deep (by decide : 4 ≤ 9)) ?_
  show xBody ML_law 10 532 (LwV i) [.int (zI r), .int (zI r)] ([zH s0 zL0 0, zH s1 zL1 0, zH s2' zL2 0, zH s3 zL3 0, zH s4 zL4 0, zH s5 zL5 0, zH s6 zL6 0, zH s7' zL7 0, zH s8 (zLb ks) 0, xr9 L xs]) _ _
  exact xB.same oL_law ((x1S hS6 (Nat.le_of_ble_eq_true rfl) _ _ _).trans rfl) X
theorem l_bound {L : Nat} {xs : Nat → Int32} (hL : L ≤ 2560) {i : Nat} (hi : i + 5 ≤ L) {s0 s1 s2 s3 s4 s5 s6 s7 s8 : zZ} {ks : List Int} (Q : Rel s0 s1 s2 s3 s4 s5 s6 s7 s8 ks) (next : ∀ (s0 s1 s2 s3 s4 s5 s6 s7 s8 : zZ) (ks : List Int), Rel s0 s1 s2 s3 s4 s5 s6 s7 s8 ks → LwP L xs 1517 i s0 s1 s2 s3 s4 s5 s6 s7 s8 ks) : LwP L xs 537 i s0 s1 s2 s3 s4 s5 s6 s7 s8 ks := by
  obtain ⟨r, s2', s7', e1, e2, Q'⟩ := c_bound Q (av_zr xs i 1)
  obtain ⟨hp', X, b1, b2⟩ := next s0 s1 s2' s3 s4 s5 s6 s7' s8 ks Q'
  refine ⟨hp', ?_, b1, b2⟩
  refine xB.run oL_law 1 (s := (538, LwV i, [.ref 0], [zH s0 zL0 0, zH s1 zL1 0, zH s2 zL2 0, zH s3 zL3 0, zH s4 zL4 0, zH s5 zL5 0, zH s6 zL6 0, zH s7 zL7 0, zH s8 (zLb ks) 0, xr9 L xs])) (xNP_run hS7 1 rfl) ?_
  refine law_ld hL (k := 1) (by omega) hS7 (n4 := 542) (kk := 1) rfl rfl rfl (by decide) rfl ?_
  show xBody ML_law 10 543 (LwV i) [.int (zI (av xs i 1)), .ref 0] ([zH s0 zL0 0, zH s1 zL1 0, zH s2 zL2 0, zH s3 zL3 0, zH s4 zL4 0, zH s5 zL5 0, zH s6 zL6 0, zH s7 zL7 0, zH s8 (zLb ks) 0, xr9 L xs]) _ _
  refine xB.call oL_law (M2 := MX11_bound) ((x1S hS7 (Nat.le_of_ble_eq_true rfl) _ _ _).trans rfl) rfl ((t_X11_bound s0 (zH s1 zL1 0) s2 (zH s3 zL3 0) (zH s4 zL4 0) (zH s5 zL5 0) (zH s6 zL6 0) (zH s7 zL7 0) (zH s8 (zLb ks) 0) (xr9 L xs) (av xs i 1) e1).deep (by decide : 3 ≤ 9)) ?_
  show xBody ML_law 10 546 (LwV i) [.int (zI r)] ([zH s0 zL0 0, zH s1 zL1 0, zH s2' zL2 0, zH s3 zL3 0, zH s4 zL4 0, zH s5 zL5 0, zH s6 zL6 0, zH s7 zL7 0, zH s8 (zLb ks) 0, xr9 L xs]) _ _
  refine xB.run oL_law 1 (s := (547, LwV i, [.ref 7168, .int (zI r)], [zH s0 zL0 0, zH s1 zL1 0, zH s2' zL2 0, zH s3 zL3 0, zH s4 zL4 0, zH s5 zL5 0, zH s6 zL6 0, zH s7 zL7 0, zH s8 (zLb ks) 0, xr9 L xs])) (xNP_run hS7 1 rfl) ?_
  refine law_ld hL (k := 1) (by omega) hS7 (n4 := 551) (kk := 1) rfl rfl rfl (by decide) rfl ?_
  show xBody ML_law 10 552 (LwV i) [.int (zI (av xs i 1)), .ref 7168, .int (zI r)] ([zH s0 zL0 0, zH s1 zL1 0, zH s2' zL2 0, zH s3 zL3 0, zH s4 zL4 0, zH s5 zL5 0, zH s6 zL6 0, zH s7 zL7 0, zH s8 (zLb ks) 0, xr9 L xs]) _ _
  refine xB.call oL_law (M2 := MX12_bound) ((x1S hS7 (Nat.le_of_ble_eq_true rfl) _ _ _).trans rfl) rfl ((t_X12_bound (zH s0 zL0 0) (zH s1 zL1 0) (zH s2' zL2 0) (zH s3 zL3 0) (zH s4 zL4 0) (zH s5 zL5 0) (zH s6 zL6 0) s7 (zH s8 (zLb ks) 0) (xr9 L xs) (av xs i 1) e2).deep (by decide : 5 ≤ 9)) ?_
  show xBody ML_law 10 555 (LwV i) [.int (zI r), .int (zI r)] ([zH s0 zL0 0, zH s1 zL1 0, zH s2' zL2 0, zH s3 zL3 0, zH s4 zL4 0, zH s5 zL5 0, zH s6 zL6 0, zH s7' zL7 0, zH s8 (zLb ks) 0, xr9 L xs]) _ _
  exact xB.same oL_law ((x1S hS7 (Nat.le_of_ble_eq_true rfl) _ _ _).trans rfl) X
theorem l_joint {L : Nat} {xs : Nat → Int32} (hL : L ≤ 2560) {i : Nat} (hi : i + 5 ≤ L) {s0 s1 s2 s3 s4 s5 s6 s7 s8 : zZ} {ks : List Int} (Q : Rel s0 s1 s2 s3 s4 s5 s6 s7 s8 ks) (next : ∀ (s0 s1 s2 s3 s4 s5 s6 s7 s8 : zZ) (ks : List Int), Rel s0 s1 s2 s3 s4 s5 s6 s7 s8 ks → LwP L xs 1517 i s0 s1 s2 s3 s4 s5 s6 s7 s8 ks) : LwP L xs 560 i s0 s1 s2 s3 s4 s5 s6 s7 s8 ks := by
  obtain ⟨r, s3', s7', e1, e2, Q'⟩ := c_joint Q (av_zr xs i 1) (av_zr xs i 2) (bv_01 (av xs i 3))
  obtain ⟨hp', X, b1, b2⟩ := next s0 s1 s2 s3' s4 s5 s6 s7' s8 ks Q'
  refine ⟨hp', ?_, b1, b2⟩
  refine xB.run oL_law 1 (s := (561, LwV i, [.ref 0], [zH s0 zL0 0, zH s1 zL1 0, zH s2 zL2 0, zH s3 zL3 0, zH s4 zL4 0, zH s5 zL5 0, zH s6 zL6 0, zH s7 zL7 0, zH s8 (zLb ks) 0, xr9 L xs])) (xNP_run hS7 1 rfl) ?_
  refine law_ld hL (k := 1) (by omega) hS7 (n4 := 565) (kk := 1) rfl rfl rfl (by decide) rfl ?_
  show xBody ML_law 10 566 (LwV i) [.int (zI (av xs i 1)), .ref 0] ([zH s0 zL0 0, zH s1 zL1 0, zH s2 zL2 0, zH s3 zL3 0, zH s4 zL4 0, zH s5 zL5 0, zH s6 zL6 0, zH s7 zL7 0, zH s8 (zLb ks) 0, xr9 L xs]) _ _
  refine law_ld hL (k := 2) (by omega) hS7 (n4 := 570) (kk := 2) rfl rfl rfl (by decide) rfl ?_
  show xBody ML_law 10 571 (LwV i) [.int (zI (av xs i 2)), .int (zI (av xs i 1)), .ref 0] ([zH s0 zL0 0, zH s1 zL1 0, zH s2 zL2 0, zH s3 zL3 0, zH s4 zL4 0, zH s5 zL5 0, zH s6 zL6 0, zH s7 zL7 0, zH s8 (zLb ks) 0, xr9 L xs]) _ _
  refine law_ld hL (k := 3) (by omega) hS7 (n4 := 575) (kk := 3) rfl rfl rfl (by decide) rfl ?_
  show xBody ML_law 10 576 (LwV i) [.int (zI (av xs i 3)), .int (zI (av xs i 2)), .int (zI (av xs i 1)), .ref 0] ([zH s0 zL0 0, zH s1 zL1 0, zH s2 zL2 0, zH s3 zL3 0, zH s4 zL4 0, zH s5 zL5 0, zH s6 zL6 0, zH s7 zL7 0, zH s8 (zLb ks) 0, xr9 L xs]) _ _
  suffices K2 : xBody ML_law 10 584 (LwV i) [.int (zI (bv (av xs i 3))), .int (zI (av xs i 2)), .int (zI (av xs i 1)), .ref 0] ([zH s0 zL0 0, zH s1 zL1 0, zH s2 zL2 0, zH s3 zL3 0, zH s4 zL4 0, zH s5 zL5 0, zH s6 zL6 0, zH s7 zL7 0, zH s8 (zLb ks) 0, xr9 L xs]) (some (.int 1)) hp' by
    refine xB.brE oL_law (P := av xs i 3 = 0) ((x1S hS7 (Nat.le_of_ble_eq_true rfl) _ _ _).trans rfl) (zc_eq (b := 0) ⟨av_zr xs i 3, by decide⟩) (fun q => ?_) (fun q => ?_)
    · have e : bv (av xs i 3) = 0 := if_pos q
      rw [e] at K2
      refine xB.run oL_law 1 (s := (584, LwV i, .int 0 :: [.int (zI (av xs i 2)), .int (zI (av xs i 1)), .ref 0], [zH s0 zL0 0, zH s1 zL1 0, zH s2 zL2 0, zH s3 zL3 0, zH s4 zL4 0, zH s5 zL5 0, zH s6 zL6 0, zH s7 zL7 0, zH s8 (zLb ks) 0, xr9 L xs])) (xNP_run hS7 1 rfl) K2
    · have e : bv (av xs i 3) = 1 := if_neg q
      rw [e] at K2
      refine xB.run oL_law 2 (s := (584, LwV i, .int 1 :: [.int (zI (av xs i 2)), .int (zI (av xs i 1)), .ref 0], [zH s0 zL0 0, zH s1 zL1 0, zH s2 zL2 0, zH s3 zL3 0, zH s4 zL4 0, zH s5 zL5 0, zH s6 zL6 0, zH s7 zL7 0, zH s8 (zLb ks) 0, xr9 L xs])) (xNP_run hS7 2 rfl) K2
  refine xB.call oL_law (M2 := MX11_joint) ((x1S hS7 (Nat.le_of_ble_eq_true rfl) _ _ _).trans rfl) rfl ((t_X11_joint s0 (zH s1 zL1 0) (zH s2 zL2 0) s3 (zH s4 zL4 0) (zH s5 zL5 0) (zH s6 zL6 0) (zH s7 zL7 0) (zH s8 (zLb ks) 0) (xr9 L xs) (av xs i 1) (av xs i 2) (bv (av xs i 3)) e1).deep (by decide : 2 ≤ 9)) ?_
  show xBody ML_law 10 587 (LwV i) [.int (zI r)] ([zH s0 zL0 0, zH s1 zL1 0, zH s2 zL2 0, zH s3' zL3 0, zH s4 zL4 0, zH s5 zL5 0, zH s6 zL6 0, zH s7 zL7 0, zH s8 (zLb ks) 0, xr9 L xs]) _ _
  refine xB.run oL_law 1 (s := (588, LwV i, [.ref 7168, .int (zI r)], [zH s0 zL0 0, zH s1 zL1 0, zH s2 zL2 0, zH s3' zL3 0, zH s4 zL4 0, zH s5 zL5 0, zH s6 zL6 0, zH s7 zL7 0, zH s8 (zLb ks) 0, xr9 L xs])) (xNP_run hS7 1 rfl) ?_
  refine law_ld hL (k := 1) (by omega) hS7 (n4 := 592) (kk := 1) rfl rfl rfl (by decide) rfl ?_
  show xBody ML_law 10 593 (LwV i) [.int (zI (av xs i 1)), .ref 7168, .int (zI r)] ([zH s0 zL0 0, zH s1 zL1 0, zH s2 zL2 0, zH s3' zL3 0, zH s4 zL4 0, zH s5 zL5 0, zH s6 zL6 0, zH s7 zL7 0, zH s8 (zLb ks) 0, xr9 L xs]) _ _
  refine law_ld hL (k := 2) (by omega) hS7 (n4 := 597) (kk := 2) rfl rfl rfl (by decide) rfl ?_
  show xBody ML_law 10 598 (LwV i) [.int (zI (av xs i 2)), .int (zI (av xs i 1)), .ref 7168, .int (zI r)] ([zH s0 zL0 0, zH s1 zL1 0, zH s2 zL2 0, zH s3' zL3 0, zH s4 zL4 0, zH s5 zL5 0, zH s6 zL6 0, zH s7 zL7 0, zH s8 (zLb ks) 0, xr9 L xs]) _ _
  refine law_ld hL (k := 3) (by omega) hS7 (n4 := 602) (kk := 3) rfl rfl rfl (by decide) rfl ?_
  show xBody ML_law 10 603 (LwV i) [.int (zI (av xs i 3)), .int (zI (av xs i 2)), .int (zI (av xs i 1)), .ref 7168, .int (zI r)] ([zH s0 zL0 0, zH s1 zL1 0, zH s2 zL2 0, zH s3' zL3 0, zH s4 zL4 0, zH s5 zL5 0, zH s6 zL6 0, zH s7 zL7 0, zH s8 (zLb ks) 0, xr9 L xs]) _ _
  suffices K2 : xBody ML_law 10 611 (LwV i) [.int (zI (bv (av xs i 3))), .int (zI (av xs i 2)), .int (zI (av xs i 1)), .ref 7168, .int (zI r)] ([zH s0 zL0 0, zH s1 zL1 0, zH s2 zL2 0, zH s3' zL3 0, zH s4 zL4 0, zH s5 zL5 0, zH s6 zL6 0, zH s7 zL7 0, zH s8 (zLb ks) 0, xr9 L xs]) (some (.int 1)) hp' by
    refine xB.brE oL_law (P := av xs i 3 = 0) ((x1S hS7 (Nat.le_of_ble_eq_true rfl) _ _ _).trans rfl) (zc_eq (b := 0) ⟨av_zr xs i 3, by decide⟩) (fun q => ?_) (fun q => ?_)
    · have e : bv (av xs i 3) = 0 := if_pos q
      rw [e] at K2
      refine xB.run oL_law 1 (s := (611, LwV i, .int 0 :: [.int (zI (av xs i 2)), .int (zI (av xs i 1)), .ref 7168, .int (zI r)], [zH s0 zL0 0, zH s1 zL1 0, zH s2 zL2 0, zH s3' zL3 0, zH s4 zL4 0, zH s5 zL5 0, zH s6 zL6 0, zH s7 zL7 0, zH s8 (zLb ks) 0, xr9 L xs])) (xNP_run hS7 1 rfl) K2
    · have e : bv (av xs i 3) = 1 := if_neg q
      rw [e] at K2
      refine xB.run oL_law 2 (s := (611, LwV i, .int 1 :: [.int (zI (av xs i 2)), .int (zI (av xs i 1)), .ref 7168, .int (zI r)], [zH s0 zL0 0, zH s1 zL1 0, zH s2 zL2 0, zH s3' zL3 0, zH s4 zL4 0, zH s5 zL5 0, zH s6 zL6 0, zH s7 zL7 0, zH s8 (zLb ks) 0, xr9 L xs])) (xNP_run hS7 2 rfl) K2
  refine xB.call oL_law (M2 := MX12_joint) ((x1S hS7 (Nat.le_of_ble_eq_true rfl) _ _ _).trans rfl) rfl ((t_X12_joint (zH s0 zL0 0) (zH s1 zL1 0) (zH s2 zL2 0) (zH s3' zL3 0) (zH s4 zL4 0) (zH s5 zL5 0) (zH s6 zL6 0) s7 (zH s8 (zLb ks) 0) (xr9 L xs) (av xs i 1) (av xs i 2) (bv (av xs i 3)) e2).deep (by decide : 1 ≤ 9)) ?_
  show xBody ML_law 10 614 (LwV i) [.int (zI r), .int (zI r)] ([zH s0 zL0 0, zH s1 zL1 0, zH s2 zL2 0, zH s3' zL3 0, zH s4 zL4 0, zH s5 zL5 0, zH s6 zL6 0, zH s7' zL7 0, zH s8 (zLb ks) 0, xr9 L xs]) _ _
  exact xB.same oL_law ((x1S hS7 (Nat.le_of_ble_eq_true rfl) _ _ _).trans rfl) X
theorem l_bar {L : Nat} {xs : Nat → Int32} (hL : L ≤ 2560) {i : Nat} (hi : i + 5 ≤ L) {s0 s1 s2 s3 s4 s5 s6 s7 s8 : zZ} {ks : List Int} (Q : Rel s0 s1 s2 s3 s4 s5 s6 s7 s8 ks) (next : ∀ (s0 s1 s2 s3 s4 s5 s6 s7 s8 : zZ) (ks : List Int), Rel s0 s1 s2 s3 s4 s5 s6 s7 s8 ks → LwP L xs 1517 i s0 s1 s2 s3 s4 s5 s6 s7 s8 ks) : LwP L xs 619 i s0 s1 s2 s3 s4 s5 s6 s7 s8 ks := by
  obtain ⟨r, s3', s8', ks', s7', e1, e2, Q'⟩ := c_bar Q (av_zr xs i 1) (av_zr xs i 2) (av_zr xs i 3) (av_zr xs i 4)
  obtain ⟨hp', X, b1, b2⟩ := next s0 s1 s2 s3' s4 s5 s6 s7' s8' ks' Q'
  refine ⟨hp', ?_, b1, b2⟩
  refine xB.run oL_law 1 (s := (620, LwV i, [.ref 0], [zH s0 zL0 0, zH s1 zL1 0, zH s2 zL2 0, zH s3 zL3 0, zH s4 zL4 0, zH s5 zL5 0, zH s6 zL6 0, zH s7 zL7 0, zH s8 (zLb ks) 0, xr9 L xs])) (xNP_run hS8 1 rfl) ?_
  refine law_ld hL (k := 1) (by omega) hS8 (n4 := 624) (kk := 1) rfl rfl rfl (by decide) rfl ?_
  show xBody ML_law 10 625 (LwV i) [.int (zI (av xs i 1)), .ref 0] ([zH s0 zL0 0, zH s1 zL1 0, zH s2 zL2 0, zH s3 zL3 0, zH s4 zL4 0, zH s5 zL5 0, zH s6 zL6 0, zH s7 zL7 0, zH s8 (zLb ks) 0, xr9 L xs]) _ _
  refine law_ld hL (k := 2) (by omega) hS8 (n4 := 629) (kk := 2) rfl rfl rfl (by decide) rfl ?_
  show xBody ML_law 10 630 (LwV i) [.int (zI (av xs i 2)), .int (zI (av xs i 1)), .ref 0] ([zH s0 zL0 0, zH s1 zL1 0, zH s2 zL2 0, zH s3 zL3 0, zH s4 zL4 0, zH s5 zL5 0, zH s6 zL6 0, zH s7 zL7 0, zH s8 (zLb ks) 0, xr9 L xs]) _ _
  refine law_ld hL (k := 3) (by omega) hS8 (n4 := 634) (kk := 3) rfl rfl rfl (by decide) rfl ?_
  show xBody ML_law 10 635 (LwV i) [.int (zI (av xs i 3)), .int (zI (av xs i 2)), .int (zI (av xs i 1)), .ref 0] ([zH s0 zL0 0, zH s1 zL1 0, zH s2 zL2 0, zH s3 zL3 0, zH s4 zL4 0, zH s5 zL5 0, zH s6 zL6 0, zH s7 zL7 0, zH s8 (zLb ks) 0, xr9 L xs]) _ _
  refine law_ld hL (k := 4) (by omega) hS8 (n4 := 639) (kk := 4) rfl rfl rfl (by decide) rfl ?_
  show xBody ML_law 10 640 (LwV i) [.int (zI (av xs i 4)), .int (zI (av xs i 3)), .int (zI (av xs i 2)), .int (zI (av xs i 1)), .ref 0] ([zH s0 zL0 0, zH s1 zL1 0, zH s2 zL2 0, zH s3 zL3 0, zH s4 zL4 0, zH s5 zL5 0, zH s6 zL6 0, zH s7 zL7 0, zH s8 (zLb ks) 0, xr9 L xs]) _ _
  refine xB.call oL_law (M2 := MX11_bar) ((x1S hS8 (Nat.le_of_ble_eq_true rfl) _ _ _).trans rfl) rfl ((t_X11_bar s0 s1 s2 s3 s4 s5 s6 s7 s8 (xr9 L xs) ks (av xs i 1) (av xs i 2) (av xs i 3) (av xs i 4) e1).deep (by decide : 4 ≤ 9)) ?_
  show xBody ML_law 10 643 (LwV i) [.int (zI r)] ([zH s0 zL0 0, zH s1 zL1 0, zH s2 zL2 0, zH s3' zL3 0, zH s4 zL4 0, zH s5 zL5 0, zH s6 zL6 0, zH s7 zL7 0, zH s8' (zLb ks') 0, xr9 L xs]) _ _
  refine xB.run oL_law 1 (s := (644, LwV i, [.ref 7168, .int (zI r)], [zH s0 zL0 0, zH s1 zL1 0, zH s2 zL2 0, zH s3' zL3 0, zH s4 zL4 0, zH s5 zL5 0, zH s6 zL6 0, zH s7 zL7 0, zH s8' (zLb ks') 0, xr9 L xs])) (xNP_run hS8 1 rfl) ?_
  refine law_ld hL (k := 1) (by omega) hS8 (n4 := 648) (kk := 1) rfl rfl rfl (by decide) rfl ?_
  show xBody ML_law 10 649 (LwV i) [.int (zI (av xs i 1)), .ref 7168, .int (zI r)] ([zH s0 zL0 0, zH s1 zL1 0, zH s2 zL2 0, zH s3' zL3 0, zH s4 zL4 0, zH s5 zL5 0, zH s6 zL6 0, zH s7 zL7 0, zH s8' (zLb ks') 0, xr9 L xs]) _ _
  refine law_ld hL (k := 2) (by omega) hS8 (n4 := 653) (kk := 2) rfl rfl rfl (by decide) rfl ?_
  show xBody ML_law 10 654 (LwV i) [.int (zI (av xs i 2)), .int (zI (av xs i 1)), .ref 7168, .int (zI r)] ([zH s0 zL0 0, zH s1 zL1 0, zH s2 zL2 0, zH s3' zL3 0, zH s4 zL4 0, zH s5 zL5 0, zH s6 zL6 0, zH s7 zL7 0, zH s8' (zLb ks') 0, xr9 L xs]) _ _
  refine law_ld hL (k := 3) (by omega) hS8 (n4 := 658) (kk := 3) rfl rfl rfl (by decide) rfl ?_
  show xBody ML_law 10 659 (LwV i) [.int (zI (av xs i 3)), .int (zI (av xs i 2)), .int (zI (av xs i 1)), .ref 7168, .int (zI r)] ([zH s0 zL0 0, zH s1 zL1 0, zH s2 zL2 0, zH s3' zL3 0, zH s4 zL4 0, zH s5 zL5 0, zH s6 zL6 0, zH s7 zL7 0, zH s8' (zLb ks') 0, xr9 L xs]) _ _
  refine law_ld hL (k := 4) (by omega) hS8 (n4 := 663) (kk := 4) rfl rfl rfl (by decide) rfl ?_
  show xBody ML_law 10 664 (LwV i) [.int (zI (av xs i 4)), .int (zI (av xs i 3)), .int (zI (av xs i 2)), .int (zI (av xs i 1)), .ref 7168, .int (zI r)] ([zH s0 zL0 0, zH s1 zL1 0, zH s2 zL2 0, zH s3' zL3 0, zH s4 zL4 0, zH s5 zL5 0, zH s6 zL6 0, zH s7 zL7 0, zH s8' (zLb ks') 0, xr9 L xs]) _ _
  refine xB.call oL_law (M2 := MX12_bar) ((x1S hS8 (Nat.le_of_ble_eq_true rfl) _ _ _).trans rfl) rfl ((t_X12_bar (zH s0 zL0 0) (zH s1 zL1 0) (zH s2 zL2 0) (zH s3' zL3 0) (zH s4 zL4 0) (zH s5 zL5 0) (zH s6 zL6 0) s7 (zH s8' (zLb ks') 0) (xr9 L xs) (av xs i 1) (av xs i 2) (av xs i 3) (av xs i 4) e2).deep (by decide : 1 ≤ 9)) ?_
  show xBody ML_law 10 667 (LwV i) [.int (zI r), .int (zI r)] ([zH s0 zL0 0, zH s1 zL1 0, zH s2 zL2 0, zH s3' zL3 0, zH s4 zL4 0, zH s5 zL5 0, zH s6 zL6 0, zH s7' zL7 0, zH s8' (zLb ks') 0, xr9 L xs]) _ _
  exact xB.same oL_law ((x1S hS8 (Nat.le_of_ble_eq_true rfl) _ _ _).trans rfl) X
theorem l_cut {L : Nat} {xs : Nat → Int32} (hL : L ≤ 2560) {i : Nat} (hi : i + 5 ≤ L) {s0 s1 s2 s3 s4 s5 s6 s7 s8 : zZ} {ks : List Int} (Q : Rel s0 s1 s2 s3 s4 s5 s6 s7 s8 ks) (next : ∀ (s0 s1 s2 s3 s4 s5 s6 s7 s8 : zZ) (ks : List Int), Rel s0 s1 s2 s3 s4 s5 s6 s7 s8 ks → LwP L xs 1517 i s0 s1 s2 s3 s4 s5 s6 s7 s8 ks) : LwP L xs 672 i s0 s1 s2 s3 s4 s5 s6 s7 s8 ks := by
  obtain ⟨r, s3', s8', s7', e1, e2, Q'⟩ := c_cut Q (av_zr xs i 1) (bv_01 (av xs i 2))
  obtain ⟨hp', X, b1, b2⟩ := next s0 s1 s2 s3' s4 s5 s6 s7' s8' ks Q'
  refine ⟨hp', ?_, b1, b2⟩
  refine xB.run oL_law 1 (s := (673, LwV i, [.ref 0], [zH s0 zL0 0, zH s1 zL1 0, zH s2 zL2 0, zH s3 zL3 0, zH s4 zL4 0, zH s5 zL5 0, zH s6 zL6 0, zH s7 zL7 0, zH s8 (zLb ks) 0, xr9 L xs])) (xNP_run hS10 1 rfl) ?_
  refine law_ld hL (k := 1) (by omega) hS10 (n4 := 677) (kk := 1) rfl rfl rfl (by decide) rfl ?_
  show xBody ML_law 10 678 (LwV i) [.int (zI (av xs i 1)), .ref 0] ([zH s0 zL0 0, zH s1 zL1 0, zH s2 zL2 0, zH s3 zL3 0, zH s4 zL4 0, zH s5 zL5 0, zH s6 zL6 0, zH s7 zL7 0, zH s8 (zLb ks) 0, xr9 L xs]) _ _
  refine law_ld hL (k := 2) (by omega) hS10 (n4 := 682) (kk := 2) rfl rfl rfl (by decide) rfl ?_
  show xBody ML_law 10 683 (LwV i) [.int (zI (av xs i 2)), .int (zI (av xs i 1)), .ref 0] ([zH s0 zL0 0, zH s1 zL1 0, zH s2 zL2 0, zH s3 zL3 0, zH s4 zL4 0, zH s5 zL5 0, zH s6 zL6 0, zH s7 zL7 0, zH s8 (zLb ks) 0, xr9 L xs]) _ _
  suffices K2 : xBody ML_law 10 691 (LwV i) [.int (zI (bv (av xs i 2))), .int (zI (av xs i 1)), .ref 0] ([zH s0 zL0 0, zH s1 zL1 0, zH s2 zL2 0, zH s3 zL3 0, zH s4 zL4 0, zH s5 zL5 0, zH s6 zL6 0, zH s7 zL7 0, zH s8 (zLb ks) 0, xr9 L xs]) (some (.int 1)) hp' by
    refine xB.brE oL_law (P := av xs i 2 = 0) ((x1S hS10 (Nat.le_of_ble_eq_true rfl) _ _ _).trans rfl) (zc_eq (b := 0) ⟨av_zr xs i 2, by decide⟩) (fun q => ?_) (fun q => ?_)
    · have e : bv (av xs i 2) = 0 := if_pos q
      rw [e] at K2
      refine xB.run oL_law 1 (s := (691, LwV i, .int 0 :: [.int (zI (av xs i 1)), .ref 0], [zH s0 zL0 0, zH s1 zL1 0, zH s2 zL2 0, zH s3 zL3 0, zH s4 zL4 0, zH s5 zL5 0, zH s6 zL6 0, zH s7 zL7 0, zH s8 (zLb ks) 0, xr9 L xs])) (xNP_run hS10 1 rfl) K2
    · have e : bv (av xs i 2) = 1 := if_neg q
      rw [e] at K2
      refine xB.run oL_law 2 (s := (691, LwV i, .int 1 :: [.int (zI (av xs i 1)), .ref 0], [zH s0 zL0 0, zH s1 zL1 0, zH s2 zL2 0, zH s3 zL3 0, zH s4 zL4 0, zH s5 zL5 0, zH s6 zL6 0, zH s7 zL7 0, zH s8 (zLb ks) 0, xr9 L xs])) (xNP_run hS10 2 rfl) K2
  refine xB.call oL_law (M2 := MX11_cut) ((x1S hS10 (Nat.le_of_ble_eq_true rfl) _ _ _).trans rfl) rfl ((t_X11_cut s0 (zH s1 zL1 0) (zH s2 zL2 0) s3 (zH s4 zL4 0) (zH s5 zL5 0) (zH s6 zL6 0) (zH s7 zL7 0) s8 (xr9 L xs) ks (av xs i 1) (bv (av xs i 2)) e1).deep (by decide : 1 ≤ 9)) ?_
  show xBody ML_law 10 694 (LwV i) [.int (zI r)] ([zH s0 zL0 0, zH s1 zL1 0, zH s2 zL2 0, zH s3' zL3 0, zH s4 zL4 0, zH s5 zL5 0, zH s6 zL6 0, zH s7 zL7 0, zH s8' (zLb ks) 0, xr9 L xs]) _ _
  refine xB.run oL_law 1 (s := (695, LwV i, [.ref 7168, .int (zI r)], [zH s0 zL0 0, zH s1 zL1 0, zH s2 zL2 0, zH s3' zL3 0, zH s4 zL4 0, zH s5 zL5 0, zH s6 zL6 0, zH s7 zL7 0, zH s8' (zLb ks) 0, xr9 L xs])) (xNP_run hS10 1 rfl) ?_
  refine law_ld hL (k := 1) (by omega) hS10 (n4 := 699) (kk := 1) rfl rfl rfl (by decide) rfl ?_
  show xBody ML_law 10 700 (LwV i) [.int (zI (av xs i 1)), .ref 7168, .int (zI r)] ([zH s0 zL0 0, zH s1 zL1 0, zH s2 zL2 0, zH s3' zL3 0, zH s4 zL4 0, zH s5 zL5 0, zH s6 zL6 0, zH s7 zL7 0, zH s8' (zLb ks) 0, xr9 L xs]) _ _
  refine law_ld hL (k := 2) (by omega) hS10 (n4 := 704) (kk := 2) rfl rfl rfl (by decide) rfl ?_
  show xBody ML_law 10 705 (LwV i) [.int (zI (av xs i 2)), .int (zI (av xs i 1)), .ref 7168, .int (zI r)] ([zH s0 zL0 0, zH s1 zL1 0, zH s2 zL2 0, zH s3' zL3 0, zH s4 zL4 0, zH s5 zL5 0, zH s6 zL6 0, zH s7 zL7 0, zH s8' (zLb ks) 0, xr9 L xs]) _ _
  suffices K2 : xBody ML_law 10 713 (LwV i) [.int (zI (bv (av xs i 2))), .int (zI (av xs i 1)), .ref 7168, .int (zI r)] ([zH s0 zL0 0, zH s1 zL1 0, zH s2 zL2 0, zH s3' zL3 0, zH s4 zL4 0, zH s5 zL5 0, zH s6 zL6 0, zH s7 zL7 0, zH s8' (zLb ks) 0, xr9 L xs]) (some (.int 1)) hp' by
    refine xB.brE oL_law (P := av xs i 2 = 0) ((x1S hS10 (Nat.le_of_ble_eq_true rfl) _ _ _).trans rfl) (zc_eq (b := 0) ⟨av_zr xs i 2, by decide⟩) (fun q => ?_) (fun q => ?_)
    · have e : bv (av xs i 2) = 0 := if_pos q
      rw [e] at K2
      refine xB.run oL_law 1 (s := (713, LwV i, .int 0 :: [.int (zI (av xs i 1)), .ref 7168, .int (zI r)], [zH s0 zL0 0, zH s1 zL1 0, zH s2 zL2 0, zH s3' zL3 0, zH s4 zL4 0, zH s5 zL5 0, zH s6 zL6 0, zH s7 zL7 0, zH s8' (zLb ks) 0, xr9 L xs])) (xNP_run hS10 1 rfl) K2
    · have e : bv (av xs i 2) = 1 := if_neg q
      rw [e] at K2
      refine xB.run oL_law 2 (s := (713, LwV i, .int 1 :: [.int (zI (av xs i 1)), .ref 7168, .int (zI r)], [zH s0 zL0 0, zH s1 zL1 0, zH s2 zL2 0, zH s3' zL3 0, zH s4 zL4 0, zH s5 zL5 0, zH s6 zL6 0, zH s7 zL7 0, zH s8' (zLb ks) 0, xr9 L xs])) (xNP_run hS10 2 rfl) K2
  refine xB.call oL_law (M2 := MX12_cut) ((x1S hS10 (Nat.le_of_ble_eq_true rfl) _ _ _).trans rfl) rfl ((t_X12_cut (zH s0 zL0 0) (zH s1 zL1 0) (zH s2 zL2 0) (zH s3' zL3 0) (zH s4 zL4 0) (zH s5 zL5 0) (zH s6 zL6 0) s7 (zH s8' (zLb ks) 0) (xr9 L xs) (av xs i 1) (bv (av xs i 2)) e2).deep (by decide : 1 ≤ 9)) ?_
  show xBody ML_law 10 716 (LwV i) [.int (zI r), .int (zI r)] ([zH s0 zL0 0, zH s1 zL1 0, zH s2 zL2 0, zH s3' zL3 0, zH s4 zL4 0, zH s5 zL5 0, zH s6 zL6 0, zH s7' zL7 0, zH s8' (zLb ks) 0, xr9 L xs]) _ _
  exact xB.same oL_law ((x1S hS10 (Nat.le_of_ble_eq_true rfl) _ _ _).trans rfl) X
theorem l_about {L : Nat} {xs : Nat → Int32} (hL : L ≤ 2560) {i : Nat} (hi : i + 5 ≤ L) {s0 s1 s2 s3 s4 s5 s6 s7 s8 : zZ} {ks : List Int} (Q : Rel s0 s1 s2 s3 s4 s5 s6 s7 s8 ks) (next : ∀ (s0 s1 s2 s3 s4 s5 s6 s7 s8 : zZ) (ks : List Int), Rel s0 s1 s2 s3 s4 s5 s6 s7 s8 ks → LwP L xs 1517 i s0 s1 s2 s3 s4 s5 s6 s7 s8 ks) : LwP L xs 721 i s0 s1 s2 s3 s4 s5 s6 s7 s8 ks := by
  obtain ⟨r, e1, e2, Q'⟩ := c_about Q (av_zr xs i 1) (av_zr xs i 2)
  obtain ⟨hp', X, b1, b2⟩ := next s0 s1 s2 s3 s4 s5 s6 s7 s8 ks Q'
  refine ⟨hp', ?_, b1, b2⟩
  refine xB.run oL_law 1 (s := (722, LwV i, [.ref 0], [zH s0 zL0 0, zH s1 zL1 0, zH s2 zL2 0, zH s3 zL3 0, zH s4 zL4 0, zH s5 zL5 0, zH s6 zL6 0, zH s7 zL7 0, zH s8 (zLb ks) 0, xr9 L xs])) (xNP_run hS10 1 rfl) ?_
  refine law_ld hL (k := 1) (by omega) hS10 (n4 := 726) (kk := 1) rfl rfl rfl (by decide) rfl ?_
  show xBody ML_law 10 727 (LwV i) [.int (zI (av xs i 1)), .ref 0] ([zH s0 zL0 0, zH s1 zL1 0, zH s2 zL2 0, zH s3 zL3 0, zH s4 zL4 0, zH s5 zL5 0, zH s6 zL6 0, zH s7 zL7 0, zH s8 (zLb ks) 0, xr9 L xs]) _ _
  refine law_ld hL (k := 2) (by omega) hS10 (n4 := 731) (kk := 2) rfl rfl rfl (by decide) rfl ?_
  show xBody ML_law 10 732 (LwV i) [.int (zI (av xs i 2)), .int (zI (av xs i 1)), .ref 0] ([zH s0 zL0 0, zH s1 zL1 0, zH s2 zL2 0, zH s3 zL3 0, zH s4 zL4 0, zH s5 zL5 0, zH s6 zL6 0, zH s7 zL7 0, zH s8 (zLb ks) 0, xr9 L xs]) _ _
  refine xB.call oL_law (M2 := MX11_about) ((x1S hS10 (Nat.le_of_ble_eq_true rfl) _ _ _).trans rfl) rfl ((t_X11_about s0 (zH s1 zL1 0) (zH s2 zL2 0) s3 (zH s4 zL4 0) (zH s5 zL5 0) (zH s6 zL6 0) (zH s7 zL7 0) s8 (xr9 L xs) ks (av xs i 1) (av xs i 2) e1).deep (by decide : 1 ≤ 9)) ?_
  show xBody ML_law 10 735 (LwV i) [.int (zI r)] ([zH s0 zL0 0, zH s1 zL1 0, zH s2 zL2 0, zH s3 zL3 0, zH s4 zL4 0, zH s5 zL5 0, zH s6 zL6 0, zH s7 zL7 0, zH s8 (zLb ks) 0, xr9 L xs]) _ _
  refine xB.run oL_law 1 (s := (736, LwV i, [.ref 7168, .int (zI r)], [zH s0 zL0 0, zH s1 zL1 0, zH s2 zL2 0, zH s3 zL3 0, zH s4 zL4 0, zH s5 zL5 0, zH s6 zL6 0, zH s7 zL7 0, zH s8 (zLb ks) 0, xr9 L xs])) (xNP_run hS10 1 rfl) ?_
  refine law_ld hL (k := 1) (by omega) hS10 (n4 := 740) (kk := 1) rfl rfl rfl (by decide) rfl ?_
  show xBody ML_law 10 741 (LwV i) [.int (zI (av xs i 1)), .ref 7168, .int (zI r)] ([zH s0 zL0 0, zH s1 zL1 0, zH s2 zL2 0, zH s3 zL3 0, zH s4 zL4 0, zH s5 zL5 0, zH s6 zL6 0, zH s7 zL7 0, zH s8 (zLb ks) 0, xr9 L xs]) _ _
  refine law_ld hL (k := 2) (by omega) hS10 (n4 := 745) (kk := 2) rfl rfl rfl (by decide) rfl ?_
  show xBody ML_law 10 746 (LwV i) [.int (zI (av xs i 2)), .int (zI (av xs i 1)), .ref 7168, .int (zI r)] ([zH s0 zL0 0, zH s1 zL1 0, zH s2 zL2 0, zH s3 zL3 0, zH s4 zL4 0, zH s5 zL5 0, zH s6 zL6 0, zH s7 zL7 0, zH s8 (zLb ks) 0, xr9 L xs]) _ _
  refine xB.call oL_law (M2 := MX12_about) ((x1S hS10 (Nat.le_of_ble_eq_true rfl) _ _ _).trans rfl) rfl ((t_X12_about (zH s0 zL0 0) (zH s1 zL1 0) (zH s2 zL2 0) (zH s3 zL3 0) (zH s4 zL4 0) (zH s5 zL5 0) (zH s6 zL6 0) s7 (zH s8 (zLb ks) 0) (xr9 L xs) (av xs i 1) (av xs i 2) e2).deep (by decide : 1 ≤ 9)) ?_
  show xBody ML_law 10 749 (LwV i) [.int (zI r), .int (zI r)] ([zH s0 zL0 0, zH s1 zL1 0, zH s2 zL2 0, zH s3 zL3 0, zH s4 zL4 0, zH s5 zL5 0, zH s6 zL6 0, zH s7 zL7 0, zH s8 (zLb ks) 0, xr9 L xs]) _ _
  exact xB.same oL_law ((x1S hS10 (Nat.le_of_ble_eq_true rfl) _ _ _).trans rfl) X
theorem l_load {L : Nat} {xs : Nat → Int32} (hL : L ≤ 2560) {i : Nat} (hi : i + 5 ≤ L) {s0 s1 s2 s3 s4 s5 s6 s7 s8 : zZ} {ks : List Int} (Q : Rel s0 s1 s2 s3 s4 s5 s6 s7 s8 ks) (next : ∀ (s0 s1 s2 s3 s4 s5 s6 s7 s8 : zZ) (ks : List Int), Rel s0 s1 s2 s3 s4 s5 s6 s7 s8 ks → LwP L xs 1517 i s0 s1 s2 s3 s4 s5 s6 s7 s8 ks) : LwP L xs 754 i s0 s1 s2 s3 s4 s5 s6 s7 s8 ks := by
  obtain ⟨r, s3', s7', e1, e2, Q'⟩ := c_load Q (av_zr xs i 1) (av_zr xs i 2) (av_zr xs i 3) (av_zr xs i 4)
  obtain ⟨hp', X, b1, b2⟩ := next s0 s1 s2 s3' s4 s5 s6 s7' s8 ks Q'
  refine ⟨hp', ?_, b1, b2⟩
  refine xB.run oL_law 1 (s := (755, LwV i, [.ref 0], [zH s0 zL0 0, zH s1 zL1 0, zH s2 zL2 0, zH s3 zL3 0, zH s4 zL4 0, zH s5 zL5 0, zH s6 zL6 0, zH s7 zL7 0, zH s8 (zLb ks) 0, xr9 L xs])) (xNP_run hS11 1 rfl) ?_
  refine law_ld hL (k := 1) (by omega) hS11 (n4 := 759) (kk := 1) rfl rfl rfl (by decide) rfl ?_
  show xBody ML_law 10 760 (LwV i) [.int (zI (av xs i 1)), .ref 0] ([zH s0 zL0 0, zH s1 zL1 0, zH s2 zL2 0, zH s3 zL3 0, zH s4 zL4 0, zH s5 zL5 0, zH s6 zL6 0, zH s7 zL7 0, zH s8 (zLb ks) 0, xr9 L xs]) _ _
  refine law_ld hL (k := 2) (by omega) hS11 (n4 := 764) (kk := 2) rfl rfl rfl (by decide) rfl ?_
  show xBody ML_law 10 765 (LwV i) [.int (zI (av xs i 2)), .int (zI (av xs i 1)), .ref 0] ([zH s0 zL0 0, zH s1 zL1 0, zH s2 zL2 0, zH s3 zL3 0, zH s4 zL4 0, zH s5 zL5 0, zH s6 zL6 0, zH s7 zL7 0, zH s8 (zLb ks) 0, xr9 L xs]) _ _
  refine law_ld hL (k := 3) (by omega) hS11 (n4 := 769) (kk := 3) rfl rfl rfl (by decide) rfl ?_
  show xBody ML_law 10 770 (LwV i) [.int (zI (av xs i 3)), .int (zI (av xs i 2)), .int (zI (av xs i 1)), .ref 0] ([zH s0 zL0 0, zH s1 zL1 0, zH s2 zL2 0, zH s3 zL3 0, zH s4 zL4 0, zH s5 zL5 0, zH s6 zL6 0, zH s7 zL7 0, zH s8 (zLb ks) 0, xr9 L xs]) _ _
  refine law_ld hL (k := 4) (by omega) hS11 (n4 := 774) (kk := 4) rfl rfl rfl (by decide) rfl ?_
  show xBody ML_law 10 775 (LwV i) [.int (zI (av xs i 4)), .int (zI (av xs i 3)), .int (zI (av xs i 2)), .int (zI (av xs i 1)), .ref 0] ([zH s0 zL0 0, zH s1 zL1 0, zH s2 zL2 0, zH s3 zL3 0, zH s4 zL4 0, zH s5 zL5 0, zH s6 zL6 0, zH s7 zL7 0, zH s8 (zLb ks) 0, xr9 L xs]) _ _
  refine xB.call oL_law (M2 := MX11_load) ((x1S hS11 (Nat.le_of_ble_eq_true rfl) _ _ _).trans rfl) rfl ((t_X11_load s0 (zH s1 zL1 0) (zH s2 zL2 0) s3 (zH s4 zL4 0) (zH s5 zL5 0) (zH s6 zL6 0) (zH s7 zL7 0) (zH s8 (zLb ks) 0) (xr9 L xs) (av xs i 1) (av xs i 2) (av xs i 3) (av xs i 4) e1).deep (by decide : 3 ≤ 9)) ?_
  show xBody ML_law 10 778 (LwV i) [.int (zI r)] ([zH s0 zL0 0, zH s1 zL1 0, zH s2 zL2 0, zH s3' zL3 0, zH s4 zL4 0, zH s5 zL5 0, zH s6 zL6 0, zH s7 zL7 0, zH s8 (zLb ks) 0, xr9 L xs]) _ _
  refine xB.run oL_law 1 (s := (779, LwV i, [.ref 7168, .int (zI r)], [zH s0 zL0 0, zH s1 zL1 0, zH s2 zL2 0, zH s3' zL3 0, zH s4 zL4 0, zH s5 zL5 0, zH s6 zL6 0, zH s7 zL7 0, zH s8 (zLb ks) 0, xr9 L xs])) (xNP_run hS11 1 rfl) ?_
  refine law_ld hL (k := 1) (by omega) hS11 (n4 := 783) (kk := 1) rfl rfl rfl (by decide) rfl ?_
  show xBody ML_law 10 784 (LwV i) [.int (zI (av xs i 1)), .ref 7168, .int (zI r)] ([zH s0 zL0 0, zH s1 zL1 0, zH s2 zL2 0, zH s3' zL3 0, zH s4 zL4 0, zH s5 zL5 0, zH s6 zL6 0, zH s7 zL7 0, zH s8 (zLb ks) 0, xr9 L xs]) _ _
  refine law_ld hL (k := 2) (by omega) hS11 (n4 := 788) (kk := 2) rfl rfl rfl (by decide) rfl ?_
  show xBody ML_law 10 789 (LwV i) [.int (zI (av xs i 2)), .int (zI (av xs i 1)), .ref 7168, .int (zI r)] ([zH s0 zL0 0, zH s1 zL1 0, zH s2 zL2 0, zH s3' zL3 0, zH s4 zL4 0, zH s5 zL5 0, zH s6 zL6 0, zH s7 zL7 0, zH s8 (zLb ks) 0, xr9 L xs]) _ _
  refine law_ld hL (k := 3) (by omega) hS11 (n4 := 793) (kk := 3) rfl rfl rfl (by decide) rfl ?_
  show xBody ML_law 10 794 (LwV i) [.int (zI (av xs i 3)), .int (zI (av xs i 2)), .int (zI (av xs i 1)), .ref 7168, .int (zI r)] ([zH s0 zL0 0, zH s1 zL1 0, zH s2 zL2 0, zH s3' zL3 0, zH s4 zL4 0, zH s5 zL5 0, zH s6 zL6 0, zH s7 zL7 0, zH s8 (zLb ks) 0, xr9 L xs]) _ _
  refine law_ld hL (k := 4) (by omega) hS11 (n4 := 798) (kk := 4) rfl rfl rfl (by decide) rfl ?_
  show xBody ML_law 10 799 (LwV i) [.int (zI (av xs i 4)), .int (zI (av xs i 3)), .int (zI (av xs i 2)), .int (zI (av xs i 1)), .ref 7168, .int (zI r)] ([zH s0 zL0 0, zH s1 zL1 0, zH s2 zL2 0, zH s3' zL3 0, zH s4 zL4 0, zH s5 zL5 0, zH s6 zL6 0, zH s7 zL7 0, zH s8 (zLb ks) 0, xr9 L xs]) _ _
  refine xB.call oL_law (M2 := MX12_load) ((x1S hS11 (Nat.le_of_ble_eq_true rfl) _ _ _).trans rfl) rfl ((t_X12_load (zH s0 zL0 0) (zH s1 zL1 0) (zH s2 zL2 0) (zH s3' zL3 0) (zH s4 zL4 0) (zH s5 zL5 0) (zH s6 zL6 0) s7 (zH s8 (zLb ks) 0) (xr9 L xs) (av xs i 1) (av xs i 2) (av xs i 3) (av xs i 4) e2).deep (by decide : 2 ≤ 9)) ?_
  show xBody ML_law 10 802 (LwV i) [.int (zI r), .int (zI r)] ([zH s0 zL0 0, zH s1 zL1 0, zH s2 zL2 0, zH s3' zL3 0, zH s4 zL4 0, zH s5 zL5 0, zH s6 zL6 0, zH s7' zL7 0, zH s8 (zLb ks) 0, xr9 L xs]) _ _
  exact xB.same oL_law ((x1S hS11 (Nat.le_of_ble_eq_true rfl) _ _ _).trans rfl) X
theorem l_net {L : Nat} {xs : Nat → Int32} (hL : L ≤ 2560) {i : Nat} (hi : i + 5 ≤ L) {s0 s1 s2 s3 s4 s5 s6 s7 s8 : zZ} {ks : List Int} (Q : Rel s0 s1 s2 s3 s4 s5 s6 s7 s8 ks) (next : ∀ (s0 s1 s2 s3 s4 s5 s6 s7 s8 : zZ) (ks : List Int), Rel s0 s1 s2 s3 s4 s5 s6 s7 s8 ks → LwP L xs 1517 i s0 s1 s2 s3 s4 s5 s6 s7 s8 ks) : LwP L xs 807 i s0 s1 s2 s3 s4 s5 s6 s7 s8 ks := by
  obtain ⟨r, s3', s8', s7', e1, e2, Q'⟩ := c_net Q (av_zr xs i 1)
  obtain ⟨hp', X, b1, b2⟩ := next s0 s1 s2 s3' s4 s5 s6 s7' s8' ks Q'
  refine ⟨hp', ?_, b1, b2⟩
  refine xB.run oL_law 1 (s := (808, LwV i, [.ref 0], [zH s0 zL0 0, zH s1 zL1 0, zH s2 zL2 0, zH s3 zL3 0, zH s4 zL4 0, zH s5 zL5 0, zH s6 zL6 0, zH s7 zL7 0, zH s8 (zLb ks) 0, xr9 L xs])) (xNP_run hS12 1 rfl) ?_
  refine law_ld hL (k := 1) (by omega) hS12 (n4 := 812) (kk := 1) rfl rfl rfl (by decide) rfl ?_
  show xBody ML_law 10 813 (LwV i) [.int (zI (av xs i 1)), .ref 0] ([zH s0 zL0 0, zH s1 zL1 0, zH s2 zL2 0, zH s3 zL3 0, zH s4 zL4 0, zH s5 zL5 0, zH s6 zL6 0, zH s7 zL7 0, zH s8 (zLb ks) 0, xr9 L xs]) _ _
  refine xB.call oL_law (M2 := MX11_net) ((x1S hS12 (Nat.le_of_ble_eq_true rfl) _ _ _).trans rfl) rfl ((t_X11_net s0 (zH s1 zL1 0) (zH s2 zL2 0) s3 (zH s4 zL4 0) (zH s5 zL5 0) (zH s6 zL6 0) (zH s7 zL7 0) s8 (xr9 L xs) ks (av xs i 1) e1).deep (by decide : 5 ≤ 9)) ?_
  show xBody ML_law 10 816 (LwV i) [.int (zI r)] ([zH s0 zL0 0, zH s1 zL1 0, zH s2 zL2 0, zH s3' zL3 0, zH s4 zL4 0, zH s5 zL5 0, zH s6 zL6 0, zH s7 zL7 0, zH s8' (zLb ks) 0, xr9 L xs]) _ _
  refine xB.run oL_law 1 (s := (817, LwV i, [.ref 7168, .int (zI r)], [zH s0 zL0 0, zH s1 zL1 0, zH s2 zL2 0, zH s3' zL3 0, zH s4 zL4 0, zH s5 zL5 0, zH s6 zL6 0, zH s7 zL7 0, zH s8' (zLb ks) 0, xr9 L xs])) (xNP_run hS12 1 rfl) ?_
  refine law_ld hL (k := 1) (by omega) hS12 (n4 := 821) (kk := 1) rfl rfl rfl (by decide) rfl ?_
  show xBody ML_law 10 822 (LwV i) [.int (zI (av xs i 1)), .ref 7168, .int (zI r)] ([zH s0 zL0 0, zH s1 zL1 0, zH s2 zL2 0, zH s3' zL3 0, zH s4 zL4 0, zH s5 zL5 0, zH s6 zL6 0, zH s7 zL7 0, zH s8' (zLb ks) 0, xr9 L xs]) _ _
  refine xB.call oL_law (M2 := MX12_net) ((x1S hS12 (Nat.le_of_ble_eq_true rfl) _ _ _).trans rfl) rfl ((t_X12_net (zH s0 zL0 0) (zH s1 zL1 0) (zH s2 zL2 0) (zH s3' zL3 0) (zH s4 zL4 0) (zH s5 zL5 0) (zH s6 zL6 0) s7 (zH s8' (zLb ks) 0) (xr9 L xs) (av xs i 1) e2).deep (by decide : 5 ≤ 9)) ?_
  show xBody ML_law 10 825 (LwV i) [.int (zI r), .int (zI r)] ([zH s0 zL0 0, zH s1 zL1 0, zH s2 zL2 0, zH s3' zL3 0, zH s4 zL4 0, zH s5 zL5 0, zH s6 zL6 0, zH s7' zL7 0, zH s8' (zLb ks) 0, xr9 L xs]) _ _
  exact xB.same oL_law ((x1S hS12 (Nat.le_of_ble_eq_true rfl) _ _ _).trans rfl) X
theorem l_move {L : Nat} {xs : Nat → Int32} (hL : L ≤ 2560) {i : Nat} (hi : i + 5 ≤ L) {s0 s1 s2 s3 s4 s5 s6 s7 s8 : zZ} {ks : List Int} (Q : Rel s0 s1 s2 s3 s4 s5 s6 s7 s8 ks) (next : ∀ (s0 s1 s2 s3 s4 s5 s6 s7 s8 : zZ) (ks : List Int), Rel s0 s1 s2 s3 s4 s5 s6 s7 s8 ks → LwP L xs 1517 i s0 s1 s2 s3 s4 s5 s6 s7 s8 ks) : LwP L xs 830 i s0 s1 s2 s3 s4 s5 s6 s7 s8 ks := by
  obtain ⟨r, s3', s8', s7', e1, e2, Q'⟩ := c_move Q (av_zr xs i 1) (av_zr xs i 2)
  obtain ⟨hp', X, b1, b2⟩ := next s0 s1 s2 s3' s4 s5 s6 s7' s8' ks Q'
  refine ⟨hp', ?_, b1, b2⟩
  refine xB.run oL_law 1 (s := (831, LwV i, [.ref 0], [zH s0 zL0 0, zH s1 zL1 0, zH s2 zL2 0, zH s3 zL3 0, zH s4 zL4 0, zH s5 zL5 0, zH s6 zL6 0, zH s7 zL7 0, zH s8 (zLb ks) 0, xr9 L xs])) (xNP_run hS13 1 rfl) ?_
  refine law_ld hL (k := 1) (by omega) hS13 (n4 := 835) (kk := 1) rfl rfl rfl (by decide) rfl ?_
  show xBody ML_law 10 836 (LwV i) [.int (zI (av xs i 1)), .ref 0] ([zH s0 zL0 0, zH s1 zL1 0, zH s2 zL2 0, zH s3 zL3 0, zH s4 zL4 0, zH s5 zL5 0, zH s6 zL6 0, zH s7 zL7 0, zH s8 (zLb ks) 0, xr9 L xs]) _ _
  refine law_ld hL (k := 2) (by omega) hS13 (n4 := 840) (kk := 2) rfl rfl rfl (by decide) rfl ?_
  show xBody ML_law 10 841 (LwV i) [.int (zI (av xs i 2)), .int (zI (av xs i 1)), .ref 0] ([zH s0 zL0 0, zH s1 zL1 0, zH s2 zL2 0, zH s3 zL3 0, zH s4 zL4 0, zH s5 zL5 0, zH s6 zL6 0, zH s7 zL7 0, zH s8 (zLb ks) 0, xr9 L xs]) _ _
  refine xB.call oL_law (M2 := MX11_move) ((x1S hS13 (Nat.le_of_ble_eq_true rfl) _ _ _).trans rfl) rfl ((t_X11_move s0 (zH s1 zL1 0) (zH s2 zL2 0) s3 (zH s4 zL4 0) (zH s5 zL5 0) (zH s6 zL6 0) (zH s7 zL7 0) s8 (xr9 L xs) ks (av xs i 1) (av xs i 2) e1).deep (by decide : 5 ≤ 9)) ?_
  show xBody ML_law 10 844 (LwV i) [.long (zJ r)] ([zH s0 zL0 0, zH s1 zL1 0, zH s2 zL2 0, zH s3' zL3 0, zH s4 zL4 0, zH s5 zL5 0, zH s6 zL6 0, zH s7 zL7 0, zH s8' (zLb ks) 0, xr9 L xs]) _ _
  refine xB.run oL_law 1 (s := (845, LwV i, [.ref 7168, .long (zJ r)], [zH s0 zL0 0, zH s1 zL1 0, zH s2 zL2 0, zH s3' zL3 0, zH s4 zL4 0, zH s5 zL5 0, zH s6 zL6 0, zH s7 zL7 0, zH s8' (zLb ks) 0, xr9 L xs])) (xNP_run hS13 1 rfl) ?_
  refine law_ld hL (k := 1) (by omega) hS13 (n4 := 849) (kk := 1) rfl rfl rfl (by decide) rfl ?_
  show xBody ML_law 10 850 (LwV i) [.int (zI (av xs i 1)), .ref 7168, .long (zJ r)] ([zH s0 zL0 0, zH s1 zL1 0, zH s2 zL2 0, zH s3' zL3 0, zH s4 zL4 0, zH s5 zL5 0, zH s6 zL6 0, zH s7 zL7 0, zH s8' (zLb ks) 0, xr9 L xs]) _ _
  refine law_ld hL (k := 2) (by omega) hS13 (n4 := 854) (kk := 2) rfl rfl rfl (by decide) rfl ?_
  show xBody ML_law 10 855 (LwV i) [.int (zI (av xs i 2)), .int (zI (av xs i 1)), .ref 7168, .long (zJ r)] ([zH s0 zL0 0, zH s1 zL1 0, zH s2 zL2 0, zH s3' zL3 0, zH s4 zL4 0, zH s5 zL5 0, zH s6 zL6 0, zH s7 zL7 0, zH s8' (zLb ks) 0, xr9 L xs]) _ _
  refine xB.call oL_law (M2 := MX12_move) ((x1S hS13 (Nat.le_of_ble_eq_true rfl) _ _ _).trans rfl) rfl ((t_X12_move (zH s0 zL0 0) (zH s1 zL1 0) (zH s2 zL2 0) (zH s3' zL3 0) (zH s4 zL4 0) (zH s5 zL5 0) (zH s6 zL6 0) s7 (zH s8' (zLb ks) 0) (xr9 L xs) (av xs i 1) (av xs i 2) e2).deep (by decide : 6 ≤ 9)) ?_
  show xBody ML_law 10 858 (LwV i) [.long (zJ r), .long (zJ r)] ([zH s0 zL0 0, zH s1 zL1 0, zH s2 zL2 0, zH s3' zL3 0, zH s4 zL4 0, zH s5 zL5 0, zH s6 zL6 0, zH s7' zL7 0, zH s8' (zLb ks) 0, xr9 L xs]) _ _
  refine xB.run oL_law 1 (s := (859, LwV i, [.int (lg_cmp (zJ r) (zJ r))], [zH s0 zL0 0, zH s1 zL1 0, zH s2 zL2 0, zH s3' zL3 0, zH s4 zL4 0, zH s5 zL5 0, zH s6 zL6 0, zH s7' zL7 0, zH s8' (zLb ks) 0, xr9 L xs])) (xNP_run hS13 1 rfl) ?_
  exact xB.sameL oL_law ((x1S hS13 (Nat.le_of_ble_eq_true rfl) _ _ _).trans rfl) X
theorem l_stands {L : Nat} {xs : Nat → Int32} (hL : L ≤ 2560) {i : Nat} (hi : i + 5 ≤ L) {s0 s1 s2 s3 s4 s5 s6 s7 s8 : zZ} {ks : List Int} (Q : Rel s0 s1 s2 s3 s4 s5 s6 s7 s8 ks) (next : ∀ (s0 s1 s2 s3 s4 s5 s6 s7 s8 : zZ) (ks : List Int), Rel s0 s1 s2 s3 s4 s5 s6 s7 s8 ks → LwP L xs 1517 i s0 s1 s2 s3 s4 s5 s6 s7 s8 ks) : LwP L xs 864 i s0 s1 s2 s3 s4 s5 s6 s7 s8 ks := by
  obtain ⟨r, s3', s8', s7', e1, e2, Q'⟩ := c_stands Q (av_zr xs i 1)
  obtain ⟨hp', X, b1, b2⟩ := next s0 s1 s2 s3' s4 s5 s6 s7' s8' ks Q'
  refine ⟨hp', ?_, b1, b2⟩
  refine xB.run oL_law 1 (s := (865, LwV i, [.ref 0], [zH s0 zL0 0, zH s1 zL1 0, zH s2 zL2 0, zH s3 zL3 0, zH s4 zL4 0, zH s5 zL5 0, zH s6 zL6 0, zH s7 zL7 0, zH s8 (zLb ks) 0, xr9 L xs])) (xNP_run hS13 1 rfl) ?_
  refine law_ld hL (k := 1) (by omega) hS13 (n4 := 869) (kk := 1) rfl rfl rfl (by decide) rfl ?_
  show xBody ML_law 10 870 (LwV i) [.int (zI (av xs i 1)), .ref 0] ([zH s0 zL0 0, zH s1 zL1 0, zH s2 zL2 0, zH s3 zL3 0, zH s4 zL4 0, zH s5 zL5 0, zH s6 zL6 0, zH s7 zL7 0, zH s8 (zLb ks) 0, xr9 L xs]) _ _
  refine xB.call oL_law (M2 := MX11_stands) ((x1S hS13 (Nat.le_of_ble_eq_true rfl) _ _ _).trans rfl) rfl ((t_X11_stands s0 (zH s1 zL1 0) (zH s2 zL2 0) s3 (zH s4 zL4 0) (zH s5 zL5 0) (zH s6 zL6 0) (zH s7 zL7 0) s8 (xr9 L xs) ks (av xs i 1) e1).deep (by decide : 5 ≤ 9)) ?_
  show xBody ML_law 10 873 (LwV i) [.int (zI r)] ([zH s0 zL0 0, zH s1 zL1 0, zH s2 zL2 0, zH s3' zL3 0, zH s4 zL4 0, zH s5 zL5 0, zH s6 zL6 0, zH s7 zL7 0, zH s8' (zLb ks) 0, xr9 L xs]) _ _
  refine xB.run oL_law 1 (s := (874, LwV i, [.ref 7168, .int (zI r)], [zH s0 zL0 0, zH s1 zL1 0, zH s2 zL2 0, zH s3' zL3 0, zH s4 zL4 0, zH s5 zL5 0, zH s6 zL6 0, zH s7 zL7 0, zH s8' (zLb ks) 0, xr9 L xs])) (xNP_run hS13 1 rfl) ?_
  refine law_ld hL (k := 1) (by omega) hS13 (n4 := 878) (kk := 1) rfl rfl rfl (by decide) rfl ?_
  show xBody ML_law 10 879 (LwV i) [.int (zI (av xs i 1)), .ref 7168, .int (zI r)] ([zH s0 zL0 0, zH s1 zL1 0, zH s2 zL2 0, zH s3' zL3 0, zH s4 zL4 0, zH s5 zL5 0, zH s6 zL6 0, zH s7 zL7 0, zH s8' (zLb ks) 0, xr9 L xs]) _ _
  refine xB.call oL_law (M2 := MX12_stands) ((x1S hS13 (Nat.le_of_ble_eq_true rfl) _ _ _).trans rfl) rfl ((t_X12_stands (zH s0 zL0 0) (zH s1 zL1 0) (zH s2 zL2 0) (zH s3' zL3 0) (zH s4 zL4 0) (zH s5 zL5 0) (zH s6 zL6 0) s7 (zH s8' (zLb ks) 0) (xr9 L xs) (av xs i 1) e2).deep (by decide : 5 ≤ 9)) ?_
  show xBody ML_law 10 882 (LwV i) [.int (zI r), .int (zI r)] ([zH s0 zL0 0, zH s1 zL1 0, zH s2 zL2 0, zH s3' zL3 0, zH s4 zL4 0, zH s5 zL5 0, zH s6 zL6 0, zH s7' zL7 0, zH s8' (zLb ks) 0, xr9 L xs]) _ _
  exact xB.same oL_law ((x1S hS13 (Nat.le_of_ble_eq_true rfl) _ _ _).trans rfl) X
theorem l_push {L : Nat} {xs : Nat → Int32} (hL : L ≤ 2560) {i : Nat} (hi : i + 5 ≤ L) {s0 s1 s2 s3 s4 s5 s6 s7 s8 : zZ} {ks : List Int} (Q : Rel s0 s1 s2 s3 s4 s5 s6 s7 s8 ks) (next : ∀ (s0 s1 s2 s3 s4 s5 s6 s7 s8 : zZ) (ks : List Int), Rel s0 s1 s2 s3 s4 s5 s6 s7 s8 ks → LwP L xs 1517 i s0 s1 s2 s3 s4 s5 s6 s7 s8 ks) : LwP L xs 887 i s0 s1 s2 s3 s4 s5 s6 s7 s8 ks := by
  obtain ⟨r, s3', s8', s7', e1, e2, Q'⟩ := c_push Q (av_zr xs i 1) (av_zr xs i 2) (av_zr xs i 3)
  obtain ⟨hp', X, b1, b2⟩ := next s0 s1 s2 s3' s4 s5 s6 s7' s8' ks Q'
  refine ⟨hp', ?_, b1, b2⟩
  refine xB.run oL_law 1 (s := (888, LwV i, [.ref 0], [zH s0 zL0 0, zH s1 zL1 0, zH s2 zL2 0, zH s3 zL3 0, zH s4 zL4 0, zH s5 zL5 0, zH s6 zL6 0, zH s7 zL7 0, zH s8 (zLb ks) 0, xr9 L xs])) (xNP_run hS14 1 rfl) ?_
  refine law_ld hL (k := 1) (by omega) hS14 (n4 := 892) (kk := 1) rfl rfl rfl (by decide) rfl ?_
  show xBody ML_law 10 893 (LwV i) [.int (zI (av xs i 1)), .ref 0] ([zH s0 zL0 0, zH s1 zL1 0, zH s2 zL2 0, zH s3 zL3 0, zH s4 zL4 0, zH s5 zL5 0, zH s6 zL6 0, zH s7 zL7 0, zH s8 (zLb ks) 0, xr9 L xs]) _ _
  refine law_ld hL (k := 2) (by omega) hS14 (n4 := 897) (kk := 2) rfl rfl rfl (by decide) rfl ?_
  show xBody ML_law 10 898 (LwV i) [.int (zI (av xs i 2)), .int (zI (av xs i 1)), .ref 0] ([zH s0 zL0 0, zH s1 zL1 0, zH s2 zL2 0, zH s3 zL3 0, zH s4 zL4 0, zH s5 zL5 0, zH s6 zL6 0, zH s7 zL7 0, zH s8 (zLb ks) 0, xr9 L xs]) _ _
  refine law_ld hL (k := 3) (by omega) hS14 (n4 := 902) (kk := 3) rfl rfl rfl (by decide) rfl ?_
  show xBody ML_law 10 903 (LwV i) [.int (zI (av xs i 3)), .int (zI (av xs i 2)), .int (zI (av xs i 1)), .ref 0] ([zH s0 zL0 0, zH s1 zL1 0, zH s2 zL2 0, zH s3 zL3 0, zH s4 zL4 0, zH s5 zL5 0, zH s6 zL6 0, zH s7 zL7 0, zH s8 (zLb ks) 0, xr9 L xs]) _ _
  refine xB.call oL_law (M2 := MX11_push) ((x1S hS14 (Nat.le_of_ble_eq_true rfl) _ _ _).trans rfl) rfl ((t_X11_push s0 (zH s1 zL1 0) (zH s2 zL2 0) s3 (zH s4 zL4 0) (zH s5 zL5 0) (zH s6 zL6 0) (zH s7 zL7 0) s8 (xr9 L xs) ks (av xs i 1) (av xs i 2) (av xs i 3) e1).deep (by decide : 5 ≤ 9)) ?_
  show xBody ML_law 10 906 (LwV i) [.long (zJ r)] ([zH s0 zL0 0, zH s1 zL1 0, zH s2 zL2 0, zH s3' zL3 0, zH s4 zL4 0, zH s5 zL5 0, zH s6 zL6 0, zH s7 zL7 0, zH s8' (zLb ks) 0, xr9 L xs]) _ _
  refine xB.run oL_law 1 (s := (907, LwV i, [.ref 7168, .long (zJ r)], [zH s0 zL0 0, zH s1 zL1 0, zH s2 zL2 0, zH s3' zL3 0, zH s4 zL4 0, zH s5 zL5 0, zH s6 zL6 0, zH s7 zL7 0, zH s8' (zLb ks) 0, xr9 L xs])) (xNP_run hS14 1 rfl) ?_
  refine law_ld hL (k := 1) (by omega) hS14 (n4 := 911) (kk := 1) rfl rfl rfl (by decide) rfl ?_
  show xBody ML_law 10 912 (LwV i) [.int (zI (av xs i 1)), .ref 7168, .long (zJ r)] ([zH s0 zL0 0, zH s1 zL1 0, zH s2 zL2 0, zH s3' zL3 0, zH s4 zL4 0, zH s5 zL5 0, zH s6 zL6 0, zH s7 zL7 0, zH s8' (zLb ks) 0, xr9 L xs]) _ _
  refine law_ld hL (k := 2) (by omega) hS14 (n4 := 916) (kk := 2) rfl rfl rfl (by decide) rfl ?_
  show xBody ML_law 10 917 (LwV i) [.int (zI (av xs i 2)), .int (zI (av xs i 1)), .ref 7168, .long (zJ r)] ([zH s0 zL0 0, zH s1 zL1 0, zH s2 zL2 0, zH s3' zL3 0, zH s4 zL4 0, zH s5 zL5 0, zH s6 zL6 0, zH s7 zL7 0, zH s8' (zLb ks) 0, xr9 L xs]) _ _
  refine law_ld hL (k := 3) (by omega) hS14 (n4 := 921) (kk := 3) rfl rfl rfl (by decide) rfl ?_
  show xBody ML_law 10 922 (LwV i) [.int (zI (av xs i 3)), .int (zI (av xs i 2)), .int (zI (av xs i 1)), .ref 7168, .long (zJ r)] ([zH s0 zL0 0, zH s1 zL1 0, zH s2 zL2 0, zH s3' zL3 0, zH s4 zL4 0, zH s5 zL5 0, zH s6 zL6 0, zH s7 zL7 0, zH s8' (zLb ks) 0, xr9 L xs]) _ _
  refine xB.call oL_law (M2 := MX12_push) ((x1S hS14 (Nat.le_of_ble_eq_true rfl) _ _ _).trans rfl) rfl ((t_X12_push (zH s0 zL0 0) (zH s1 zL1 0) (zH s2 zL2 0) (zH s3' zL3 0) (zH s4 zL4 0) (zH s5 zL5 0) (zH s6 zL6 0) s7 (zH s8' (zLb ks) 0) (xr9 L xs) (av xs i 1) (av xs i 2) (av xs i 3) e2).deep (by decide : 6 ≤ 9)) ?_
  show xBody ML_law 10 925 (LwV i) [.long (zJ r), .long (zJ r)] ([zH s0 zL0 0, zH s1 zL1 0, zH s2 zL2 0, zH s3' zL3 0, zH s4 zL4 0, zH s5 zL5 0, zH s6 zL6 0, zH s7' zL7 0, zH s8' (zLb ks) 0, xr9 L xs]) _ _
  refine xB.run oL_law 1 (s := (926, LwV i, [.int (lg_cmp (zJ r) (zJ r))], [zH s0 zL0 0, zH s1 zL1 0, zH s2 zL2 0, zH s3' zL3 0, zH s4 zL4 0, zH s5 zL5 0, zH s6 zL6 0, zH s7' zL7 0, zH s8' (zLb ks) 0, xr9 L xs])) (xNP_run hS14 1 rfl) ?_
  exact xB.sameL oL_law ((x1S hS14 (Nat.le_of_ble_eq_true rfl) _ _ _).trans rfl) X
theorem l_limit {L : Nat} {xs : Nat → Int32} (hL : L ≤ 2560) {i : Nat} (hi : i + 5 ≤ L) {s0 s1 s2 s3 s4 s5 s6 s7 s8 : zZ} {ks : List Int} (Q : Rel s0 s1 s2 s3 s4 s5 s6 s7 s8 ks) (next : ∀ (s0 s1 s2 s3 s4 s5 s6 s7 s8 : zZ) (ks : List Int), Rel s0 s1 s2 s3 s4 s5 s6 s7 s8 ks → LwP L xs 1517 i s0 s1 s2 s3 s4 s5 s6 s7 s8 ks) : LwP L xs 931 i s0 s1 s2 s3 s4 s5 s6 s7 s8 ks := by
  obtain ⟨r, s3', s8', s7', e1, e2, Q'⟩ := c_limit Q (av_zr xs i 1) (av_zr xs i 2)
  obtain ⟨hp', X, b1, b2⟩ := next s0 s1 s2 s3' s4 s5 s6 s7' s8' ks Q'
  refine ⟨hp', ?_, b1, b2⟩
  refine xB.run oL_law 1 (s := (932, LwV i, [.ref 0], [zH s0 zL0 0, zH s1 zL1 0, zH s2 zL2 0, zH s3 zL3 0, zH s4 zL4 0, zH s5 zL5 0, zH s6 zL6 0, zH s7 zL7 0, zH s8 (zLb ks) 0, xr9 L xs])) (xNP_run hS15 1 rfl) ?_
  refine law_ld hL (k := 1) (by omega) hS15 (n4 := 936) (kk := 1) rfl rfl rfl (by decide) rfl ?_
  show xBody ML_law 10 937 (LwV i) [.int (zI (av xs i 1)), .ref 0] ([zH s0 zL0 0, zH s1 zL1 0, zH s2 zL2 0, zH s3 zL3 0, zH s4 zL4 0, zH s5 zL5 0, zH s6 zL6 0, zH s7 zL7 0, zH s8 (zLb ks) 0, xr9 L xs]) _ _
  refine law_ld hL (k := 2) (by omega) hS15 (n4 := 941) (kk := 2) rfl rfl rfl (by decide) rfl ?_
  show xBody ML_law 10 942 (LwV i) [.int (zI (av xs i 2)), .int (zI (av xs i 1)), .ref 0] ([zH s0 zL0 0, zH s1 zL1 0, zH s2 zL2 0, zH s3 zL3 0, zH s4 zL4 0, zH s5 zL5 0, zH s6 zL6 0, zH s7 zL7 0, zH s8 (zLb ks) 0, xr9 L xs]) _ _
  refine xB.call oL_law (M2 := MX11_limit) ((x1S hS15 (Nat.le_of_ble_eq_true rfl) _ _ _).trans rfl) rfl ((t_X11_limit s0 (zH s1 zL1 0) (zH s2 zL2 0) s3 (zH s4 zL4 0) (zH s5 zL5 0) (zH s6 zL6 0) (zH s7 zL7 0) s8 (xr9 L xs) ks (av xs i 1) (av xs i 2) e1).deep (by decide : 5 ≤ 9)) ?_
  show xBody ML_law 10 945 (LwV i) [.long (zJ r)] ([zH s0 zL0 0, zH s1 zL1 0, zH s2 zL2 0, zH s3' zL3 0, zH s4 zL4 0, zH s5 zL5 0, zH s6 zL6 0, zH s7 zL7 0, zH s8' (zLb ks) 0, xr9 L xs]) _ _
  refine xB.run oL_law 1 (s := (946, LwV i, [.ref 7168, .long (zJ r)], [zH s0 zL0 0, zH s1 zL1 0, zH s2 zL2 0, zH s3' zL3 0, zH s4 zL4 0, zH s5 zL5 0, zH s6 zL6 0, zH s7 zL7 0, zH s8' (zLb ks) 0, xr9 L xs])) (xNP_run hS15 1 rfl) ?_
  refine law_ld hL (k := 1) (by omega) hS15 (n4 := 950) (kk := 1) rfl rfl rfl (by decide) rfl ?_
  show xBody ML_law 10 951 (LwV i) [.int (zI (av xs i 1)), .ref 7168, .long (zJ r)] ([zH s0 zL0 0, zH s1 zL1 0, zH s2 zL2 0, zH s3' zL3 0, zH s4 zL4 0, zH s5 zL5 0, zH s6 zL6 0, zH s7 zL7 0, zH s8' (zLb ks) 0, xr9 L xs]) _ _
  refine law_ld hL (k := 2) (by omega) hS15 (n4 := 955) (kk := 2) rfl rfl rfl (by decide) rfl ?_
  show xBody ML_law 10 956 (LwV i) [.int (zI (av xs i 2)), .int (zI (av xs i 1)), .ref 7168, .long (zJ r)] ([zH s0 zL0 0, zH s1 zL1 0, zH s2 zL2 0, zH s3' zL3 0, zH s4 zL4 0, zH s5 zL5 0, zH s6 zL6 0, zH s7 zL7 0, zH s8' (zLb ks) 0, xr9 L xs]) _ _
  refine xB.call oL_law (M2 := MX12_limit) ((x1S hS15 (Nat.le_of_ble_eq_true rfl) _ _ _).trans rfl) rfl ((t_X12_limit (zH s0 zL0 0) (zH s1 zL1 0) (zH s2 zL2 0) (zH s3' zL3 0) (zH s4 zL4 0) (zH s5 zL5 0) (zH s6 zL6 0) s7 (zH s8' (zLb ks) 0) (xr9 L xs) (av xs i 1) (av xs i 2) e2).deep (by decide : 6 ≤ 9)) ?_
  show xBody ML_law 10 959 (LwV i) [.long (zJ r), .long (zJ r)] ([zH s0 zL0 0, zH s1 zL1 0, zH s2 zL2 0, zH s3' zL3 0, zH s4 zL4 0, zH s5 zL5 0, zH s6 zL6 0, zH s7' zL7 0, zH s8' (zLb ks) 0, xr9 L xs]) _ _
  refine xB.run oL_law 1 (s := (960, LwV i, [.int (lg_cmp (zJ r) (zJ r))], [zH s0 zL0 0, zH s1 zL1 0, zH s2 zL2 0, zH s3' zL3 0, zH s4 zL4 0, zH s5 zL5 0, zH s6 zL6 0, zH s7' zL7 0, zH s8' (zLb ks) 0, xr9 L xs])) (xNP_run hS15 1 rfl) ?_
  exact xB.sameL oL_law ((x1S hS15 (Nat.le_of_ble_eq_true rfl) _ _ _).trans rfl) X
theorem l_needs {L : Nat} {xs : Nat → Int32} (hL : L ≤ 2560) {i : Nat} (hi : i + 5 ≤ L) {s0 s1 s2 s3 s4 s5 s6 s7 s8 : zZ} {ks : List Int} (Q : Rel s0 s1 s2 s3 s4 s5 s6 s7 s8 ks) (next : ∀ (s0 s1 s2 s3 s4 s5 s6 s7 s8 : zZ) (ks : List Int), Rel s0 s1 s2 s3 s4 s5 s6 s7 s8 ks → LwP L xs 1517 i s0 s1 s2 s3 s4 s5 s6 s7 s8 ks) : LwP L xs 965 i s0 s1 s2 s3 s4 s5 s6 s7 s8 ks := by
  obtain ⟨r, s3', s8', s7', e1, e2, Q'⟩ := c_needs Q (av_zr xs i 1)
  obtain ⟨hp', X, b1, b2⟩ := next s0 s1 s2 s3' s4 s5 s6 s7' s8' ks Q'
  refine ⟨hp', ?_, b1, b2⟩
  refine xB.run oL_law 1 (s := (966, LwV i, [.ref 0], [zH s0 zL0 0, zH s1 zL1 0, zH s2 zL2 0, zH s3 zL3 0, zH s4 zL4 0, zH s5 zL5 0, zH s6 zL6 0, zH s7 zL7 0, zH s8 (zLb ks) 0, xr9 L xs])) (xNP_run hS16 1 rfl) ?_
  refine law_ld hL (k := 1) (by omega) hS16 (n4 := 970) (kk := 1) rfl rfl rfl (by decide) rfl ?_
  show xBody ML_law 10 971 (LwV i) [.int (zI (av xs i 1)), .ref 0] ([zH s0 zL0 0, zH s1 zL1 0, zH s2 zL2 0, zH s3 zL3 0, zH s4 zL4 0, zH s5 zL5 0, zH s6 zL6 0, zH s7 zL7 0, zH s8 (zLb ks) 0, xr9 L xs]) _ _
  refine xB.call oL_law (M2 := MX11_needs) ((x1S hS16 (Nat.le_of_ble_eq_true rfl) _ _ _).trans rfl) rfl ((t_X11_needs s0 (zH s1 zL1 0) (zH s2 zL2 0) s3 (zH s4 zL4 0) (zH s5 zL5 0) (zH s6 zL6 0) (zH s7 zL7 0) s8 (xr9 L xs) ks (av xs i 1) e1).deep (by decide : 5 ≤ 9)) ?_
  show xBody ML_law 10 974 (LwV i) [.int (zI r)] ([zH s0 zL0 0, zH s1 zL1 0, zH s2 zL2 0, zH s3' zL3 0, zH s4 zL4 0, zH s5 zL5 0, zH s6 zL6 0, zH s7 zL7 0, zH s8' (zLb ks) 0, xr9 L xs]) _ _
  refine xB.run oL_law 1 (s := (975, LwV i, [.ref 7168, .int (zI r)], [zH s0 zL0 0, zH s1 zL1 0, zH s2 zL2 0, zH s3' zL3 0, zH s4 zL4 0, zH s5 zL5 0, zH s6 zL6 0, zH s7 zL7 0, zH s8' (zLb ks) 0, xr9 L xs])) (xNP_run hS16 1 rfl) ?_
  refine law_ld hL (k := 1) (by omega) hS16 (n4 := 979) (kk := 1) rfl rfl rfl (by decide) rfl ?_
  show xBody ML_law 10 980 (LwV i) [.int (zI (av xs i 1)), .ref 7168, .int (zI r)] ([zH s0 zL0 0, zH s1 zL1 0, zH s2 zL2 0, zH s3' zL3 0, zH s4 zL4 0, zH s5 zL5 0, zH s6 zL6 0, zH s7 zL7 0, zH s8' (zLb ks) 0, xr9 L xs]) _ _
  refine xB.call oL_law (M2 := MX12_needs) ((x1S hS16 (Nat.le_of_ble_eq_true rfl) _ _ _).trans rfl) rfl ((t_X12_needs (zH s0 zL0 0) (zH s1 zL1 0) (zH s2 zL2 0) (zH s3' zL3 0) (zH s4 zL4 0) (zH s5 zL5 0) (zH s6 zL6 0) s7 (zH s8' (zLb ks) 0) (xr9 L xs) (av xs i 1) e2).deep (by decide : 5 ≤ 9)) ?_
  show xBody ML_law 10 983 (LwV i) [.int (zI r), .int (zI r)] ([zH s0 zL0 0, zH s1 zL1 0, zH s2 zL2 0, zH s3' zL3 0, zH s4 zL4 0, zH s5 zL5 0, zH s6 zL6 0, zH s7' zL7 0, zH s8' (zLb ks) 0, xr9 L xs]) _ _
  exact xB.same oL_law ((x1S hS16 (Nat.le_of_ble_eq_true rfl) _ _ _).trans rfl) X
theorem l_order {L : Nat} {xs : Nat → Int32} (hL : L ≤ 2560) {i : Nat} (hi : i + 5 ≤ L) {s0 s1 s2 s3 s4 s5 s6 s7 s8 : zZ} {ks : List Int} (Q : Rel s0 s1 s2 s3 s4 s5 s6 s7 s8 ks) (next : ∀ (s0 s1 s2 s3 s4 s5 s6 s7 s8 : zZ) (ks : List Int), Rel s0 s1 s2 s3 s4 s5 s6 s7 s8 ks → LwP L xs 1517 i s0 s1 s2 s3 s4 s5 s6 s7 s8 ks) : LwP L xs 988 i s0 s1 s2 s3 s4 s5 s6 s7 s8 ks := by
  obtain ⟨r, s3', s8', s7', e1, e2, Q'⟩ := c_order Q (av_zr xs i 1) (av_zr xs i 2)
  obtain ⟨hp', X, b1, b2⟩ := next s0 s1 s2 s3' s4 s5 s6 s7' s8' ks Q'
  refine ⟨hp', ?_, b1, b2⟩
  refine xB.run oL_law 1 (s := (989, LwV i, [.ref 0], [zH s0 zL0 0, zH s1 zL1 0, zH s2 zL2 0, zH s3 zL3 0, zH s4 zL4 0, zH s5 zL5 0, zH s6 zL6 0, zH s7 zL7 0, zH s8 (zLb ks) 0, xr9 L xs])) (xNP_run hS16 1 rfl) ?_
  refine law_ld hL (k := 1) (by omega) hS16 (n4 := 993) (kk := 1) rfl rfl rfl (by decide) rfl ?_
  show xBody ML_law 10 994 (LwV i) [.int (zI (av xs i 1)), .ref 0] ([zH s0 zL0 0, zH s1 zL1 0, zH s2 zL2 0, zH s3 zL3 0, zH s4 zL4 0, zH s5 zL5 0, zH s6 zL6 0, zH s7 zL7 0, zH s8 (zLb ks) 0, xr9 L xs]) _ _
  refine law_ld hL (k := 2) (by omega) hS16 (n4 := 998) (kk := 2) rfl rfl rfl (by decide) rfl ?_
  show xBody ML_law 10 999 (LwV i) [.int (zI (av xs i 2)), .int (zI (av xs i 1)), .ref 0] ([zH s0 zL0 0, zH s1 zL1 0, zH s2 zL2 0, zH s3 zL3 0, zH s4 zL4 0, zH s5 zL5 0, zH s6 zL6 0, zH s7 zL7 0, zH s8 (zLb ks) 0, xr9 L xs]) _ _
  refine xB.call oL_law (M2 := MX11_order) ((x1S hS16 (Nat.le_of_ble_eq_true rfl) _ _ _).trans rfl) rfl ((t_X11_order s0 (zH s1 zL1 0) (zH s2 zL2 0) s3 (zH s4 zL4 0) (zH s5 zL5 0) (zH s6 zL6 0) (zH s7 zL7 0) s8 (xr9 L xs) ks (av xs i 1) (av xs i 2) e1).deep (by decide : 5 ≤ 9)) ?_
  show xBody ML_law 10 1002 (LwV i) [.int (zI r)] ([zH s0 zL0 0, zH s1 zL1 0, zH s2 zL2 0, zH s3' zL3 0, zH s4 zL4 0, zH s5 zL5 0, zH s6 zL6 0, zH s7 zL7 0, zH s8' (zLb ks) 0, xr9 L xs]) _ _
  refine xB.run oL_law 1 (s := (1003, LwV i, [.ref 7168, .int (zI r)], [zH s0 zL0 0, zH s1 zL1 0, zH s2 zL2 0, zH s3' zL3 0, zH s4 zL4 0, zH s5 zL5 0, zH s6 zL6 0, zH s7 zL7 0, zH s8' (zLb ks) 0, xr9 L xs])) (xNP_run hS16 1 rfl) ?_
  refine law_ld hL (k := 1) (by omega) hS16 (n4 := 1007) (kk := 1) rfl rfl rfl (by decide) rfl ?_
  show xBody ML_law 10 1008 (LwV i) [.int (zI (av xs i 1)), .ref 7168, .int (zI r)] ([zH s0 zL0 0, zH s1 zL1 0, zH s2 zL2 0, zH s3' zL3 0, zH s4 zL4 0, zH s5 zL5 0, zH s6 zL6 0, zH s7 zL7 0, zH s8' (zLb ks) 0, xr9 L xs]) _ _
  refine law_ld hL (k := 2) (by omega) hS16 (n4 := 1012) (kk := 2) rfl rfl rfl (by decide) rfl ?_
  show xBody ML_law 10 1013 (LwV i) [.int (zI (av xs i 2)), .int (zI (av xs i 1)), .ref 7168, .int (zI r)] ([zH s0 zL0 0, zH s1 zL1 0, zH s2 zL2 0, zH s3' zL3 0, zH s4 zL4 0, zH s5 zL5 0, zH s6 zL6 0, zH s7 zL7 0, zH s8' (zLb ks) 0, xr9 L xs]) _ _
  refine xB.call oL_law (M2 := MX12_order) ((x1S hS16 (Nat.le_of_ble_eq_true rfl) _ _ _).trans rfl) rfl ((t_X12_order (zH s0 zL0 0) (zH s1 zL1 0) (zH s2 zL2 0) (zH s3' zL3 0) (zH s4 zL4 0) (zH s5 zL5 0) (zH s6 zL6 0) s7 (zH s8' (zLb ks) 0) (xr9 L xs) (av xs i 1) (av xs i 2) e2).deep (by decide : 8 ≤ 9)) ?_
  show xBody ML_law 10 1016 (LwV i) [.int (zI r), .int (zI r)] ([zH s0 zL0 0, zH s1 zL1 0, zH s2 zL2 0, zH s3' zL3 0, zH s4 zL4 0, zH s5 zL5 0, zH s6 zL6 0, zH s7' zL7 0, zH s8' (zLb ks) 0, xr9 L xs]) _ _
  exact xB.same oL_law ((x1S hS16 (Nat.le_of_ble_eq_true rfl) _ _ _).trans rfl) X
theorem l_hole {L : Nat} {xs : Nat → Int32} (hL : L ≤ 2560) {i : Nat} (hi : i + 5 ≤ L) {s0 s1 s2 s3 s4 s5 s6 s7 s8 : zZ} {ks : List Int} (Q : Rel s0 s1 s2 s3 s4 s5 s6 s7 s8 ks) (next : ∀ (s0 s1 s2 s3 s4 s5 s6 s7 s8 : zZ) (ks : List Int), Rel s0 s1 s2 s3 s4 s5 s6 s7 s8 ks → LwP L xs 1517 i s0 s1 s2 s3 s4 s5 s6 s7 s8 ks) : LwP L xs 1021 i s0 s1 s2 s3 s4 s5 s6 s7 s8 ks := by
  obtain ⟨r, s4', s7', e1, e2, Q'⟩ := c_hole Q (av_zr xs i 1) (av_zr xs i 2) (bv_01 (av xs i 3))
  obtain ⟨hp', X, b1, b2⟩ := next s0 s1 s2 s3 s4' s5 s6 s7' s8 ks Q'
  refine ⟨hp', ?_, b1, b2⟩
  refine xB.run oL_law 1 (s := (1022, LwV i, [.ref 0], [zH s0 zL0 0, zH s1 zL1 0, zH s2 zL2 0, zH s3 zL3 0, zH s4 zL4 0, zH s5 zL5 0, zH s6 zL6 0, zH s7 zL7 0, zH s8 (zLb ks) 0, xr9 L xs])) (xNP_run hS17 1 rfl) ?_
  refine law_ld hL (k := 1) (by omega) hS17 (n4 := 1026) (kk := 1) rfl rfl rfl (by decide) rfl ?_
  show xBody ML_law 10 1027 (LwV i) [.int (zI (av xs i 1)), .ref 0] ([zH s0 zL0 0, zH s1 zL1 0, zH s2 zL2 0, zH s3 zL3 0, zH s4 zL4 0, zH s5 zL5 0, zH s6 zL6 0, zH s7 zL7 0, zH s8 (zLb ks) 0, xr9 L xs]) _ _
  refine law_ld hL (k := 2) (by omega) hS17 (n4 := 1031) (kk := 2) rfl rfl rfl (by decide) rfl ?_
  show xBody ML_law 10 1032 (LwV i) [.int (zI (av xs i 2)), .int (zI (av xs i 1)), .ref 0] ([zH s0 zL0 0, zH s1 zL1 0, zH s2 zL2 0, zH s3 zL3 0, zH s4 zL4 0, zH s5 zL5 0, zH s6 zL6 0, zH s7 zL7 0, zH s8 (zLb ks) 0, xr9 L xs]) _ _
  refine law_ld hL (k := 3) (by omega) hS17 (n4 := 1036) (kk := 3) rfl rfl rfl (by decide) rfl ?_
  show xBody ML_law 10 1037 (LwV i) [.int (zI (av xs i 3)), .int (zI (av xs i 2)), .int (zI (av xs i 1)), .ref 0] ([zH s0 zL0 0, zH s1 zL1 0, zH s2 zL2 0, zH s3 zL3 0, zH s4 zL4 0, zH s5 zL5 0, zH s6 zL6 0, zH s7 zL7 0, zH s8 (zLb ks) 0, xr9 L xs]) _ _
  suffices K2 : xBody ML_law 10 1045 (LwV i) [.int (zI (bv (av xs i 3))), .int (zI (av xs i 2)), .int (zI (av xs i 1)), .ref 0] ([zH s0 zL0 0, zH s1 zL1 0, zH s2 zL2 0, zH s3 zL3 0, zH s4 zL4 0, zH s5 zL5 0, zH s6 zL6 0, zH s7 zL7 0, zH s8 (zLb ks) 0, xr9 L xs]) (some (.int 1)) hp' by
    refine xB.brE oL_law (P := av xs i 3 = 0) ((x1S hS17 (Nat.le_of_ble_eq_true rfl) _ _ _).trans rfl) (zc_eq (b := 0) ⟨av_zr xs i 3, by decide⟩) (fun q => ?_) (fun q => ?_)
    · have e : bv (av xs i 3) = 0 := if_pos q
      rw [e] at K2
      refine xB.run oL_law 1 (s := (1045, LwV i, .int 0 :: [.int (zI (av xs i 2)), .int (zI (av xs i 1)), .ref 0], [zH s0 zL0 0, zH s1 zL1 0, zH s2 zL2 0, zH s3 zL3 0, zH s4 zL4 0, zH s5 zL5 0, zH s6 zL6 0, zH s7 zL7 0, zH s8 (zLb ks) 0, xr9 L xs])) (xNP_run hS17 1 rfl) K2
    · have e : bv (av xs i 3) = 1 := if_neg q
      rw [e] at K2
      refine xB.run oL_law 2 (s := (1045, LwV i, .int 1 :: [.int (zI (av xs i 2)), .int (zI (av xs i 1)), .ref 0], [zH s0 zL0 0, zH s1 zL1 0, zH s2 zL2 0, zH s3 zL3 0, zH s4 zL4 0, zH s5 zL5 0, zH s6 zL6 0, zH s7 zL7 0, zH s8 (zLb ks) 0, xr9 L xs])) (xNP_run hS17 2 rfl) K2
  refine xB.call oL_law (M2 := MX11_hole) ((x1S hS17 (Nat.le_of_ble_eq_true rfl) _ _ _).trans rfl) rfl ((t_X11_hole s0 (zH s1 zL1 0) (zH s2 zL2 0) (zH s3 zL3 0) s4 (zH s5 zL5 0) (zH s6 zL6 0) (zH s7 zL7 0) (zH s8 (zLb ks) 0) (xr9 L xs) (av xs i 1) (av xs i 2) (bv (av xs i 3)) e1).deep (by decide : 2 ≤ 9)) ?_
  show xBody ML_law 10 1048 (LwV i) [.int (zI r)] ([zH s0 zL0 0, zH s1 zL1 0, zH s2 zL2 0, zH s3 zL3 0, zH s4' zL4 0, zH s5 zL5 0, zH s6 zL6 0, zH s7 zL7 0, zH s8 (zLb ks) 0, xr9 L xs]) _ _
  refine xB.run oL_law 1 (s := (1049, LwV i, [.ref 7168, .int (zI r)], [zH s0 zL0 0, zH s1 zL1 0, zH s2 zL2 0, zH s3 zL3 0, zH s4' zL4 0, zH s5 zL5 0, zH s6 zL6 0, zH s7 zL7 0, zH s8 (zLb ks) 0, xr9 L xs])) (xNP_run hS17 1 rfl) ?_
  refine law_ld hL (k := 1) (by omega) hS17 (n4 := 1053) (kk := 1) rfl rfl rfl (by decide) rfl ?_
  show xBody ML_law 10 1054 (LwV i) [.int (zI (av xs i 1)), .ref 7168, .int (zI r)] ([zH s0 zL0 0, zH s1 zL1 0, zH s2 zL2 0, zH s3 zL3 0, zH s4' zL4 0, zH s5 zL5 0, zH s6 zL6 0, zH s7 zL7 0, zH s8 (zLb ks) 0, xr9 L xs]) _ _
  refine law_ld hL (k := 2) (by omega) hS17 (n4 := 1058) (kk := 2) rfl rfl rfl (by decide) rfl ?_
  show xBody ML_law 10 1059 (LwV i) [.int (zI (av xs i 2)), .int (zI (av xs i 1)), .ref 7168, .int (zI r)] ([zH s0 zL0 0, zH s1 zL1 0, zH s2 zL2 0, zH s3 zL3 0, zH s4' zL4 0, zH s5 zL5 0, zH s6 zL6 0, zH s7 zL7 0, zH s8 (zLb ks) 0, xr9 L xs]) _ _
  refine law_ld hL (k := 3) (by omega) hS17 (n4 := 1063) (kk := 3) rfl rfl rfl (by decide) rfl ?_
  show xBody ML_law 10 1064 (LwV i) [.int (zI (av xs i 3)), .int (zI (av xs i 2)), .int (zI (av xs i 1)), .ref 7168, .int (zI r)] ([zH s0 zL0 0, zH s1 zL1 0, zH s2 zL2 0, zH s3 zL3 0, zH s4' zL4 0, zH s5 zL5 0, zH s6 zL6 0, zH s7 zL7 0, zH s8 (zLb ks) 0, xr9 L xs]) _ _
  suffices K2 : xBody ML_law 10 1072 (LwV i) [.int (zI (bv (av xs i 3))), .int (zI (av xs i 2)), .int (zI (av xs i 1)), .ref 7168, .int (zI r)] ([zH s0 zL0 0, zH s1 zL1 0, zH s2 zL2 0, zH s3 zL3 0, zH s4' zL4 0, zH s5 zL5 0, zH s6 zL6 0, zH s7 zL7 0, zH s8 (zLb ks) 0, xr9 L xs]) (some (.int 1)) hp' by
    refine xB.brE oL_law (P := av xs i 3 = 0) ((x1S hS17 (Nat.le_of_ble_eq_true rfl) _ _ _).trans rfl) (zc_eq (b := 0) ⟨av_zr xs i 3, by decide⟩) (fun q => ?_) (fun q => ?_)
    · have e : bv (av xs i 3) = 0 := if_pos q
      rw [e] at K2
      refine xB.run oL_law 1 (s := (1072, LwV i, .int 0 :: [.int (zI (av xs i 2)), .int (zI (av xs i 1)), .ref 7168, .int (zI r)], [zH s0 zL0 0, zH s1 zL1 0, zH s2 zL2 0, zH s3 zL3 0, zH s4' zL4 0, zH s5 zL5 0, zH s6 zL6 0, zH s7 zL7 0, zH s8 (zLb ks) 0, xr9 L xs])) (xNP_run hS17 1 rfl) K2
    · have e : bv (av xs i 3) = 1 := if_neg q
      rw [e] at K2
      refine xB.run oL_law 2 (s := (1072, LwV i, .int 1 :: [.int (zI (av xs i 2)), .int (zI (av xs i 1)), .ref 7168, .int (zI r)], [zH s0 zL0 0, zH s1 zL1 0, zH s2 zL2 0, zH s3 zL3 0, zH s4' zL4 0, zH s5 zL5 0, zH s6 zL6 0, zH s7 zL7 0, zH s8 (zLb ks) 0, xr9 L xs])) (xNP_run hS17 2 rfl) K2
  refine xB.call oL_law (M2 := MX12_hole) ((x1S hS17 (Nat.le_of_ble_eq_true rfl) _ _ _).trans rfl) rfl ((t_X12_hole (zH s0 zL0 0) (zH s1 zL1 0) (zH s2 zL2 0) (zH s3 zL3 0) (zH s4' zL4 0) (zH s5 zL5 0) (zH s6 zL6 0) s7 (zH s8 (zLb ks) 0) (xr9 L xs) (av xs i 1) (av xs i 2) (bv (av xs i 3)) e2).deep (by decide : 1 ≤ 9)) ?_
  show xBody ML_law 10 1075 (LwV i) [.int (zI r), .int (zI r)] ([zH s0 zL0 0, zH s1 zL1 0, zH s2 zL2 0, zH s3 zL3 0, zH s4' zL4 0, zH s5 zL5 0, zH s6 zL6 0, zH s7' zL7 0, zH s8 (zLb ks) 0, xr9 L xs]) _ _
  exact xB.same oL_law ((x1S hS17 (Nat.le_of_ble_eq_true rfl) _ _ _).trans rfl) X
theorem l_skin {L : Nat} {xs : Nat → Int32} (hL : L ≤ 2560) {i : Nat} (hi : i + 5 ≤ L) {s0 s1 s2 s3 s4 s5 s6 s7 s8 : zZ} {ks : List Int} (Q : Rel s0 s1 s2 s3 s4 s5 s6 s7 s8 ks) (next : ∀ (s0 s1 s2 s3 s4 s5 s6 s7 s8 : zZ) (ks : List Int), Rel s0 s1 s2 s3 s4 s5 s6 s7 s8 ks → LwP L xs 1517 i s0 s1 s2 s3 s4 s5 s6 s7 s8 ks) : LwP L xs 1080 i s0 s1 s2 s3 s4 s5 s6 s7 s8 ks := by
  obtain ⟨r, s4', s7', e1, e2, Q'⟩ := c_skin Q (av_zr xs i 1)
  obtain ⟨hp', X, b1, b2⟩ := next s0 s1 s2 s3 s4' s5 s6 s7' s8 ks Q'
  refine ⟨hp', ?_, b1, b2⟩
  refine xB.run oL_law 1 (s := (1081, LwV i, [.ref 0], [zH s0 zL0 0, zH s1 zL1 0, zH s2 zL2 0, zH s3 zL3 0, zH s4 zL4 0, zH s5 zL5 0, zH s6 zL6 0, zH s7 zL7 0, zH s8 (zLb ks) 0, xr9 L xs])) (xNP_run hS18 1 rfl) ?_
  refine law_ld hL (k := 1) (by omega) hS18 (n4 := 1085) (kk := 1) rfl rfl rfl (by decide) rfl ?_
  show xBody ML_law 10 1086 (LwV i) [.int (zI (av xs i 1)), .ref 0] ([zH s0 zL0 0, zH s1 zL1 0, zH s2 zL2 0, zH s3 zL3 0, zH s4 zL4 0, zH s5 zL5 0, zH s6 zL6 0, zH s7 zL7 0, zH s8 (zLb ks) 0, xr9 L xs]) _ _
  refine xB.call oL_law (M2 := MX11_skin) ((x1S hS18 (Nat.le_of_ble_eq_true rfl) _ _ _).trans rfl) rfl ((t_X11_skin s0 (zH s1 zL1 0) (zH s2 zL2 0) (zH s3 zL3 0) s4 (zH s5 zL5 0) (zH s6 zL6 0) (zH s7 zL7 0) (zH s8 (zLb ks) 0) (.inl (0, L, .inl xs)) (av xs i 1) e1).deep (by decide : 5 ≤ 9)) ?_
  show xBody ML_law 10 1089 (LwV i) [.int (zI r)] ([zH s0 zL0 0, zH s1 zL1 0, zH s2 zL2 0, zH s3 zL3 0, zH s4' zL4 0, zH s5 zL5 0, zH s6 zL6 0, zH s7 zL7 0, zH s8 (zLb ks) 0, xr9 L xs]) _ _
  refine xB.run oL_law 1 (s := (1090, LwV i, [.ref 7168, .int (zI r)], [zH s0 zL0 0, zH s1 zL1 0, zH s2 zL2 0, zH s3 zL3 0, zH s4' zL4 0, zH s5 zL5 0, zH s6 zL6 0, zH s7 zL7 0, zH s8 (zLb ks) 0, xr9 L xs])) (xNP_run hS18 1 rfl) ?_
  refine law_ld hL (k := 1) (by omega) hS18 (n4 := 1094) (kk := 1) rfl rfl rfl (by decide) rfl ?_
  show xBody ML_law 10 1095 (LwV i) [.int (zI (av xs i 1)), .ref 7168, .int (zI r)] ([zH s0 zL0 0, zH s1 zL1 0, zH s2 zL2 0, zH s3 zL3 0, zH s4' zL4 0, zH s5 zL5 0, zH s6 zL6 0, zH s7 zL7 0, zH s8 (zLb ks) 0, xr9 L xs]) _ _
  refine xB.call oL_law (M2 := MX12_skin) ((x1S hS18 (Nat.le_of_ble_eq_true rfl) _ _ _).trans rfl) rfl ((t_X12_skin (zH s0 zL0 0) (zH s1 zL1 0) (zH s2 zL2 0) (zH s3 zL3 0) (zH s4' zL4 0) (zH s5 zL5 0) (zH s6 zL6 0) s7 (zH s8 (zLb ks) 0) (xr9 L xs) (av xs i 1) e2).deep (by decide : 5 ≤ 9)) ?_
  show xBody ML_law 10 1098 (LwV i) [.int (zI r), .int (zI r)] ([zH s0 zL0 0, zH s1 zL1 0, zH s2 zL2 0, zH s3 zL3 0, zH s4' zL4 0, zH s5 zL5 0, zH s6 zL6 0, zH s7' zL7 0, zH s8 (zLb ks) 0, xr9 L xs]) _ _
  exact xB.same oL_law ((x1S hS18 (Nat.le_of_ble_eq_true rfl) _ _ _).trans rfl) X
theorem l_sight {L : Nat} {xs : Nat → Int32} (hL : L ≤ 2560) {i : Nat} (hi : i + 5 ≤ L) {s0 s1 s2 s3 s4 s5 s6 s7 s8 : zZ} {ks : List Int} (Q : Rel s0 s1 s2 s3 s4 s5 s6 s7 s8 ks) (next : ∀ (s0 s1 s2 s3 s4 s5 s6 s7 s8 : zZ) (ks : List Int), Rel s0 s1 s2 s3 s4 s5 s6 s7 s8 ks → LwP L xs 1517 i s0 s1 s2 s3 s4 s5 s6 s7 s8 ks) : LwP L xs 1103 i s0 s1 s2 s3 s4 s5 s6 s7 s8 ks := by
  obtain ⟨r, s5', s7', e1, e2, Q'⟩ := c_sight Q (av_zr xs i 1) (av_zr xs i 2) (av_zr xs i 3)
  obtain ⟨hp', X, b1, b2⟩ := next s0 s1 s2 s3 s4 s5' s6 s7' s8 ks Q'
  refine ⟨hp', ?_, b1, b2⟩
  refine xB.run oL_law 1 (s := (1104, LwV i, [.ref 0], [zH s0 zL0 0, zH s1 zL1 0, zH s2 zL2 0, zH s3 zL3 0, zH s4 zL4 0, zH s5 zL5 0, zH s6 zL6 0, zH s7 zL7 0, zH s8 (zLb ks) 0, xr9 L xs])) (xNP_run hS18 1 rfl) ?_
  refine law_ld hL (k := 1) (by omega) hS18 (n4 := 1108) (kk := 1) rfl rfl rfl (by decide) rfl ?_
  show xBody ML_law 10 1109 (LwV i) [.int (zI (av xs i 1)), .ref 0] ([zH s0 zL0 0, zH s1 zL1 0, zH s2 zL2 0, zH s3 zL3 0, zH s4 zL4 0, zH s5 zL5 0, zH s6 zL6 0, zH s7 zL7 0, zH s8 (zLb ks) 0, xr9 L xs]) _ _
  refine law_ld hL (k := 2) (by omega) hS18 (n4 := 1113) (kk := 2) rfl rfl rfl (by decide) rfl ?_
  show xBody ML_law 10 1114 (LwV i) [.int (zI (av xs i 2)), .int (zI (av xs i 1)), .ref 0] ([zH s0 zL0 0, zH s1 zL1 0, zH s2 zL2 0, zH s3 zL3 0, zH s4 zL4 0, zH s5 zL5 0, zH s6 zL6 0, zH s7 zL7 0, zH s8 (zLb ks) 0, xr9 L xs]) _ _
  refine law_ld hL (k := 3) (by omega) hS18 (n4 := 1118) (kk := 3) rfl rfl rfl (by decide) rfl ?_
  show xBody ML_law 10 1119 (LwV i) [.int (zI (av xs i 3)), .int (zI (av xs i 2)), .int (zI (av xs i 1)), .ref 0] ([zH s0 zL0 0, zH s1 zL1 0, zH s2 zL2 0, zH s3 zL3 0, zH s4 zL4 0, zH s5 zL5 0, zH s6 zL6 0, zH s7 zL7 0, zH s8 (zLb ks) 0, xr9 L xs]) _ _
  refine xB.call oL_law (M2 := MX11_sight) ((x1S hS18 (Nat.le_of_ble_eq_true rfl) _ _ _).trans rfl) rfl ((t_X11_sight s0 (zH s1 zL1 0) (zH s2 zL2 0) (zH s3 zL3 0) (zH s4 zL4 0) s5 (zH s6 zL6 0) (zH s7 zL7 0) (zH s8 (zLb ks) 0) (xr9 L xs) (av xs i 1) (av xs i 2) (av xs i 3) e1).deep (by decide : 2 ≤ 9)) ?_
  show xBody ML_law 10 1122 (LwV i) [.int (zI r)] ([zH s0 zL0 0, zH s1 zL1 0, zH s2 zL2 0, zH s3 zL3 0, zH s4 zL4 0, zH s5' zL5 0, zH s6 zL6 0, zH s7 zL7 0, zH s8 (zLb ks) 0, xr9 L xs]) _ _
  refine xB.run oL_law 1 (s := (1123, LwV i, [.ref 7168, .int (zI r)], [zH s0 zL0 0, zH s1 zL1 0, zH s2 zL2 0, zH s3 zL3 0, zH s4 zL4 0, zH s5' zL5 0, zH s6 zL6 0, zH s7 zL7 0, zH s8 (zLb ks) 0, xr9 L xs])) (xNP_run hS18 1 rfl) ?_
  refine law_ld hL (k := 1) (by omega) hS18 (n4 := 1127) (kk := 1) rfl rfl rfl (by decide) rfl ?_
  show xBody ML_law 10 1128 (LwV i) [.int (zI (av xs i 1)), .ref 7168, .int (zI r)] ([zH s0 zL0 0, zH s1 zL1 0, zH s2 zL2 0, zH s3 zL3 0, zH s4 zL4 0, zH s5' zL5 0, zH s6 zL6 0, zH s7 zL7 0, zH s8 (zLb ks) 0, xr9 L xs]) _ _
  refine law_ld hL (k := 2) (by omega) hS18 (n4 := 1132) (kk := 2) rfl rfl rfl (by decide) rfl ?_
  show xBody ML_law 10 1133 (LwV i) [.int (zI (av xs i 2)), .int (zI (av xs i 1)), .ref 7168, .int (zI r)] ([zH s0 zL0 0, zH s1 zL1 0, zH s2 zL2 0, zH s3 zL3 0, zH s4 zL4 0, zH s5' zL5 0, zH s6 zL6 0, zH s7 zL7 0, zH s8 (zLb ks) 0, xr9 L xs]) _ _
  refine law_ld hL (k := 3) (by omega) hS18 (n4 := 1137) (kk := 3) rfl rfl rfl (by decide) rfl ?_
  show xBody ML_law 10 1138 (LwV i) [.int (zI (av xs i 3)), .int (zI (av xs i 2)), .int (zI (av xs i 1)), .ref 7168, .int (zI r)] ([zH s0 zL0 0, zH s1 zL1 0, zH s2 zL2 0, zH s3 zL3 0, zH s4 zL4 0, zH s5' zL5 0, zH s6 zL6 0, zH s7 zL7 0, zH s8 (zLb ks) 0, xr9 L xs]) _ _
  refine xB.call oL_law (M2 := MX12_sight) ((x1S hS18 (Nat.le_of_ble_eq_true rfl) _ _ _).trans rfl) rfl ((t_X12_sight (zH s0 zL0 0) (zH s1 zL1 0) (zH s2 zL2 0) (zH s3 zL3 0) (zH s4 zL4 0) (zH s5' zL5 0) (zH s6 zL6 0) s7 (zH s8 (zLb ks) 0) (xr9 L xs) (av xs i 1) (av xs i 2) (av xs i 3) e2).deep (by decide : 1 ≤ 9)) ?_
  show xBody ML_law 10 1141 (LwV i) [.int (zI r), .int (zI r)] ([zH s0 zL0 0, zH s1 zL1 0, zH s2 zL2 0, zH s3 zL3 0, zH s4 zL4 0, zH s5' zL5 0, zH s6 zL6 0, zH s7' zL7 0, zH s8 (zLb ks) 0, xr9 L xs]) _ _
  exact xB.same oL_law ((x1S hS18 (Nat.le_of_ble_eq_true rfl) _ _ _).trans rfl) X
theorem l_quarrel {L : Nat} {xs : Nat → Int32} (hL : L ≤ 2560) {i : Nat} (hi : i + 5 ≤ L) {s0 s1 s2 s3 s4 s5 s6 s7 s8 : zZ} {ks : List Int} (Q : Rel s0 s1 s2 s3 s4 s5 s6 s7 s8 ks) (next : ∀ (s0 s1 s2 s3 s4 s5 s6 s7 s8 : zZ) (ks : List Int), Rel s0 s1 s2 s3 s4 s5 s6 s7 s8 ks → LwP L xs 1517 i s0 s1 s2 s3 s4 s5 s6 s7 s8 ks) : LwP L xs 1146 i s0 s1 s2 s3 s4 s5 s6 s7 s8 ks := by
  obtain ⟨r, e1, e2, Q'⟩ := c_quarrel Q (av_zr xs i 1) (av_zr xs i 2)
  obtain ⟨hp', X, b1, b2⟩ := next s0 s1 s2 s3 s4 s5 s6 s7 s8 ks Q'
  refine ⟨hp', ?_, b1, b2⟩
  refine xB.run oL_law 1 (s := (1147, LwV i, [.ref 0], [zH s0 zL0 0, zH s1 zL1 0, zH s2 zL2 0, zH s3 zL3 0, zH s4 zL4 0, zH s5 zL5 0, zH s6 zL6 0, zH s7 zL7 0, zH s8 (zLb ks) 0, xr9 L xs])) (xNP_run hS19 1 rfl) ?_
  refine law_ld hL (k := 1) (by omega) hS19 (n4 := 1151) (kk := 1) rfl rfl rfl (by decide) rfl ?_
  show xBody ML_law 10 1152 (LwV i) [.int (zI (av xs i 1)), .ref 0] ([zH s0 zL0 0, zH s1 zL1 0, zH s2 zL2 0, zH s3 zL3 0, zH s4 zL4 0, zH s5 zL5 0, zH s6 zL6 0, zH s7 zL7 0, zH s8 (zLb ks) 0, xr9 L xs]) _ _
  refine law_ld hL (k := 2) (by omega) hS19 (n4 := 1156) (kk := 2) rfl rfl rfl (by decide) rfl ?_
  show xBody ML_law 10 1157 (LwV i) [.int (zI (av xs i 2)), .int (zI (av xs i 1)), .ref 0] ([zH s0 zL0 0, zH s1 zL1 0, zH s2 zL2 0, zH s3 zL3 0, zH s4 zL4 0, zH s5 zL5 0, zH s6 zL6 0, zH s7 zL7 0, zH s8 (zLb ks) 0, xr9 L xs]) _ _
  refine xB.call oL_law (M2 := MX11_quarrel) ((x1S hS19 (Nat.le_of_ble_eq_true rfl) _ _ _).trans rfl) rfl ((t_X11_quarrel s0 (zH s1 zL1 0) (zH s2 zL2 0) (zH s3 zL3 0) (zH s4 zL4 0) s5 (zH s6 zL6 0) (zH s7 zL7 0) (zH s8 (zLb ks) 0) (xr9 L xs) (av xs i 1) (av xs i 2) e1).deep (by decide : 2 ≤ 9)) ?_
  show xBody ML_law 10 1160 (LwV i) [.int (zI r)] ([zH s0 zL0 0, zH s1 zL1 0, zH s2 zL2 0, zH s3 zL3 0, zH s4 zL4 0, zH s5 zL5 0, zH s6 zL6 0, zH s7 zL7 0, zH s8 (zLb ks) 0, xr9 L xs]) _ _
  refine xB.run oL_law 1 (s := (1161, LwV i, [.ref 7168, .int (zI r)], [zH s0 zL0 0, zH s1 zL1 0, zH s2 zL2 0, zH s3 zL3 0, zH s4 zL4 0, zH s5 zL5 0, zH s6 zL6 0, zH s7 zL7 0, zH s8 (zLb ks) 0, xr9 L xs])) (xNP_run hS19 1 rfl) ?_
  refine law_ld hL (k := 1) (by omega) hS19 (n4 := 1165) (kk := 1) rfl rfl rfl (by decide) rfl ?_
  show xBody ML_law 10 1166 (LwV i) [.int (zI (av xs i 1)), .ref 7168, .int (zI r)] ([zH s0 zL0 0, zH s1 zL1 0, zH s2 zL2 0, zH s3 zL3 0, zH s4 zL4 0, zH s5 zL5 0, zH s6 zL6 0, zH s7 zL7 0, zH s8 (zLb ks) 0, xr9 L xs]) _ _
  refine law_ld hL (k := 2) (by omega) hS19 (n4 := 1170) (kk := 2) rfl rfl rfl (by decide) rfl ?_
  show xBody ML_law 10 1171 (LwV i) [.int (zI (av xs i 2)), .int (zI (av xs i 1)), .ref 7168, .int (zI r)] ([zH s0 zL0 0, zH s1 zL1 0, zH s2 zL2 0, zH s3 zL3 0, zH s4 zL4 0, zH s5 zL5 0, zH s6 zL6 0, zH s7 zL7 0, zH s8 (zLb ks) 0, xr9 L xs]) _ _
  refine xB.call oL_law (M2 := MX12_quarrel) ((x1S hS19 (Nat.le_of_ble_eq_true rfl) _ _ _).trans rfl) rfl ((t_X12_quarrel (zH s0 zL0 0) (zH s1 zL1 0) (zH s2 zL2 0) (zH s3 zL3 0) (zH s4 zL4 0) (zH s5 zL5 0) (zH s6 zL6 0) s7 (zH s8 (zLb ks) 0) (xr9 L xs) (av xs i 1) (av xs i 2) e2).deep (by decide : 1 ≤ 9)) ?_
  show xBody ML_law 10 1174 (LwV i) [.int (zI r), .int (zI r)] ([zH s0 zL0 0, zH s1 zL1 0, zH s2 zL2 0, zH s3 zL3 0, zH s4 zL4 0, zH s5 zL5 0, zH s6 zL6 0, zH s7 zL7 0, zH s8 (zLb ks) 0, xr9 L xs]) _ _
  exact xB.same oL_law ((x1S hS19 (Nat.le_of_ble_eq_true rfl) _ _ _).trans rfl) X
theorem l_most {L : Nat} {xs : Nat → Int32} (hL : L ≤ 2560) {i : Nat} (hi : i + 5 ≤ L) {s0 s1 s2 s3 s4 s5 s6 s7 s8 : zZ} {ks : List Int} (Q : Rel s0 s1 s2 s3 s4 s5 s6 s7 s8 ks) (next : ∀ (s0 s1 s2 s3 s4 s5 s6 s7 s8 : zZ) (ks : List Int), Rel s0 s1 s2 s3 s4 s5 s6 s7 s8 ks → LwP L xs 1517 i s0 s1 s2 s3 s4 s5 s6 s7 s8 ks) : LwP L xs 1179 i s0 s1 s2 s3 s4 s5 s6 s7 s8 ks := by
  obtain ⟨r, e1, e2, Q'⟩ := c_most Q 
  obtain ⟨hp', X, b1, b2⟩ := next s0 s1 s2 s3 s4 s5 s6 s7 s8 ks Q'
  refine ⟨hp', ?_, b1, b2⟩
  refine xB.run oL_law 1 (s := (1180, LwV i, [.ref 0], [zH s0 zL0 0, zH s1 zL1 0, zH s2 zL2 0, zH s3 zL3 0, zH s4 zL4 0, zH s5 zL5 0, zH s6 zL6 0, zH s7 zL7 0, zH s8 (zLb ks) 0, xr9 L xs])) (xNP_run hS20 1 rfl) ?_
  refine xB.call oL_law (M2 := MX11_most) ((x1S hS20 (Nat.le_of_ble_eq_true rfl) _ _ _).trans rfl) rfl ((t_X11_most s0 (zH s1 zL1 0) (zH s2 zL2 0) (zH s3 zL3 0) (zH s4 zL4 0) s5 (zH s6 zL6 0) (zH s7 zL7 0) (zH s8 (zLb ks) 0) (xr9 L xs) e1).deep (by decide : 2 ≤ 9)) ?_
  show xBody ML_law 10 1183 (LwV i) [.int (zI r)] ([zH s0 zL0 0, zH s1 zL1 0, zH s2 zL2 0, zH s3 zL3 0, zH s4 zL4 0, zH s5 zL5 0, zH s6 zL6 0, zH s7 zL7 0, zH s8 (zLb ks) 0, xr9 L xs]) _ _
  refine xB.run oL_law 1 (s := (1184, LwV i, [.ref 7168, .int (zI r)], [zH s0 zL0 0, zH s1 zL1 0, zH s2 zL2 0, zH s3 zL3 0, zH s4 zL4 0, zH s5 zL5 0, zH s6 zL6 0, zH s7 zL7 0, zH s8 (zLb ks) 0, xr9 L xs])) (xNP_run hS20 1 rfl) ?_
  refine xB.call oL_law (M2 := MX12_most) ((x1S hS20 (Nat.le_of_ble_eq_true rfl) _ _ _).trans rfl) rfl ((t_X12_most (zH s0 zL0 0) (zH s1 zL1 0) (zH s2 zL2 0) (zH s3 zL3 0) (zH s4 zL4 0) (zH s5 zL5 0) (zH s6 zL6 0) s7 (zH s8 (zLb ks) 0) (xr9 L xs) e2).deep (by decide : 2 ≤ 9)) ?_
  show xBody ML_law 10 1187 (LwV i) [.int (zI r), .int (zI r)] ([zH s0 zL0 0, zH s1 zL1 0, zH s2 zL2 0, zH s3 zL3 0, zH s4 zL4 0, zH s5 zL5 0, zH s6 zL6 0, zH s7 zL7 0, zH s8 (zLb ks) 0, xr9 L xs]) _ _
  exact xB.same oL_law ((x1S hS20 (Nat.le_of_ble_eq_true rfl) _ _ _).trans rfl) X
theorem l_span {L : Nat} {xs : Nat → Int32} (hL : L ≤ 2560) {i : Nat} (hi : i + 5 ≤ L) {s0 s1 s2 s3 s4 s5 s6 s7 s8 : zZ} {ks : List Int} (Q : Rel s0 s1 s2 s3 s4 s5 s6 s7 s8 ks) (next : ∀ (s0 s1 s2 s3 s4 s5 s6 s7 s8 : zZ) (ks : List Int), Rel s0 s1 s2 s3 s4 s5 s6 s7 s8 ks → LwP L xs 1517 i s0 s1 s2 s3 s4 s5 s6 s7 s8 ks) : LwP L xs 1192 i s0 s1 s2 s3 s4 s5 s6 s7 s8 ks := by
  obtain ⟨r, e1, e2, Q'⟩ := c_span Q (av_zr xs i 1) (av_zr xs i 2) (av_zr xs i 3)
  obtain ⟨hp', X, b1, b2⟩ := next s0 s1 s2 s3 s4 s5 s6 s7 s8 ks Q'
  refine ⟨hp', ?_, b1, b2⟩
  refine xB.run oL_law 1 (s := (1193, LwV i, [.ref 0], [zH s0 zL0 0, zH s1 zL1 0, zH s2 zL2 0, zH s3 zL3 0, zH s4 zL4 0, zH s5 zL5 0, zH s6 zL6 0, zH s7 zL7 0, zH s8 (zLb ks) 0, xr9 L xs])) (xNP_run hS20 1 rfl) ?_
  refine law_ld hL (k := 1) (by omega) hS20 (n4 := 1197) (kk := 1) rfl rfl rfl (by decide) rfl ?_
  show xBody ML_law 10 1198 (LwV i) [.int (zI (av xs i 1)), .ref 0] ([zH s0 zL0 0, zH s1 zL1 0, zH s2 zL2 0, zH s3 zL3 0, zH s4 zL4 0, zH s5 zL5 0, zH s6 zL6 0, zH s7 zL7 0, zH s8 (zLb ks) 0, xr9 L xs]) _ _
  refine law_ld hL (k := 2) (by omega) hS20 (n4 := 1202) (kk := 2) rfl rfl rfl (by decide) rfl ?_
  show xBody ML_law 10 1203 (LwV i) [.int (zI (av xs i 2)), .int (zI (av xs i 1)), .ref 0] ([zH s0 zL0 0, zH s1 zL1 0, zH s2 zL2 0, zH s3 zL3 0, zH s4 zL4 0, zH s5 zL5 0, zH s6 zL6 0, zH s7 zL7 0, zH s8 (zLb ks) 0, xr9 L xs]) _ _
  refine law_ld hL (k := 3) (by omega) hS20 (n4 := 1207) (kk := 3) rfl rfl rfl (by decide) rfl ?_
  show xBody ML_law 10 1208 (LwV i) [.int (zI (av xs i 3)), .int (zI (av xs i 2)), .int (zI (av xs i 1)), .ref 0] ([zH s0 zL0 0, zH s1 zL1 0, zH s2 zL2 0, zH s3 zL3 0, zH s4 zL4 0, zH s5 zL5 0, zH s6 zL6 0, zH s7 zL7 0, zH s8 (zLb ks) 0, xr9 L xs]) _ _
  refine xB.call oL_law (M2 := MX11_span) ((x1S hS20 (Nat.le_of_ble_eq_true rfl) _ _ _).trans rfl) rfl ((t_X11_span s0 (zH s1 zL1 0) (zH s2 zL2 0) (zH s3 zL3 0) (zH s4 zL4 0) s5 (zH s6 zL6 0) (zH s7 zL7 0) (zH s8 (zLb ks) 0) (xr9 L xs) (av xs i 1) (av xs i 2) (av xs i 3) e1).deep (by decide : 4 ≤ 9)) ?_
  show xBody ML_law 10 1211 (LwV i) [.long (zJ r)] ([zH s0 zL0 0, zH s1 zL1 0, zH s2 zL2 0, zH s3 zL3 0, zH s4 zL4 0, zH s5 zL5 0, zH s6 zL6 0, zH s7 zL7 0, zH s8 (zLb ks) 0, xr9 L xs]) _ _
  refine xB.run oL_law 1 (s := (1212, LwV i, [.ref 7168, .long (zJ r)], [zH s0 zL0 0, zH s1 zL1 0, zH s2 zL2 0, zH s3 zL3 0, zH s4 zL4 0, zH s5 zL5 0, zH s6 zL6 0, zH s7 zL7 0, zH s8 (zLb ks) 0, xr9 L xs])) (xNP_run hS20 1 rfl) ?_
  refine law_ld hL (k := 1) (by omega) hS20 (n4 := 1216) (kk := 1) rfl rfl rfl (by decide) rfl ?_
  show xBody ML_law 10 1217 (LwV i) [.int (zI (av xs i 1)), .ref 7168, .long (zJ r)] ([zH s0 zL0 0, zH s1 zL1 0, zH s2 zL2 0, zH s3 zL3 0, zH s4 zL4 0, zH s5 zL5 0, zH s6 zL6 0, zH s7 zL7 0, zH s8 (zLb ks) 0, xr9 L xs]) _ _
  refine law_ld hL (k := 2) (by omega) hS20 (n4 := 1221) (kk := 2) rfl rfl rfl (by decide) rfl ?_
  show xBody ML_law 10 1222 (LwV i) [.int (zI (av xs i 2)), .int (zI (av xs i 1)), .ref 7168, .long (zJ r)] ([zH s0 zL0 0, zH s1 zL1 0, zH s2 zL2 0, zH s3 zL3 0, zH s4 zL4 0, zH s5 zL5 0, zH s6 zL6 0, zH s7 zL7 0, zH s8 (zLb ks) 0, xr9 L xs]) _ _
  refine law_ld hL (k := 3) (by omega) hS20 (n4 := 1226) (kk := 3) rfl rfl rfl (by decide) rfl ?_
  show xBody ML_law 10 1227 (LwV i) [.int (zI (av xs i 3)), .int (zI (av xs i 2)), .int (zI (av xs i 1)), .ref 7168, .long (zJ r)] ([zH s0 zL0 0, zH s1 zL1 0, zH s2 zL2 0, zH s3 zL3 0, zH s4 zL4 0, zH s5 zL5 0, zH s6 zL6 0, zH s7 zL7 0, zH s8 (zLb ks) 0, xr9 L xs]) _ _
  refine xB.call oL_law (M2 := MX12_span) ((x1S hS20 (Nat.le_of_ble_eq_true rfl) _ _ _).trans rfl) rfl ((t_X12_span (zH s0 zL0 0) (zH s1 zL1 0) (zH s2 zL2 0) (zH s3 zL3 0) (zH s4 zL4 0) (zH s5 zL5 0) (zH s6 zL6 0) s7 (zH s8 (zLb ks) 0) (xr9 L xs) (av xs i 1) (av xs i 2) (av xs i 3) e2).deep (by decide : 3 ≤ 9)) ?_
  show xBody ML_law 10 1230 (LwV i) [.long (zJ r), .long (zJ r)] ([zH s0 zL0 0, zH s1 zL1 0, zH s2 zL2 0, zH s3 zL3 0, zH s4 zL4 0, zH s5 zL5 0, zH s6 zL6 0, zH s7 zL7 0, zH s8 (zLb ks) 0, xr9 L xs]) _ _
  refine xB.run oL_law 1 (s := (1231, LwV i, [.int (lg_cmp (zJ r) (zJ r))], [zH s0 zL0 0, zH s1 zL1 0, zH s2 zL2 0, zH s3 zL3 0, zH s4 zL4 0, zH s5 zL5 0, zH s6 zL6 0, zH s7 zL7 0, zH s8 (zLb ks) 0, xr9 L xs])) (xNP_run hS20 1 rfl) ?_
  exact xB.sameL oL_law ((x1S hS20 (Nat.le_of_ble_eq_true rfl) _ _ _).trans rfl) X
theorem l_sheet {L : Nat} {xs : Nat → Int32} (hL : L ≤ 2560) {i : Nat} (hi : i + 5 ≤ L) {s0 s1 s2 s3 s4 s5 s6 s7 s8 : zZ} {ks : List Int} (Q : Rel s0 s1 s2 s3 s4 s5 s6 s7 s8 ks) (next : ∀ (s0 s1 s2 s3 s4 s5 s6 s7 s8 : zZ) (ks : List Int), Rel s0 s1 s2 s3 s4 s5 s6 s7 s8 ks → LwP L xs 1517 i s0 s1 s2 s3 s4 s5 s6 s7 s8 ks) : LwP L xs 1236 i s0 s1 s2 s3 s4 s5 s6 s7 s8 ks := by
  obtain ⟨r, s0', s6', s7', e1, e2, Q'⟩ := c_sheet Q (av_zr xs i 1) (av_zr xs i 2) (av_zr xs i 3)
  obtain ⟨hp', X, b1, b2⟩ := next s0' s1 s2 s3 s4 s5 s6' s7' s8 ks Q'
  refine ⟨hp', ?_, b1, b2⟩
  refine xB.run oL_law 1 (s := (1237, LwV i, [.ref 0], [zH s0 zL0 0, zH s1 zL1 0, zH s2 zL2 0, zH s3 zL3 0, zH s4 zL4 0, zH s5 zL5 0, zH s6 zL6 0, zH s7 zL7 0, zH s8 (zLb ks) 0, xr9 L xs])) (xNP_run hS21 1 rfl) ?_
  refine law_ld hL (k := 1) (by omega) hS21 (n4 := 1241) (kk := 1) rfl rfl rfl (by decide) rfl ?_
  show xBody ML_law 10 1242 (LwV i) [.int (zI (av xs i 1)), .ref 0] ([zH s0 zL0 0, zH s1 zL1 0, zH s2 zL2 0, zH s3 zL3 0, zH s4 zL4 0, zH s5 zL5 0, zH s6 zL6 0, zH s7 zL7 0, zH s8 (zLb ks) 0, xr9 L xs]) _ _
  refine law_ld hL (k := 2) (by omega) hS21 (n4 := 1246) (kk := 2) rfl rfl rfl (by decide) rfl ?_
  show xBody ML_law 10 1247 (LwV i) [.int (zI (av xs i 2)), .int (zI (av xs i 1)), .ref 0] ([zH s0 zL0 0, zH s1 zL1 0, zH s2 zL2 0, zH s3 zL3 0, zH s4 zL4 0, zH s5 zL5 0, zH s6 zL6 0, zH s7 zL7 0, zH s8 (zLb ks) 0, xr9 L xs]) _ _
  refine law_ld hL (k := 3) (by omega) hS21 (n4 := 1251) (kk := 3) rfl rfl rfl (by decide) rfl ?_
  show xBody ML_law 10 1252 (LwV i) [.int (zI (av xs i 3)), .int (zI (av xs i 2)), .int (zI (av xs i 1)), .ref 0] ([zH s0 zL0 0, zH s1 zL1 0, zH s2 zL2 0, zH s3 zL3 0, zH s4 zL4 0, zH s5 zL5 0, zH s6 zL6 0, zH s7 zL7 0, zH s8 (zLb ks) 0, xr9 L xs]) _ _
  refine xB.call oL_law (M2 := MX11_sheet) ((x1S hS21 (Nat.le_of_ble_eq_true rfl) _ _ _).trans rfl) rfl ((t_X11_sheet s0 (zH s1 zL1 0) (zH s2 zL2 0) (zH s3 zL3 0) (zH s4 zL4 0) (zH s5 zL5 0) s6 (zH s7 zL7 0) (zH s8 (zLb ks) 0) (xr9 L xs) (av xs i 1) (av xs i 2) (av xs i 3) e1).deep (by decide : 2 ≤ 9)) ?_
  show xBody ML_law 10 1255 (LwV i) [.int (zI r)] ([zH s0' zL0 0, zH s1 zL1 0, zH s2 zL2 0, zH s3 zL3 0, zH s4 zL4 0, zH s5 zL5 0, zH s6' zL6 0, zH s7 zL7 0, zH s8 (zLb ks) 0, xr9 L xs]) _ _
  refine xB.run oL_law 1 (s := (1256, LwV i, [.ref 7168, .int (zI r)], [zH s0' zL0 0, zH s1 zL1 0, zH s2 zL2 0, zH s3 zL3 0, zH s4 zL4 0, zH s5 zL5 0, zH s6' zL6 0, zH s7 zL7 0, zH s8 (zLb ks) 0, xr9 L xs])) (xNP_run hS21 1 rfl) ?_
  refine law_ld hL (k := 1) (by omega) hS21 (n4 := 1260) (kk := 1) rfl rfl rfl (by decide) rfl ?_
  show xBody ML_law 10 1261 (LwV i) [.int (zI (av xs i 1)), .ref 7168, .int (zI r)] ([zH s0' zL0 0, zH s1 zL1 0, zH s2 zL2 0, zH s3 zL3 0, zH s4 zL4 0, zH s5 zL5 0, zH s6' zL6 0, zH s7 zL7 0, zH s8 (zLb ks) 0, xr9 L xs]) _ _
  refine law_ld hL (k := 2) (by omega) hS21 (n4 := 1265) (kk := 2) rfl rfl rfl (by decide) rfl ?_
  show xBody ML_law 10 1266 (LwV i) [.int (zI (av xs i 2)), .int (zI (av xs i 1)), .ref 7168, .int (zI r)] ([zH s0' zL0 0, zH s1 zL1 0, zH s2 zL2 0, zH s3 zL3 0, zH s4 zL4 0, zH s5 zL5 0, zH s6' zL6 0, zH s7 zL7 0, zH s8 (zLb ks) 0, xr9 L xs]) _ _
  refine law_ld hL (k := 3) (by omega) hS21 (n4 := 1270) (kk := 3) rfl rfl rfl (by decide) rfl ?_
  show xBody ML_law 10 1271 (LwV i) [.int (zI (av xs i 3)), .int (zI (av xs i 2)), .int (zI (av xs i 1)), .ref 7168, .int (zI r)] ([zH s0' zL0 0, zH s1 zL1 0, zH s2 zL2 0, zH s3 zL3 0, zH s4 zL4 0, zH s5 zL5 0, zH s6' zL6 0, zH s7 zL7 0, zH s8 (zLb ks) 0, xr9 L xs]) _ _
  refine xB.call oL_law (M2 := MX12_sheet) ((x1S hS21 (Nat.le_of_ble_eq_true rfl) _ _ _).trans rfl) rfl ((t_X12_sheet (zH s0' zL0 0) (zH s1 zL1 0) (zH s2 zL2 0) (zH s3 zL3 0) (zH s4 zL4 0) (zH s5 zL5 0) (zH s6' zL6 0) s7 (zH s8 (zLb ks) 0) (xr9 L xs) (av xs i 1) (av xs i 2) (av xs i 3) e2).deep (by decide : 2 ≤ 9)) ?_
  show xBody ML_law 10 1274 (LwV i) [.int (zI r), .int (zI r)] ([zH s0' zL0 0, zH s1 zL1 0, zH s2 zL2 0, zH s3 zL3 0, zH s4 zL4 0, zH s5 zL5 0, zH s6' zL6 0, zH s7' zL7 0, zH s8 (zLb ks) 0, xr9 L xs]) _ _
  exact xB.same oL_law ((x1S hS21 (Nat.le_of_ble_eq_true rfl) _ _ _).trans rfl) X
theorem l_lose {L : Nat} {xs : Nat → Int32} (hL : L ≤ 2560) {i : Nat} (hi : i + 5 ≤ L) {s0 s1 s2 s3 s4 s5 s6 s7 s8 : zZ} {ks : List Int} (Q : Rel s0 s1 s2 s3 s4 s5 s6 s7 s8 ks) (next : ∀ (s0 s1 s2 s3 s4 s5 s6 s7 s8 : zZ) (ks : List Int), Rel s0 s1 s2 s3 s4 s5 s6 s7 s8 ks → LwP L xs 1517 i s0 s1 s2 s3 s4 s5 s6 s7 s8 ks) : LwP L xs 1279 i s0 s1 s2 s3 s4 s5 s6 s7 s8 ks := by
  obtain ⟨r, s6', s7', e1, e2, Q'⟩ := c_lose Q (av_zr xs i 1)
  obtain ⟨hp', X, b1, b2⟩ := next s0 s1 s2 s3 s4 s5 s6' s7' s8 ks Q'
  refine ⟨hp', ?_, b1, b2⟩
  refine xB.run oL_law 1 (s := (1280, LwV i, [.ref 0], [zH s0 zL0 0, zH s1 zL1 0, zH s2 zL2 0, zH s3 zL3 0, zH s4 zL4 0, zH s5 zL5 0, zH s6 zL6 0, zH s7 zL7 0, zH s8 (zLb ks) 0, xr9 L xs])) (xNP_run hS22 1 rfl) ?_
  refine law_ld hL (k := 1) (by omega) hS22 (n4 := 1284) (kk := 1) rfl rfl rfl (by decide) rfl ?_
  show xBody ML_law 10 1285 (LwV i) [.int (zI (av xs i 1)), .ref 0] ([zH s0 zL0 0, zH s1 zL1 0, zH s2 zL2 0, zH s3 zL3 0, zH s4 zL4 0, zH s5 zL5 0, zH s6 zL6 0, zH s7 zL7 0, zH s8 (zLb ks) 0, xr9 L xs]) _ _
  refine xB.call oL_law (M2 := MX11_lose) ((x1S hS22 (Nat.le_of_ble_eq_true rfl) _ _ _).trans rfl) rfl ((t_X11_lose s0 (zH s1 zL1 0) (zH s2 zL2 0) (zH s3 zL3 0) (zH s4 zL4 0) (zH s5 zL5 0) s6 (zH s7 zL7 0) (zH s8 (zLb ks) 0) (xr9 L xs) (av xs i 1) e1).deep (by decide : 2 ≤ 9)) ?_
  show xBody ML_law 10 1288 (LwV i) [.int (zI r)] ([zH s0 zL0 0, zH s1 zL1 0, zH s2 zL2 0, zH s3 zL3 0, zH s4 zL4 0, zH s5 zL5 0, zH s6' zL6 0, zH s7 zL7 0, zH s8 (zLb ks) 0, xr9 L xs]) _ _
  refine xB.run oL_law 1 (s := (1289, LwV i, [.ref 7168, .int (zI r)], [zH s0 zL0 0, zH s1 zL1 0, zH s2 zL2 0, zH s3 zL3 0, zH s4 zL4 0, zH s5 zL5 0, zH s6' zL6 0, zH s7 zL7 0, zH s8 (zLb ks) 0, xr9 L xs])) (xNP_run hS22 1 rfl) ?_
  refine law_ld hL (k := 1) (by omega) hS22 (n4 := 1293) (kk := 1) rfl rfl rfl (by decide) rfl ?_
  show xBody ML_law 10 1294 (LwV i) [.int (zI (av xs i 1)), .ref 7168, .int (zI r)] ([zH s0 zL0 0, zH s1 zL1 0, zH s2 zL2 0, zH s3 zL3 0, zH s4 zL4 0, zH s5 zL5 0, zH s6' zL6 0, zH s7 zL7 0, zH s8 (zLb ks) 0, xr9 L xs]) _ _
  refine xB.call oL_law (M2 := MX12_lose) ((x1S hS22 (Nat.le_of_ble_eq_true rfl) _ _ _).trans rfl) rfl ((t_X12_lose (zH s0 zL0 0) (zH s1 zL1 0) (zH s2 zL2 0) (zH s3 zL3 0) (zH s4 zL4 0) (zH s5 zL5 0) (zH s6' zL6 0) s7 (zH s8 (zLb ks) 0) (xr9 L xs) (av xs i 1) e2).deep (by decide : 2 ≤ 9)) ?_
  show xBody ML_law 10 1297 (LwV i) [.int (zI r), .int (zI r)] ([zH s0 zL0 0, zH s1 zL1 0, zH s2 zL2 0, zH s3 zL3 0, zH s4 zL4 0, zH s5 zL5 0, zH s6' zL6 0, zH s7' zL7 0, zH s8 (zLb ks) 0, xr9 L xs]) _ _
  exact xB.same oL_law ((x1S hS22 (Nat.le_of_ble_eq_true rfl) _ _ _).trans rfl) X
theorem l_put {L : Nat} {xs : Nat → Int32} (hL : L ≤ 2560) {i : Nat} (hi : i + 5 ≤ L) {s0 s1 s2 s3 s4 s5 s6 s7 s8 : zZ} {ks : List Int} (Q : Rel s0 s1 s2 s3 s4 s5 s6 s7 s8 ks) (next : ∀ (s0 s1 s2 s3 s4 s5 s6 s7 s8 : zZ) (ks : List Int), Rel s0 s1 s2 s3 s4 s5 s6 s7 s8 ks → LwP L xs 1517 i s0 s1 s2 s3 s4 s5 s6 s7 s8 ks) : LwP L xs 1302 i s0 s1 s2 s3 s4 s5 s6 s7 s8 ks := by
  obtain ⟨r, s0', s6', s7', e1, e2, Q'⟩ := c_put Q (av_zr xs i 1) (av_zr xs i 2) (av_zr xs i 3)
  obtain ⟨hp', X, b1, b2⟩ := next s0' s1 s2 s3 s4 s5 s6' s7' s8 ks Q'
  refine ⟨hp', ?_, b1, b2⟩
  refine xB.run oL_law 1 (s := (1303, LwV i, [.ref 0], [zH s0 zL0 0, zH s1 zL1 0, zH s2 zL2 0, zH s3 zL3 0, zH s4 zL4 0, zH s5 zL5 0, zH s6 zL6 0, zH s7 zL7 0, zH s8 (zLb ks) 0, xr9 L xs])) (xNP_run hS22 1 rfl) ?_
  refine law_ld hL (k := 1) (by omega) hS22 (n4 := 1307) (kk := 1) rfl rfl rfl (by decide) rfl ?_
  show xBody ML_law 10 1308 (LwV i) [.int (zI (av xs i 1)), .ref 0] ([zH s0 zL0 0, zH s1 zL1 0, zH s2 zL2 0, zH s3 zL3 0, zH s4 zL4 0, zH s5 zL5 0, zH s6 zL6 0, zH s7 zL7 0, zH s8 (zLb ks) 0, xr9 L xs]) _ _
  refine law_ld hL (k := 2) (by omega) hS22 (n4 := 1312) (kk := 2) rfl rfl rfl (by decide) rfl ?_
  show xBody ML_law 10 1313 (LwV i) [.int (zI (av xs i 2)), .int (zI (av xs i 1)), .ref 0] ([zH s0 zL0 0, zH s1 zL1 0, zH s2 zL2 0, zH s3 zL3 0, zH s4 zL4 0, zH s5 zL5 0, zH s6 zL6 0, zH s7 zL7 0, zH s8 (zLb ks) 0, xr9 L xs]) _ _
  refine law_ld hL (k := 3) (by omega) hS22 (n4 := 1317) (kk := 3) rfl rfl rfl (by decide) rfl ?_
  show xBody ML_law 10 1318 (LwV i) [.int (zI (av xs i 3)), .int (zI (av xs i 2)), .int (zI (av xs i 1)), .ref 0] ([zH s0 zL0 0, zH s1 zL1 0, zH s2 zL2 0, zH s3 zL3 0, zH s4 zL4 0, zH s5 zL5 0, zH s6 zL6 0, zH s7 zL7 0, zH s8 (zLb ks) 0, xr9 L xs]) _ _
  refine xB.call oL_law (M2 := MX11_put) ((x1S hS22 (Nat.le_of_ble_eq_true rfl) _ _ _).trans rfl) rfl ((t_X11_put s0 (zH s1 zL1 0) (zH s2 zL2 0) (zH s3 zL3 0) (zH s4 zL4 0) (zH s5 zL5 0) s6 (zH s7 zL7 0) (zH s8 (zLb ks) 0) (xr9 L xs) (av xs i 1) (av xs i 2) (av xs i 3) e1).deep (by decide : 3 ≤ 9)) ?_
  show xBody ML_law 10 1321 (LwV i) [.int (zI r)] ([zH s0' zL0 0, zH s1 zL1 0, zH s2 zL2 0, zH s3 zL3 0, zH s4 zL4 0, zH s5 zL5 0, zH s6' zL6 0, zH s7 zL7 0, zH s8 (zLb ks) 0, xr9 L xs]) _ _
  refine xB.run oL_law 1 (s := (1322, LwV i, [.ref 7168, .int (zI r)], [zH s0' zL0 0, zH s1 zL1 0, zH s2 zL2 0, zH s3 zL3 0, zH s4 zL4 0, zH s5 zL5 0, zH s6' zL6 0, zH s7 zL7 0, zH s8 (zLb ks) 0, xr9 L xs])) (xNP_run hS22 1 rfl) ?_
  refine law_ld hL (k := 1) (by omega) hS22 (n4 := 1326) (kk := 1) rfl rfl rfl (by decide) rfl ?_
  show xBody ML_law 10 1327 (LwV i) [.int (zI (av xs i 1)), .ref 7168, .int (zI r)] ([zH s0' zL0 0, zH s1 zL1 0, zH s2 zL2 0, zH s3 zL3 0, zH s4 zL4 0, zH s5 zL5 0, zH s6' zL6 0, zH s7 zL7 0, zH s8 (zLb ks) 0, xr9 L xs]) _ _
  refine law_ld hL (k := 2) (by omega) hS22 (n4 := 1331) (kk := 2) rfl rfl rfl (by decide) rfl ?_
  show xBody ML_law 10 1332 (LwV i) [.int (zI (av xs i 2)), .int (zI (av xs i 1)), .ref 7168, .int (zI r)] ([zH s0' zL0 0, zH s1 zL1 0, zH s2 zL2 0, zH s3 zL3 0, zH s4 zL4 0, zH s5 zL5 0, zH s6' zL6 0, zH s7 zL7 0, zH s8 (zLb ks) 0, xr9 L xs]) _ _
  refine law_ld hL (k := 3) (by omega) hS22 (n4 := 1336) (kk := 3) rfl rfl rfl (by decide) rfl ?_
  show xBody ML_law 10 1337 (LwV i) [.int (zI (av xs i 3)), .int (zI (av xs i 2)), .int (zI (av xs i 1)), .ref 7168, .int (zI r)] ([zH s0' zL0 0, zH s1 zL1 0, zH s2 zL2 0, zH s3 zL3 0, zH s4 zL4 0, zH s5 zL5 0, zH s6' zL6 0, zH s7 zL7 0, zH s8 (zLb ks) 0, xr9 L xs]) _ _
  refine xB.call oL_law (M2 := MX12_put) ((x1S hS22 (Nat.le_of_ble_eq_true rfl) _ _ _).trans rfl) rfl ((t_X12_put (zH s0' zL0 0) (zH s1 zL1 0) (zH s2 zL2 0) (zH s3 zL3 0) (zH s4 zL4 0) (zH s5 zL5 0) (zH s6' zL6 0) s7 (zH s8 (zLb ks) 0) (xr9 L xs) (av xs i 1) (av xs i 2) (av xs i 3) e2).deep (by decide : 2 ≤ 9)) ?_
  show xBody ML_law 10 1340 (LwV i) [.int (zI r), .int (zI r)] ([zH s0' zL0 0, zH s1 zL1 0, zH s2 zL2 0, zH s3 zL3 0, zH s4 zL4 0, zH s5 zL5 0, zH s6' zL6 0, zH s7' zL7 0, zH s8 (zLb ks) 0, xr9 L xs]) _ _
  exact xB.same oL_law ((x1S hS22 (Nat.le_of_ble_eq_true rfl) _ _ _).trans rfl) X
theorem l_cell {L : Nat} {xs : Nat → Int32} (hL : L ≤ 2560) {i : Nat} (hi : i + 5 ≤ L) {s0 s1 s2 s3 s4 s5 s6 s7 s8 : zZ} {ks : List Int} (Q : Rel s0 s1 s2 s3 s4 s5 s6 s7 s8 ks) (next : ∀ (s0 s1 s2 s3 s4 s5 s6 s7 s8 : zZ) (ks : List Int), Rel s0 s1 s2 s3 s4 s5 s6 s7 s8 ks → LwP L xs 1517 i s0 s1 s2 s3 s4 s5 s6 s7 s8 ks) : LwP L xs 1345 i s0 s1 s2 s3 s4 s5 s6 s7 s8 ks := by
  obtain ⟨r, s0', s7', e1, e2, Q'⟩ := c_cell Q (av_zr xs i 1) (av_zr xs i 2) (av_zr xs i 3)
  obtain ⟨hp', X, b1, b2⟩ := next s0' s1 s2 s3 s4 s5 s6 s7' s8 ks Q'
  refine ⟨hp', ?_, b1, b2⟩
  refine xB.run oL_law 1 (s := (1346, LwV i, [.ref 0], [zH s0 zL0 0, zH s1 zL1 0, zH s2 zL2 0, zH s3 zL3 0, zH s4 zL4 0, zH s5 zL5 0, zH s6 zL6 0, zH s7 zL7 0, zH s8 (zLb ks) 0, xr9 L xs])) (xNP_run hS23 1 rfl) ?_
  refine law_ld hL (k := 1) (by omega) hS23 (n4 := 1350) (kk := 1) rfl rfl rfl (by decide) rfl ?_
  show xBody ML_law 10 1351 (LwV i) [.int (zI (av xs i 1)), .ref 0] ([zH s0 zL0 0, zH s1 zL1 0, zH s2 zL2 0, zH s3 zL3 0, zH s4 zL4 0, zH s5 zL5 0, zH s6 zL6 0, zH s7 zL7 0, zH s8 (zLb ks) 0, xr9 L xs]) _ _
  refine law_ld hL (k := 2) (by omega) hS23 (n4 := 1355) (kk := 2) rfl rfl rfl (by decide) rfl ?_
  show xBody ML_law 10 1356 (LwV i) [.int (zI (av xs i 2)), .int (zI (av xs i 1)), .ref 0] ([zH s0 zL0 0, zH s1 zL1 0, zH s2 zL2 0, zH s3 zL3 0, zH s4 zL4 0, zH s5 zL5 0, zH s6 zL6 0, zH s7 zL7 0, zH s8 (zLb ks) 0, xr9 L xs]) _ _
  refine law_ld hL (k := 3) (by omega) hS23 (n4 := 1360) (kk := 3) rfl rfl rfl (by decide) rfl ?_
  show xBody ML_law 10 1361 (LwV i) [.int (zI (av xs i 3)), .int (zI (av xs i 2)), .int (zI (av xs i 1)), .ref 0] ([zH s0 zL0 0, zH s1 zL1 0, zH s2 zL2 0, zH s3 zL3 0, zH s4 zL4 0, zH s5 zL5 0, zH s6 zL6 0, zH s7 zL7 0, zH s8 (zLb ks) 0, xr9 L xs]) _ _
  refine xB.call oL_law (M2 := MX11_cell) ((x1S hS23 (Nat.le_of_ble_eq_true rfl) _ _ _).trans rfl) rfl ((t_X11_cell s0 (zH s1 zL1 0) (zH s2 zL2 0) (zH s3 zL3 0) (zH s4 zL4 0) (zH s5 zL5 0) s6 (zH s7 zL7 0) (zH s8 (zLb ks) 0) (xr9 L xs) (av xs i 1) (av xs i 2) (av xs i 3) e1).deep (by decide : 3 ≤ 9)) ?_
  show xBody ML_law 10 1364 (LwV i) [.long (zJ r)] ([zH s0' zL0 0, zH s1 zL1 0, zH s2 zL2 0, zH s3 zL3 0, zH s4 zL4 0, zH s5 zL5 0, zH s6 zL6 0, zH s7 zL7 0, zH s8 (zLb ks) 0, xr9 L xs]) _ _
  refine xB.run oL_law 1 (s := (1365, LwV i, [.ref 7168, .long (zJ r)], [zH s0' zL0 0, zH s1 zL1 0, zH s2 zL2 0, zH s3 zL3 0, zH s4 zL4 0, zH s5 zL5 0, zH s6 zL6 0, zH s7 zL7 0, zH s8 (zLb ks) 0, xr9 L xs])) (xNP_run hS23 1 rfl) ?_
  refine law_ld hL (k := 1) (by omega) hS23 (n4 := 1369) (kk := 1) rfl rfl rfl (by decide) rfl ?_
  show xBody ML_law 10 1370 (LwV i) [.int (zI (av xs i 1)), .ref 7168, .long (zJ r)] ([zH s0' zL0 0, zH s1 zL1 0, zH s2 zL2 0, zH s3 zL3 0, zH s4 zL4 0, zH s5 zL5 0, zH s6 zL6 0, zH s7 zL7 0, zH s8 (zLb ks) 0, xr9 L xs]) _ _
  refine law_ld hL (k := 2) (by omega) hS23 (n4 := 1374) (kk := 2) rfl rfl rfl (by decide) rfl ?_
  show xBody ML_law 10 1375 (LwV i) [.int (zI (av xs i 2)), .int (zI (av xs i 1)), .ref 7168, .long (zJ r)] ([zH s0' zL0 0, zH s1 zL1 0, zH s2 zL2 0, zH s3 zL3 0, zH s4 zL4 0, zH s5 zL5 0, zH s6 zL6 0, zH s7 zL7 0, zH s8 (zLb ks) 0, xr9 L xs]) _ _
  refine law_ld hL (k := 3) (by omega) hS23 (n4 := 1379) (kk := 3) rfl rfl rfl (by decide) rfl ?_
  show xBody ML_law 10 1380 (LwV i) [.int (zI (av xs i 3)), .int (zI (av xs i 2)), .int (zI (av xs i 1)), .ref 7168, .long (zJ r)] ([zH s0' zL0 0, zH s1 zL1 0, zH s2 zL2 0, zH s3 zL3 0, zH s4 zL4 0, zH s5 zL5 0, zH s6 zL6 0, zH s7 zL7 0, zH s8 (zLb ks) 0, xr9 L xs]) _ _
  refine xB.call oL_law (M2 := MX12_cell) ((x1S hS23 (Nat.le_of_ble_eq_true rfl) _ _ _).trans rfl) rfl ((t_X12_cell (zH s0' zL0 0) (zH s1 zL1 0) (zH s2 zL2 0) (zH s3 zL3 0) (zH s4 zL4 0) (zH s5 zL5 0) (zH s6 zL6 0) s7 (zH s8 (zLb ks) 0) (xr9 L xs) (av xs i 1) (av xs i 2) (av xs i 3) e2).deep (by decide : 2 ≤ 9)) ?_
  show xBody ML_law 10 1383 (LwV i) [.long (zJ r), .long (zJ r)] ([zH s0' zL0 0, zH s1 zL1 0, zH s2 zL2 0, zH s3 zL3 0, zH s4 zL4 0, zH s5 zL5 0, zH s6 zL6 0, zH s7' zL7 0, zH s8 (zLb ks) 0, xr9 L xs]) _ _
  refine xB.run oL_law 1 (s := (1384, LwV i, [.int (lg_cmp (zJ r) (zJ r))], [zH s0' zL0 0, zH s1 zL1 0, zH s2 zL2 0, zH s3 zL3 0, zH s4 zL4 0, zH s5 zL5 0, zH s6 zL6 0, zH s7' zL7 0, zH s8 (zLb ks) 0, xr9 L xs])) (xNP_run hS23 1 rfl) ?_
  exact xB.sameL oL_law ((x1S hS23 (Nat.le_of_ble_eq_true rfl) _ _ _).trans rfl) X
theorem l_tell {L : Nat} {xs : Nat → Int32} (hL : L ≤ 2560) {i : Nat} (hi : i + 5 ≤ L) {s0 s1 s2 s3 s4 s5 s6 s7 s8 : zZ} {ks : List Int} (Q : Rel s0 s1 s2 s3 s4 s5 s6 s7 s8 ks) (next : ∀ (s0 s1 s2 s3 s4 s5 s6 s7 s8 : zZ) (ks : List Int), Rel s0 s1 s2 s3 s4 s5 s6 s7 s8 ks → LwP L xs 1517 i s0 s1 s2 s3 s4 s5 s6 s7 s8 ks) : LwP L xs 1389 i s0 s1 s2 s3 s4 s5 s6 s7 s8 ks := by
  obtain ⟨r, s3', s7', e1, e2, Q'⟩ := c_tell Q (av_zr xs i 1)
  obtain ⟨hp', X, b1, b2⟩ := next s0 s1 s2 s3' s4 s5 s6 s7' s8 ks Q'
  refine ⟨hp', ?_, b1, b2⟩
  refine xB.run oL_law 1 (s := (1390, LwV i, [.ref 0], [zH s0 zL0 0, zH s1 zL1 0, zH s2 zL2 0, zH s3 zL3 0, zH s4 zL4 0, zH s5 zL5 0, zH s6 zL6 0, zH s7 zL7 0, zH s8 (zLb ks) 0, xr9 L xs])) (xNP_run hS24 1 rfl) ?_
  refine law_ld hL (k := 1) (by omega) hS24 (n4 := 1394) (kk := 1) rfl rfl rfl (by decide) rfl ?_
  show xBody ML_law 10 1395 (LwV i) [.int (zI (av xs i 1)), .ref 0] ([zH s0 zL0 0, zH s1 zL1 0, zH s2 zL2 0, zH s3 zL3 0, zH s4 zL4 0, zH s5 zL5 0, zH s6 zL6 0, zH s7 zL7 0, zH s8 (zLb ks) 0, xr9 L xs]) _ _
  refine xB.call oL_law (M2 := MX11_tell) ((x1S hS24 (Nat.le_of_ble_eq_true rfl) _ _ _).trans rfl) rfl ((t_X11_tell s0 (zH s1 zL1 0) (zH s2 zL2 0) s3 (zH s4 zL4 0) (zH s5 zL5 0) (zH s6 zL6 0) (zH s7 zL7 0) s8 (xr9 L xs) ks (av xs i 1) e1).deep (by decide : 4 ≤ 9)) ?_
  show xBody ML_law 10 1398 (LwV i) [.int (zI r)] ([zH s0 zL0 0, zH s1 zL1 0, zH s2 zL2 0, zH s3' zL3 0, zH s4 zL4 0, zH s5 zL5 0, zH s6 zL6 0, zH s7 zL7 0, zH s8 (zLb ks) 0, xr9 L xs]) _ _
  refine xB.run oL_law 1 (s := (1399, LwV i, [.ref 7168, .int (zI r)], [zH s0 zL0 0, zH s1 zL1 0, zH s2 zL2 0, zH s3' zL3 0, zH s4 zL4 0, zH s5 zL5 0, zH s6 zL6 0, zH s7 zL7 0, zH s8 (zLb ks) 0, xr9 L xs])) (xNP_run hS24 1 rfl) ?_
  refine law_ld hL (k := 1) (by omega) hS24 (n4 := 1403) (kk := 1) rfl rfl rfl (by decide) rfl ?_
  show xBody ML_law 10 1404 (LwV i) [.int (zI (av xs i 1)), .ref 7168, .int (zI r)] ([zH s0 zL0 0, zH s1 zL1 0, zH s2 zL2 0, zH s3' zL3 0, zH s4 zL4 0, zH s5 zL5 0, zH s6 zL6 0, zH s7 zL7 0, zH s8 (zLb ks) 0, xr9 L xs]) _ _
  refine xB.call oL_law (M2 := MX12_tell) ((x1S hS24 (Nat.le_of_ble_eq_true rfl) _ _ _).trans rfl) rfl ((t_X12_tell (zH s0 zL0 0) (zH s1 zL1 0) (zH s2 zL2 0) (zH s3' zL3 0) (zH s4 zL4 0) (zH s5 zL5 0) (zH s6 zL6 0) s7 (zH s8 (zLb ks) 0) (xr9 L xs) (av xs i 1) e2).deep (by decide : 1 ≤ 9)) ?_
  show xBody ML_law 10 1407 (LwV i) [.int (zI r), .int (zI r)] ([zH s0 zL0 0, zH s1 zL1 0, zH s2 zL2 0, zH s3' zL3 0, zH s4 zL4 0, zH s5 zL5 0, zH s6 zL6 0, zH s7' zL7 0, zH s8 (zLb ks) 0, xr9 L xs]) _ _
  exact xB.same oL_law ((x1S hS24 (Nat.le_of_ble_eq_true rfl) _ _ _).trans rfl) X
theorem l_sign {L : Nat} {xs : Nat → Int32} (hL : L ≤ 2560) {i : Nat} (hi : i + 5 ≤ L) {s0 s1 s2 s3 s4 s5 s6 s7 s8 : zZ} {ks : List Int} (Q : Rel s0 s1 s2 s3 s4 s5 s6 s7 s8 ks) (next : ∀ (s0 s1 s2 s3 s4 s5 s6 s7 s8 : zZ) (ks : List Int), Rel s0 s1 s2 s3 s4 s5 s6 s7 s8 ks → LwP L xs 1517 i s0 s1 s2 s3 s4 s5 s6 s7 s8 ks) : LwP L xs 1412 i s0 s1 s2 s3 s4 s5 s6 s7 s8 ks := by
  obtain ⟨r, s3', s7', e1, e2, Q'⟩ := c_sign Q (av_zr xs i 1)
  obtain ⟨hp', X, b1, b2⟩ := next s0 s1 s2 s3' s4 s5 s6 s7' s8 ks Q'
  refine ⟨hp', ?_, b1, b2⟩
  refine xB.run oL_law 1 (s := (1413, LwV i, [.ref 0], [zH s0 zL0 0, zH s1 zL1 0, zH s2 zL2 0, zH s3 zL3 0, zH s4 zL4 0, zH s5 zL5 0, zH s6 zL6 0, zH s7 zL7 0, zH s8 (zLb ks) 0, xr9 L xs])) (xNP_run hS25 1 rfl) ?_
  refine law_ld hL (k := 1) (by omega) hS25 (n4 := 1417) (kk := 1) rfl rfl rfl (by decide) rfl ?_
  show xBody ML_law 10 1418 (LwV i) [.int (zI (av xs i 1)), .ref 0] ([zH s0 zL0 0, zH s1 zL1 0, zH s2 zL2 0, zH s3 zL3 0, zH s4 zL4 0, zH s5 zL5 0, zH s6 zL6 0, zH s7 zL7 0, zH s8 (zLb ks) 0, xr9 L xs]) _ _
  refine xB.call oL_law (M2 := MX11_sign) ((x1S hS25 (Nat.le_of_ble_eq_true rfl) _ _ _).trans rfl) rfl ((t_X11_sign s0 (zH s1 zL1 0) (zH s2 zL2 0) s3 (zH s4 zL4 0) (zH s5 zL5 0) (zH s6 zL6 0) (zH s7 zL7 0) s8 (xr9 L xs) ks (av xs i 1) e1).deep (by decide : 2 ≤ 9)) ?_
  show xBody ML_law 10 1421 (LwV i) [.int (zI r)] ([zH s0 zL0 0, zH s1 zL1 0, zH s2 zL2 0, zH s3' zL3 0, zH s4 zL4 0, zH s5 zL5 0, zH s6 zL6 0, zH s7 zL7 0, zH s8 (zLb ks) 0, xr9 L xs]) _ _
  refine xB.run oL_law 1 (s := (1422, LwV i, [.ref 7168, .int (zI r)], [zH s0 zL0 0, zH s1 zL1 0, zH s2 zL2 0, zH s3' zL3 0, zH s4 zL4 0, zH s5 zL5 0, zH s6 zL6 0, zH s7 zL7 0, zH s8 (zLb ks) 0, xr9 L xs])) (xNP_run hS25 1 rfl) ?_
  refine law_ld hL (k := 1) (by omega) hS25 (n4 := 1426) (kk := 1) rfl rfl rfl (by decide) rfl ?_
  show xBody ML_law 10 1427 (LwV i) [.int (zI (av xs i 1)), .ref 7168, .int (zI r)] ([zH s0 zL0 0, zH s1 zL1 0, zH s2 zL2 0, zH s3' zL3 0, zH s4 zL4 0, zH s5 zL5 0, zH s6 zL6 0, zH s7 zL7 0, zH s8 (zLb ks) 0, xr9 L xs]) _ _
  refine xB.call oL_law (M2 := MX12_sign) ((x1S hS25 (Nat.le_of_ble_eq_true rfl) _ _ _).trans rfl) rfl ((t_X12_sign (zH s0 zL0 0) (zH s1 zL1 0) (zH s2 zL2 0) (zH s3' zL3 0) (zH s4 zL4 0) (zH s5 zL5 0) (zH s6 zL6 0) s7 (zH s8 (zLb ks) 0) (xr9 L xs) (av xs i 1) e2).deep (by decide : 1 ≤ 9)) ?_
  show xBody ML_law 10 1430 (LwV i) [.int (zI r), .int (zI r)] ([zH s0 zL0 0, zH s1 zL1 0, zH s2 zL2 0, zH s3' zL3 0, zH s4 zL4 0, zH s5 zL5 0, zH s6 zL6 0, zH s7' zL7 0, zH s8 (zLb ks) 0, xr9 L xs]) _ _
  exact xB.same oL_law ((x1S hS25 (Nat.le_of_ble_eq_true rfl) _ _ _).trans rfl) X
theorem l_as {L : Nat} {xs : Nat → Int32} (hL : L ≤ 2560) {i : Nat} (hi : i + 5 ≤ L) {s0 s1 s2 s3 s4 s5 s6 s7 s8 : zZ} {ks : List Int} (Q : Rel s0 s1 s2 s3 s4 s5 s6 s7 s8 ks) (next : ∀ (s0 s1 s2 s3 s4 s5 s6 s7 s8 : zZ) (ks : List Int), Rel s0 s1 s2 s3 s4 s5 s6 s7 s8 ks → LwP L xs 1517 i s0 s1 s2 s3 s4 s5 s6 s7 s8 ks) : LwP L xs 1435 i s0 s1 s2 s3 s4 s5 s6 s7 s8 ks := by
  obtain ⟨r, s0', s7', e1, e2, Q'⟩ := c_as Q (av_zr xs i 1) (av_zr xs i 2)
  obtain ⟨hp', X, b1, b2⟩ := next s0' s1 s2 s3 s4 s5 s6 s7' s8 ks Q'
  refine ⟨hp', ?_, b1, b2⟩
  refine xB.run oL_law 1 (s := (1436, LwV i, [.ref 0], [zH s0 zL0 0, zH s1 zL1 0, zH s2 zL2 0, zH s3 zL3 0, zH s4 zL4 0, zH s5 zL5 0, zH s6 zL6 0, zH s7 zL7 0, zH s8 (zLb ks) 0, xr9 L xs])) (xNP_run hS25 1 rfl) ?_
  refine law_ld hL (k := 1) (by omega) hS25 (n4 := 1440) (kk := 1) rfl rfl rfl (by decide) rfl ?_
  show xBody ML_law 10 1441 (LwV i) [.int (zI (av xs i 1)), .ref 0] ([zH s0 zL0 0, zH s1 zL1 0, zH s2 zL2 0, zH s3 zL3 0, zH s4 zL4 0, zH s5 zL5 0, zH s6 zL6 0, zH s7 zL7 0, zH s8 (zLb ks) 0, xr9 L xs]) _ _
  refine law_ld hL (k := 2) (by omega) hS25 (n4 := 1445) (kk := 2) rfl rfl rfl (by decide) rfl ?_
  show xBody ML_law 10 1446 (LwV i) [.int (zI (av xs i 2)), .int (zI (av xs i 1)), .ref 0] ([zH s0 zL0 0, zH s1 zL1 0, zH s2 zL2 0, zH s3 zL3 0, zH s4 zL4 0, zH s5 zL5 0, zH s6 zL6 0, zH s7 zL7 0, zH s8 (zLb ks) 0, xr9 L xs]) _ _
  refine xB.call oL_law (M2 := MX11_as) ((x1S hS25 (Nat.le_of_ble_eq_true rfl) _ _ _).trans rfl) rfl ((t_X11_as s0 (zH s1 zL1 0) (zH s2 zL2 0) s3 (zH s4 zL4 0) (zH s5 zL5 0) (zH s6 zL6 0) (zH s7 zL7 0) s8 (xr9 L xs) ks (av xs i 1) (av xs i 2) e1).deep (by decide : 1 ≤ 9)) ?_
  show xBody ML_law 10 1449 (LwV i) [.int (zI r)] ([zH s0' zL0 0, zH s1 zL1 0, zH s2 zL2 0, zH s3 zL3 0, zH s4 zL4 0, zH s5 zL5 0, zH s6 zL6 0, zH s7 zL7 0, zH s8 (zLb ks) 0, xr9 L xs]) _ _
  refine xB.run oL_law 1 (s := (1450, LwV i, [.ref 7168, .int (zI r)], [zH s0' zL0 0, zH s1 zL1 0, zH s2 zL2 0, zH s3 zL3 0, zH s4 zL4 0, zH s5 zL5 0, zH s6 zL6 0, zH s7 zL7 0, zH s8 (zLb ks) 0, xr9 L xs])) (xNP_run hS25 1 rfl) ?_
  refine law_ld hL (k := 1) (by omega) hS25 (n4 := 1454) (kk := 1) rfl rfl rfl (by decide) rfl ?_
  show xBody ML_law 10 1455 (LwV i) [.int (zI (av xs i 1)), .ref 7168, .int (zI r)] ([zH s0' zL0 0, zH s1 zL1 0, zH s2 zL2 0, zH s3 zL3 0, zH s4 zL4 0, zH s5 zL5 0, zH s6 zL6 0, zH s7 zL7 0, zH s8 (zLb ks) 0, xr9 L xs]) _ _
  refine law_ld hL (k := 2) (by omega) hS25 (n4 := 1459) (kk := 2) rfl rfl rfl (by decide) rfl ?_
  show xBody ML_law 10 1460 (LwV i) [.int (zI (av xs i 2)), .int (zI (av xs i 1)), .ref 7168, .int (zI r)] ([zH s0' zL0 0, zH s1 zL1 0, zH s2 zL2 0, zH s3 zL3 0, zH s4 zL4 0, zH s5 zL5 0, zH s6 zL6 0, zH s7 zL7 0, zH s8 (zLb ks) 0, xr9 L xs]) _ _
  refine xB.call oL_law (M2 := MX12_as) ((x1S hS25 (Nat.le_of_ble_eq_true rfl) _ _ _).trans rfl) rfl ((t_X12_as (zH s0' zL0 0) (zH s1 zL1 0) (zH s2 zL2 0) (zH s3 zL3 0) (zH s4 zL4 0) (zH s5 zL5 0) (zH s6 zL6 0) s7 (zH s8 (zLb ks) 0) (xr9 L xs) (av xs i 1) (av xs i 2) e2).deep (by decide : 1 ≤ 9)) ?_
  show xBody ML_law 10 1463 (LwV i) [.int (zI r), .int (zI r)] ([zH s0' zL0 0, zH s1 zL1 0, zH s2 zL2 0, zH s3 zL3 0, zH s4 zL4 0, zH s5 zL5 0, zH s6 zL6 0, zH s7' zL7 0, zH s8 (zLb ks) 0, xr9 L xs]) _ _
  exact xB.same oL_law ((x1S hS25 (Nat.le_of_ble_eq_true rfl) _ _ _).trans rfl) X
theorem l_trace {L : Nat} {xs : Nat → Int32} (hL : L ≤ 2560) {i : Nat} (hi : i + 5 ≤ L) {s0 s1 s2 s3 s4 s5 s6 s7 s8 : zZ} {ks : List Int} (Q : Rel s0 s1 s2 s3 s4 s5 s6 s7 s8 ks) (next : ∀ (s0 s1 s2 s3 s4 s5 s6 s7 s8 : zZ) (ks : List Int), Rel s0 s1 s2 s3 s4 s5 s6 s7 s8 ks → LwP L xs 1517 i s0 s1 s2 s3 s4 s5 s6 s7 s8 ks) : LwP L xs 1468 i s0 s1 s2 s3 s4 s5 s6 s7 s8 ks := by
  obtain ⟨r, e1, e2, Q'⟩ := c_trace Q 
  obtain ⟨hp', X, b1, b2⟩ := next s0 s1 s2 s3 s4 s5 s6 s7 s8 ks Q'
  refine ⟨hp', ?_, b1, b2⟩
  refine xB.run oL_law 1 (s := (1469, LwV i, [.ref 0], [zH s0 zL0 0, zH s1 zL1 0, zH s2 zL2 0, zH s3 zL3 0, zH s4 zL4 0, zH s5 zL5 0, zH s6 zL6 0, zH s7 zL7 0, zH s8 (zLb ks) 0, xr9 L xs])) (xNP_run hS26 1 rfl) ?_
  refine xB.call oL_law (M2 := MX11_trace) ((x1S hS26 (Nat.le_of_ble_eq_true rfl) _ _ _).trans rfl) rfl ((t_X11_trace s0 (zH s1 zL1 0) (zH s2 zL2 0) s3 (zH s4 zL4 0) (zH s5 zL5 0) (zH s6 zL6 0) (zH s7 zL7 0) (zH s8 (zLb ks) 0) (xr9 L xs) e1).deep (by decide : 0 ≤ 9)) ?_
  show xBody ML_law 10 1472 (LwV i) [.int (zI r)] ([zH s0 zL0 0, zH s1 zL1 0, zH s2 zL2 0, zH s3 zL3 0, zH s4 zL4 0, zH s5 zL5 0, zH s6 zL6 0, zH s7 zL7 0, zH s8 (zLb ks) 0, xr9 L xs]) _ _
  refine xB.run oL_law 1 (s := (1473, LwV i, [.ref 7168, .int (zI r)], [zH s0 zL0 0, zH s1 zL1 0, zH s2 zL2 0, zH s3 zL3 0, zH s4 zL4 0, zH s5 zL5 0, zH s6 zL6 0, zH s7 zL7 0, zH s8 (zLb ks) 0, xr9 L xs])) (xNP_run hS26 1 rfl) ?_
  refine xB.call oL_law (M2 := MX12_trace) ((x1S hS26 (Nat.le_of_ble_eq_true rfl) _ _ _).trans rfl) rfl ((t_X12_trace (zH s0 zL0 0) (zH s1 zL1 0) (zH s2 zL2 0) (zH s3 zL3 0) (zH s4 zL4 0) (zH s5 zL5 0) (zH s6 zL6 0) s7 (zH s8 (zLb ks) 0) (xr9 L xs) e2).deep (by decide : 0 ≤ 9)) ?_
  show xBody ML_law 10 1476 (LwV i) [.int (zI r), .int (zI r)] ([zH s0 zL0 0, zH s1 zL1 0, zH s2 zL2 0, zH s3 zL3 0, zH s4 zL4 0, zH s5 zL5 0, zH s6 zL6 0, zH s7 zL7 0, zH s8 (zLb ks) 0, xr9 L xs]) _ _
  exact xB.same oL_law ((x1S hS26 (Nat.le_of_ble_eq_true rfl) _ _ _).trans rfl) X
theorem l_fault {L : Nat} {xs : Nat → Int32} (hL : L ≤ 2560) {i : Nat} (hi : i + 5 ≤ L) {s0 s1 s2 s3 s4 s5 s6 s7 s8 : zZ} {ks : List Int} (Q : Rel s0 s1 s2 s3 s4 s5 s6 s7 s8 ks) (next : ∀ (s0 s1 s2 s3 s4 s5 s6 s7 s8 : zZ) (ks : List Int), Rel s0 s1 s2 s3 s4 s5 s6 s7 s8 ks → LwP L xs 1517 i s0 s1 s2 s3 s4 s5 s6 s7 s8 ks) : LwP L xs 1481 i s0 s1 s2 s3 s4 s5 s6 s7 s8 ks := by
  obtain ⟨r, e1, e2, Q'⟩ := c_fault Q 
  obtain ⟨hp', X, b1, b2⟩ := next s0 s1 s2 s3 s4 s5 s6 s7 s8 ks Q'
  refine ⟨hp', ?_, b1, b2⟩
  refine xB.run oL_law 1 (s := (1482, LwV i, [.ref 0], [zH s0 zL0 0, zH s1 zL1 0, zH s2 zL2 0, zH s3 zL3 0, zH s4 zL4 0, zH s5 zL5 0, zH s6 zL6 0, zH s7 zL7 0, zH s8 (zLb ks) 0, xr9 L xs])) (xNP_run hS26 1 rfl) ?_
  refine xB.call oL_law (M2 := MX11_fault) ((x1S hS26 (Nat.le_of_ble_eq_true rfl) _ _ _).trans rfl) rfl ((t_X11_fault s0 (zH s1 zL1 0) (zH s2 zL2 0) (zH s3 zL3 0) (zH s4 zL4 0) (zH s5 zL5 0) (zH s6 zL6 0) (zH s7 zL7 0) (zH s8 (zLb ks) 0) (xr9 L xs) e1).deep (by decide : 0 ≤ 9)) ?_
  show xBody ML_law 10 1485 (LwV i) [.int (zI r)] ([zH s0 zL0 0, zH s1 zL1 0, zH s2 zL2 0, zH s3 zL3 0, zH s4 zL4 0, zH s5 zL5 0, zH s6 zL6 0, zH s7 zL7 0, zH s8 (zLb ks) 0, xr9 L xs]) _ _
  refine xB.run oL_law 1 (s := (1486, LwV i, [.ref 7168, .int (zI r)], [zH s0 zL0 0, zH s1 zL1 0, zH s2 zL2 0, zH s3 zL3 0, zH s4 zL4 0, zH s5 zL5 0, zH s6 zL6 0, zH s7 zL7 0, zH s8 (zLb ks) 0, xr9 L xs])) (xNP_run hS26 1 rfl) ?_
  refine xB.call oL_law (M2 := MX12_fault) ((x1S hS26 (Nat.le_of_ble_eq_true rfl) _ _ _).trans rfl) rfl ((t_X12_fault (zH s0 zL0 0) (zH s1 zL1 0) (zH s2 zL2 0) (zH s3 zL3 0) (zH s4 zL4 0) (zH s5 zL5 0) (zH s6 zL6 0) s7 (zH s8 (zLb ks) 0) (xr9 L xs) e2).deep (by decide : 0 ≤ 9)) ?_
  show xBody ML_law 10 1489 (LwV i) [.int (zI r), .int (zI r)] ([zH s0 zL0 0, zH s1 zL1 0, zH s2 zL2 0, zH s3 zL3 0, zH s4 zL4 0, zH s5 zL5 0, zH s6 zL6 0, zH s7 zL7 0, zH s8 (zLb ks) 0, xr9 L xs]) _ _
  exact xB.same oL_law ((x1S hS26 (Nat.le_of_ble_eq_true rfl) _ _ _).trans rfl) X
theorem l_many {L : Nat} {xs : Nat → Int32} (hL : L ≤ 2560) {i : Nat} (hi : i + 5 ≤ L) {s0 s1 s2 s3 s4 s5 s6 s7 s8 : zZ} {ks : List Int} (Q : Rel s0 s1 s2 s3 s4 s5 s6 s7 s8 ks) (next : ∀ (s0 s1 s2 s3 s4 s5 s6 s7 s8 : zZ) (ks : List Int), Rel s0 s1 s2 s3 s4 s5 s6 s7 s8 ks → LwP L xs 1517 i s0 s1 s2 s3 s4 s5 s6 s7 s8 ks) : LwP L xs 1494 i s0 s1 s2 s3 s4 s5 s6 s7 s8 ks := by
  obtain ⟨r, e1, e2, Q'⟩ := c_many Q (av_zr xs i 1)
  obtain ⟨hp', X, b1, b2⟩ := next s0 s1 s2 s3 s4 s5 s6 s7 s8 ks Q'
  refine ⟨hp', ?_, b1, b2⟩
  refine xB.run oL_law 1 (s := (1495, LwV i, [.ref 0], [zH s0 zL0 0, zH s1 zL1 0, zH s2 zL2 0, zH s3 zL3 0, zH s4 zL4 0, zH s5 zL5 0, zH s6 zL6 0, zH s7 zL7 0, zH s8 (zLb ks) 0, xr9 L xs])) (xNP_run hS26 1 rfl) ?_
  refine law_ld hL (k := 1) (by omega) hS26 (n4 := 1499) (kk := 1) rfl rfl rfl (by decide) rfl ?_
  show xBody ML_law 10 1500 (LwV i) [.int (zI (av xs i 1)), .ref 0] ([zH s0 zL0 0, zH s1 zL1 0, zH s2 zL2 0, zH s3 zL3 0, zH s4 zL4 0, zH s5 zL5 0, zH s6 zL6 0, zH s7 zL7 0, zH s8 (zLb ks) 0, xr9 L xs]) _ _
  refine xB.call oL_law (M2 := MX11_many) ((x1S hS26 (Nat.le_of_ble_eq_true rfl) _ _ _).trans rfl) rfl ((t_X11_many s0 s1 s2 s3 (zH s4 zL4 0) s5 (zH s6 zL6 0) (zH s7 zL7 0) s8 (xr9 L xs) ks (av xs i 1) e1).deep (by decide : 1 ≤ 9)) ?_
  show xBody ML_law 10 1503 (LwV i) [.int (zI r)] ([zH s0 zL0 0, zH s1 zL1 0, zH s2 zL2 0, zH s3 zL3 0, zH s4 zL4 0, zH s5 zL5 0, zH s6 zL6 0, zH s7 zL7 0, zH s8 (zLb ks) 0, xr9 L xs]) _ _
  refine xB.run oL_law 1 (s := (1504, LwV i, [.ref 7168, .int (zI r)], [zH s0 zL0 0, zH s1 zL1 0, zH s2 zL2 0, zH s3 zL3 0, zH s4 zL4 0, zH s5 zL5 0, zH s6 zL6 0, zH s7 zL7 0, zH s8 (zLb ks) 0, xr9 L xs])) (xNP_run hS26 1 rfl) ?_
  refine law_ld hL (k := 1) (by omega) hS26 (n4 := 1508) (kk := 1) rfl rfl rfl (by decide) rfl ?_
  show xBody ML_law 10 1509 (LwV i) [.int (zI (av xs i 1)), .ref 7168, .int (zI r)] ([zH s0 zL0 0, zH s1 zL1 0, zH s2 zL2 0, zH s3 zL3 0, zH s4 zL4 0, zH s5 zL5 0, zH s6 zL6 0, zH s7 zL7 0, zH s8 (zLb ks) 0, xr9 L xs]) _ _
  refine xB.call oL_law (M2 := MX12_many) ((x1S hS26 (Nat.le_of_ble_eq_true rfl) _ _ _).trans rfl) rfl ((t_X12_many (zH s0 zL0 0) (zH s1 zL1 0) (zH s2 zL2 0) (zH s3 zL3 0) (zH s4 zL4 0) (zH s5 zL5 0) (zH s6 zL6 0) s7 (zH s8 (zLb ks) 0) (xr9 L xs) (av xs i 1) e2).deep (by decide : 1 ≤ 9)) ?_
  show xBody ML_law 10 1512 (LwV i) [.int (zI r), .int (zI r)] ([zH s0 zL0 0, zH s1 zL1 0, zH s2 zL2 0, zH s3 zL3 0, zH s4 zL4 0, zH s5 zL5 0, zH s6 zL6 0, zH s7 zL7 0, zH s8 (zLb ks) 0, xr9 L xs]) _ _
  exact xB.same oL_law ((x1S hS26 (Nat.le_of_ble_eq_true rfl) _ _ _).trans rfl) X
