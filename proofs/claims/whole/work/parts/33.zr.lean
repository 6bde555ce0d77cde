/-! 33.zr -/
def d_X5_howManyLinks (s2 : zZ) : Option (Int) := some (s2 0 0)
set_option maxRecDepth 20000 in
theorem t_X5_howManyLinks (r0 : List va_E) (r1 : List va_E) (s2 : zZ) (r3 : List va_E) (r4 : List va_E) (r5 : List va_E) (r6 : List va_E) (r7 : List va_E) (r8 : List va_E) (r9 : List va_E) {rr : Int} (H : d_X5_howManyLinks s2 = some rr) : xC MX5_howManyLinks 0 [.ref 2048] ([r0, r1, zH s2 zL2 0, r3, r4, r5, r6, r7, r8, r9]) (some (.int (zI rr))) ([r0, r1, zH s2 zL2 0, r3, r4, r5, r6, r7, r8, r9]) := by
  refine ⟨Nat.le_of_ble_eq_true rfl, ?_⟩
  show xBody MX5_howManyLinks 0 0 [some (.ref 2048)] [] ([r0, r1, zH s2 zL2 0, r3, r4, r5, r6, r7, r8, r9]) _ _
  unfold d_X5_howManyLinks at H
  refine xB.run oX5_howManyLinks 2 (s := (4, [some (.ref 2048)], [.int (zI (s2 0 0))], [r0, r1, zH s2 zL2 0, r3, r4, r5, r6, r7, r8, r9])) rfl ?_
  obtain rfl := Option.some.inj H
  exact xB.ret oX5_howManyLinks (r1 := some (.int (zI (s2 0 0)))) rfl rfl rfl
def d_X5_isJoint (s2 : zZ) (j : Int) : Option (Int) := if (zr j) then (if j < 1 then some 0 else (if (zr j ∧ zr (s2 0 0)) then (if (s2 0 0) ≤ j then some 0 else some 1) else none)) else none
set_option maxRecDepth 20000 in
theorem t_X5_isJoint (r0 : List va_E) (r1 : List va_E) (s2 : zZ) (r3 : List va_E) (r4 : List va_E) (r5 : List va_E) (r6 : List va_E) (r7 : List va_E) (r8 : List va_E) (r9 : List va_E) (j : Int) {rr : Int} (H : d_X5_isJoint s2 j = some rr) : xC MX5_isJoint 0 [.ref 2048, .int (zI j)] ([r0, r1, zH s2 zL2 0, r3, r4, r5, r6, r7, r8, r9]) (some (.int (zI rr))) ([r0, r1, zH s2 zL2 0, r3, r4, r5, r6, r7, r8, r9]) := by
  refine ⟨Nat.le_of_ble_eq_true rfl, ?_⟩
  show xBody MX5_isJoint 0 0 [some (.ref 2048), some (.int (zI j))] [] ([r0, r1, zH s2 zL2 0, r3, r4, r5, r6, r7, r8, r9]) _ _
  unfold d_X5_isJoint at H
  refine xB.run oX5_isJoint 2 (s := (2, [some (.ref 2048), some (.int (zI j))], [.int (zI 1), .int (zI j)], [r0, r1, zH s2 zL2 0, r3, r4, r5, r6, r7, r8, r9])) rfl ?_
  obtain ⟨g4, H⟩ := zgd H
  have H := zif H
  refine xB.brE oX5_isJoint (P := j < 1) rfl (zc_lt (a := j) (b := 1) ⟨g4, by decide⟩) (fun h1 => ?_) (fun h1 => ?_)
  · have H := H.1 h1
    refine xB.run oX5_isJoint 1 (s := (18, [some (.ref 2048), some (.int (zI j))], [.int (zI 0)], [r0, r1, zH s2 zL2 0, r3, r4, r5, r6, r7, r8, r9])) rfl ?_
    obtain rfl := Option.some.inj H
    exact xB.ret oX5_isJoint (r1 := some (.int (zI 0))) rfl rfl rfl
  · have H := H.2 h1
    refine xB.run oX5_isJoint 3 (s := (10, [some (.ref 2048), some (.int (zI j))], [.int (zI (s2 0 0)), .int (zI j)], [r0, r1, zH s2 zL2 0, r3, r4, r5, r6, r7, r8, r9])) rfl ?_
    obtain ⟨g3, H⟩ := zgd H
    have H := zif H
    refine xB.brE oX5_isJoint (P := (s2 0 0) ≤ j) rfl (zc_ge (a := j) (b := s2 0 0) g3) (fun h2 => ?_) (fun h2 => ?_)
    · have H := H.1 h2
      refine xB.run oX5_isJoint 1 (s := (18, [some (.ref 2048), some (.int (zI j))], [.int (zI 0)], [r0, r1, zH s2 zL2 0, r3, r4, r5, r6, r7, r8, r9])) rfl ?_
      obtain rfl := Option.some.inj H
      exact xB.ret oX5_isJoint (r1 := some (.int (zI 0))) rfl rfl rfl
    · have H := H.2 h2
      refine xB.run oX5_isJoint 2 (s := (18, [some (.ref 2048), some (.int (zI j))], [.int (zI 1)], [r0, r1, zH s2 zL2 0, r3, r4, r5, r6, r7, r8, r9])) rfl ?_
      obtain rfl := Option.some.inj H
      exact xB.ret oX5_isJoint (r1 := some (.int (zI 1))) rfl rfl rfl
def d_X5_isPower (s2 : zZ) (k : Int) : Option (Int) := if (zr k) then (if k < 0 then some 0 else (if (zr k ∧ zr (s2 0 0)) then (if (s2 0 0) ≤ k then some 0 else some 1) else none)) else none
set_option maxRecDepth 20000 in
theorem t_X5_isPower (r0 : List va_E) (r1 : List va_E) (s2 : zZ) (r3 : List va_E) (r4 : List va_E) (r5 : List va_E) (r6 : List va_E) (r7 : List va_E) (r8 : List va_E) (r9 : List va_E) (k : Int) {rr : Int} (H : d_X5_isPower s2 k = some rr) : xC MX5_isPower 0 [.ref 2048, .int (zI k)] ([r0, r1, zH s2 zL2 0, r3, r4, r5, r6, r7, r8, r9]) (some (.int (zI rr))) ([r0, r1, zH s2 zL2 0, r3, r4, r5, r6, r7, r8, r9]) := by
  refine ⟨Nat.le_of_ble_eq_true rfl, ?_⟩
  show xBody MX5_isPower 0 0 [some (.ref 2048), some (.int (zI k))] [] ([r0, r1, zH s2 zL2 0, r3, r4, r5, r6, r7, r8, r9]) _ _
  unfold d_X5_isPower at H
  refine xB.run oX5_isPower 1 (s := (1, [some (.ref 2048), some (.int (zI k))], [.int (zI k)], [r0, r1, zH s2 zL2 0, r3, r4, r5, r6, r7, r8, r9])) rfl ?_
  obtain ⟨g4, H⟩ := zgd H
  have H := zif H
  refine xB.brE oX5_isPower (P := k < 0) rfl (zc_lt (a := k) (b := 0) ⟨g4, by decide⟩) (fun h1 => ?_) (fun h1 => ?_)
  · have H := H.1 h1
    refine xB.run oX5_isPower 1 (s := (17, [some (.ref 2048), some (.int (zI k))], [.int (zI 0)], [r0, r1, zH s2 zL2 0, r3, r4, r5, r6, r7, r8, r9])) rfl ?_
    obtain rfl := Option.some.inj H
    exact xB.ret oX5_isPower (r1 := some (.int (zI 0))) rfl rfl rfl
  · have H := H.2 h1
    refine xB.run oX5_isPower 3 (s := (9, [some (.ref 2048), some (.int (zI k))], [.int (zI (s2 0 0)), .int (zI k)], [r0, r1, zH s2 zL2 0, r3, r4, r5, r6, r7, r8, r9])) rfl ?_
    obtain ⟨g3, H⟩ := zgd H
    have H := zif H
    refine xB.brE oX5_isPower (P := (s2 0 0) ≤ k) rfl (zc_ge (a := k) (b := s2 0 0) g3) (fun h2 => ?_) (fun h2 => ?_)
    · have H := H.1 h2
      refine xB.run oX5_isPower 1 (s := (17, [some (.ref 2048), some (.int (zI k))], [.int (zI 0)], [r0, r1, zH s2 zL2 0, r3, r4, r5, r6, r7, r8, r9])) rfl ?_
      obtain rfl := Option.some.inj H
      exact xB.ret oX5_isPower (r1 := some (.int (zI 0))) rfl rfl rfl
    · have H := H.2 h2
      refine xB.run oX5_isPower 2 (s := (17, [some (.ref 2048), some (.int (zI k))], [.int (zI 1)], [r0, r1, zH s2 zL2 0, r3, r4, r5, r6, r7, r8, r9])) rfl ?_
      obtain rfl := Option.some.inj H
      exact xB.ret oX5_isPower (r1 := some (.int (zI 1))) rfl rfl rfl
def d_X5_numberByPower (s2 : zZ) (k : Int) : Option (Int) := (d_X5_isPower s2 k).bind fun y1 => if (zr y1) then (if y1 = 0 then some (-9223372036854775808) else (if (0 ≤ k ∧ k < 5) then some (s2 29 k.toNat) else none)) else none
set_option maxRecDepth 20000 in
theorem t_X5_numberByPower (r0 : List va_E) (r1 : List va_E) (s2 : zZ) (r3 : List va_E) (r4 : List va_E) (r5 : List va_E) (r6 : List va_E) (r7 : List va_E) (r8 : List va_E) (r9 : List va_E) (k : Int) {rr : Int} (H : d_X5_numberByPower s2 k = some rr) : xC MX5_numberByPower 1 [.ref 2048, .int (zI k)] ([r0, r1, zH s2 zL2 0, r3, r4, r5, r6, r7, r8, r9]) (some (.long (zJ rr))) ([r0, r1, zH s2 zL2 0, r3, r4, r5, r6, r7, r8, r9]) := by
  refine ⟨Nat.le_of_ble_eq_true rfl, ?_⟩
  show xBody MX5_numberByPower 1 0 [some (.ref 2048), some (.int (zI k))] [] ([r0, r1, zH s2 zL2 0, r3, r4, r5, r6, r7, r8, r9]) _ _
  unfold d_X5_numberByPower at H
  refine xB.run oX5_numberByPower 2 (s := (2, [some (.ref 2048), some (.int (zI k))], [.int (zI k), .ref 2048], [r0, r1, zH s2 zL2 0, r3, r4, r5, r6, r7, r8, r9])) rfl ?_
  obtain ⟨y1, e2, H⟩ := zbd H
  refine xB.call oX5_numberByPower (M2 := MX5_isPower) rfl rfl ((t_X5_isPower r0 r1 s2 r3 r4 r5 r6 r7 r8 r9 k e2).deep (by decide : 0 ≤ 0)) ?_
  show xBody MX5_numberByPower 1 5 [some (.ref 2048), some (.int (zI k))] [.int (zI y1)] ([r0, r1, zH s2 zL2 0, r3, r4, r5, r6, r7, r8, r9]) _ _
  obtain ⟨g5, H⟩ := zgd H
  have H := zif H
  refine xB.brE oX5_numberByPower (P := y1 = 0) rfl (zc_eq (a := y1) (b := 0) ⟨g5, by decide⟩) (fun h3 => ?_) (fun h3 => ?_)
  · have H := H.1 h3
    refine xB.run oX5_numberByPower 1 (s := (20, [some (.ref 2048), some (.int (zI k))], [.long (zJ (-9223372036854775808))], [r0, r1, zH s2 zL2 0, r3, r4, r5, r6, r7, r8, r9])) rfl ?_
    obtain rfl := Option.some.inj H
    exact xB.ret oX5_numberByPower (r1 := some (.long (zJ (-9223372036854775808)))) rfl rfl rfl
  · have H := H.2 h3
    refine xB.run oX5_numberByPower 3 (s := (13, [some (.ref 2048), some (.int (zI k))], [.int (zI k), .ref 2077], [r0, r1, zH s2 zL2 0, r3, r4, r5, r6, r7, r8, r9])) rfl ?_
    obtain ⟨g4, H⟩ := zgd H
    refine zB.lald oX5_numberByPower (g := 2) (p := 29) (N := 5) (i := k) rfl rfl (by decide) rfl rfl (by decide) g4 ?_
    refine xB.run oX5_numberByPower 1 (s := (20, [some (.ref 2048), some (.int (zI k))], [.long (zJ (s2 29 k.toNat))], [r0, r1, zH s2 zL2 0, r3, r4, r5, r6, r7, r8, r9])) rfl ?_
    obtain rfl := Option.some.inj H
    exact xB.ret oX5_numberByPower (r1 := some (.long (zJ (s2 29 k.toNat)))) rfl rfl rfl
def d_X5_addSquareB_13 (times : Int) (row : Int) : Nat → Int → zZ → Option (Int × zZ)
  | 0, _, _ => none
  | uN + 1, col, s2 => if (zr col ∧ zr (s2 0 0)) then (if (s2 0 0) ≤ col then some (col, s2) else (if (0 ≤ (row - 1) ∧ (row - 1) < 4) then (if (((row - 1).toNat < 4) ∧ (0 ≤ (col - 1) ∧ (col - 1) < 4)) then (if zr times then (if (0 ≤ row ∧ row < 6) then (if zr (s2 31 row.toNat) then (if (0 ≤ col ∧ col < 6) then (if zr (s2 31 col.toNat) then (if (((row - 1).toNat < 4) ∧ (0 ≤ (col - 1) ∧ (col - 1) < 4)) then (d_X5_addSquareB_13 times row uN (col + 1) (upz s2 (3 + (row - 1).toNat) (col - 1).toNat ((s2 (3 + (row - 1).toNat) (col - 1).toNat) + ((times * (s2 31 row.toNat)) * (s2 31 col.toNat))))) else none) else none) else none) else none) else none) else none) else none) else none)) else none
def d_X5_addSquareB_2 (times : Int) : Nat → Int → zZ → Option (Int × zZ)
  | 0, _, _ => none
  | uN + 1, row, s2 => if (zr row ∧ zr (s2 0 0)) then (if (s2 0 0) ≤ row then some (row, s2) else ((d_X5_addSquareB_13 times row zF 1 s2).bind fun y12 => d_X5_addSquareB_2 times uN (row + 1) y12.2)) else none
def d_X5_addSquareB (s2 : zZ) (times : Int) : Option (zZ) := (d_X5_addSquareB_2 times zF 1 s2).bind fun y15 => some y15.2
set_option maxRecDepth 20000 in
theorem l_X5_addSquareB_13 (r0 : List va_E) (r1 : List va_E) (r3 : List va_E) (r4 : List va_E) (r5 : List va_E) (r6 : List va_E) (r7 : List va_E) (r8 : List va_E) (r9 : List va_E) (times : Int) (row : Int) {r : Option Value} {hp1 : xH} : ∀ (uN : Nat) (col : Int) (s2 : zZ) {uX : Int × zZ}, d_X5_addSquareB_13 times row uN col s2 = some uX → (xBody MX5_addSquare 0 60 [some (.ref 2048), some (.ref 2050), some (.int (zI times)), some (.int (zI row)), some (.int (zI uX.1))] [] ([r0, r1, zH uX.2 zL2 0, r3, r4, r5, r6, r7, r8, r9]) r hp1) → xBody MX5_addSquare 0 13 [some (.ref 2048), some (.ref 2050), some (.int (zI times)), some (.int (zI row)), some (.int (zI col))] [] ([r0, r1, zH s2 zL2 0, r3, r4, r5, r6, r7, r8, r9]) r hp1 := by
  intro uN
  induction uN with
  | zero => intro col s2 uX H K; cases H
  | succ uN ih =>
    intro col s2 uX H K
    unfold d_X5_addSquareB_13 at H
    refine xB.run oX5_addSquare 3 (s := (19, [some (.ref 2048), some (.ref 2050), some (.int (zI times)), some (.int (zI row)), some (.int (zI col))], [.int (zI (s2 0 0)), .int (zI col)], [r0, r1, zH s2 zL2 0, r3, r4, r5, r6, r7, r8, r9])) rfl ?_
    obtain ⟨g11, H⟩ := zgd H
    have H := zif H
    refine xB.brE oX5_addSquare (P := (s2 0 0) ≤ col) rfl (zc_ge (a := col) (b := s2 0 0) g11) (fun h2 => ?_) (fun h2 => ?_)
    · have H := H.1 h2
      obtain rfl := Option.some.inj H
      exact K
    · have H := H.2 h2
      refine xB.run oX5_addSquare 3 (s := (25, [some (.ref 2048), some (.ref 2050), some (.int (zI times)), some (.int (zI row)), some (.int (zI col))], [.int (zI 1), .int (zI row), .ref 2050], [r0, r1, zH s2 zL2 0, r3, r4, r5, r6, r7, r8, r9])) rfl ?_
      refine zB.opi oX5_addSquare rfl (zi_sub row 1) ?_
      obtain ⟨g10, H⟩ := zgd H
      refine zB.aaldG oX5_addSquare (g := 2) (p := 2) (N := 4) (c := 4) (g2 := 2) (p2 := 3) rfl rfl (by decide) rfl rfl (by decide) (by decide) g10 ?_
      refine xB.run oX5_addSquare 2 (s := (30, [some (.ref 2048), some (.ref 2050), some (.int (zI times)), some (.int (zI row)), some (.int (zI col))], [.int (zI 1), .int (zI col), .ref (1024 * 2 + (3 + ((row - 1).toNat)))], [r0, r1, zH s2 zL2 0, r3, r4, r5, r6, r7, r8, r9])) rfl ?_
      refine zB.opi oX5_addSquare rfl (zi_sub col 1) ?_
      refine xB.run oX5_addSquare 1 (s := (32, [some (.ref 2048), some (.ref 2050), some (.int (zI times)), some (.int (zI row)), some (.int (zI col))], [.int (zI (col - 1)), .ref (1024 * 2 + (3 + ((row - 1).toNat))), .int (zI (col - 1)), .ref (1024 * 2 + (3 + ((row - 1).toNat)))], [r0, r1, zH s2 zL2 0, r3, r4, r5, r6, r7, r8, r9])) rfl ?_
      obtain ⟨g9, H⟩ := zgd H
      refine zB.lald oX5_addSquare (g := 2) (p := 3 + (row - 1).toNat) (N := 4) (i := col - 1) rfl rfl (by omega) rfl (zg_2_3 _ (by omega)) (by decide) g9.2 ?_
      refine xB.run oX5_addSquare 1 (s := (34, [some (.ref 2048), some (.ref 2050), some (.int (zI times)), some (.int (zI row)), some (.int (zI col))], [.int (zI times), .long (zJ (s2 (3 + (row - 1).toNat) (col - 1).toNat)), .int (zI (col - 1)), .ref (1024 * 2 + (3 + ((row - 1).toNat)))], [r0, r1, zH s2 zL2 0, r3, r4, r5, r6, r7, r8, r9])) rfl ?_
      obtain ⟨g8, H⟩ := zgd H
      refine zB.opl oX5_addSquare rfl (zi_i2l g8) ?_
      refine xB.run oX5_addSquare 3 (s := (40, [some (.ref 2048), some (.ref 2050), some (.int (zI times)), some (.int (zI row)), some (.int (zI col))], [.int (zI row), .ref 2079, .long (zJ times), .long (zJ (s2 (3 + (row - 1).toNat) (col - 1).toNat)), .int (zI (col - 1)), .ref (1024 * 2 + (3 + ((row - 1).toNat)))], [r0, r1, zH s2 zL2 0, r3, r4, r5, r6, r7, r8, r9])) rfl ?_
      obtain ⟨g7, H⟩ := zgd H
      refine zB.iald oX5_addSquare (g := 2) (p := 31) (N := 6) (i := row) rfl rfl (by decide) rfl rfl (by decide) g7 ?_
      obtain ⟨g6, H⟩ := zgd H
      refine zB.opl oX5_addSquare rfl (zi_i2l g6) ?_
      refine zB.opl oX5_addSquare rfl (zj_mul times (s2 31 row.toNat)) ?_
      refine xB.run oX5_addSquare 3 (s := (49, [some (.ref 2048), some (.ref 2050), some (.int (zI times)), some (.int (zI row)), some (.int (zI col))], [.int (zI col), .ref 2079, .long (zJ (times * (s2 31 row.toNat))), .long (zJ (s2 (3 + (row - 1).toNat) (col - 1).toNat)), .int (zI (col - 1)), .ref (1024 * 2 + (3 + ((row - 1).toNat)))], [r0, r1, zH s2 zL2 0, r3, r4, r5, r6, r7, r8, r9])) rfl ?_
      obtain ⟨g5, H⟩ := zgd H
      refine zB.iald oX5_addSquare (g := 2) (p := 31) (N := 6) (i := col) rfl rfl (by decide) rfl rfl (by decide) g5 ?_
      obtain ⟨g4, H⟩ := zgd H
      refine zB.opl oX5_addSquare rfl (zi_i2l g4) ?_
      refine zB.opl oX5_addSquare rfl (zj_mul (times * (s2 31 row.toNat)) (s2 31 col.toNat)) ?_
      refine zB.opl oX5_addSquare rfl (zj_add (s2 (3 + (row - 1).toNat) (col - 1).toNat) ((times * (s2 31 row.toNat)) * (s2 31 col.toNat))) ?_
      obtain ⟨g3, H⟩ := zgd H
      refine zB.last oX5_addSquare (g := 2) (p := 3 + (row - 1).toNat) (N := 4) (i := col - 1) (hp1 := [r0, r1, zH (upz s2 (3 + (row - 1).toNat) (col - 1).toNat ((s2 (3 + (row - 1).toNat) (col - 1).toNat) + ((times * (s2 31 row.toNat)) * (s2 31 col.toNat)))) zL2 0, r3, r4, r5, r6, r7, r8, r9]) rfl rfl (by omega) (by decide) rfl (zg_2_3 _ (by omega)) (by decide) g3.2 rfl ?_
      refine zB.inc oX5_addSquare rfl (lv2 := [some (.ref 2048), some (.ref 2050), some (.int (zI times)), some (.int (zI row)), some (.int (zI (col + 1)))]) (zi_inc (a := 0) (zi_addp1 col) _ rfl) ?_
      refine xB.run oX5_addSquare 1 (s := (13, [some (.ref 2048), some (.ref 2050), some (.int (zI times)), some (.int (zI row)), some (.int (zI (col + 1)))], [], [r0, r1, zH (upz s2 (3 + (row - 1).toNat) (col - 1).toNat ((s2 (3 + (row - 1).toNat) (col - 1).toNat) + ((times * (s2 31 row.toNat)) * (s2 31 col.toNat)))) zL2 0, r3, r4, r5, r6, r7, r8, r9])) rfl ?_
      exact ih (col + 1) (upz s2 (3 + (row - 1).toNat) (col - 1).toNat ((s2 (3 + (row - 1).toNat) (col - 1).toNat) + ((times * (s2 31 row.toNat)) * (s2 31 col.toNat)))) H K
set_option maxRecDepth 20000 in
theorem l_X5_addSquareB_2 (r0 : List va_E) (r1 : List va_E) (r3 : List va_E) (r4 : List va_E) (r5 : List va_E) (r6 : List va_E) (r7 : List va_E) (r8 : List va_E) (r9 : List va_E) (times : Int) {r : Option Value} {hp1 : xH} : ∀ (uN : Nat) (row : Int) (s2 : zZ) {uX : Int × zZ}, d_X5_addSquareB_2 times uN row s2 = some uX → (xBody MX5_addSquare 0 66 [some (.ref 2048), some (.ref 2050), some (.int (zI times)), some (.int (zI uX.1)), none] [] ([r0, r1, zH uX.2 zL2 0, r3, r4, r5, r6, r7, r8, r9]) r hp1) → xBody MX5_addSquare 0 2 [some (.ref 2048), some (.ref 2050), some (.int (zI times)), some (.int (zI row)), none] [] ([r0, r1, zH s2 zL2 0, r3, r4, r5, r6, r7, r8, r9]) r hp1 := by
  intro uN
  induction uN with
  | zero => intro row s2 uX H K; cases H
  | succ uN ih =>
    intro row s2 uX H K
    unfold d_X5_addSquareB_2 at H
    refine xB.run oX5_addSquare 3 (s := (7, [some (.ref 2048), some (.ref 2050), some (.int (zI times)), some (.int (zI row)), none], [.int (zI (s2 0 0)), .int (zI row)], [r0, r1, zH s2 zL2 0, r3, r4, r5, r6, r7, r8, r9])) rfl ?_
    obtain ⟨g14, H⟩ := zgd H
    have H := zif H
    refine xB.brE oX5_addSquare (P := (s2 0 0) ≤ row) rfl (zc_ge (a := row) (b := s2 0 0) g14) (fun h1 => ?_) (fun h1 => ?_)
    · have H := H.1 h1
      obtain rfl := Option.some.inj H
      exact K
    · have H := H.2 h1
      refine xB.run oX5_addSquare 2 (s := (13, [some (.ref 2048), some (.ref 2050), some (.int (zI times)), some (.int (zI row)), some (.int (zI 1))], [], [r0, r1, zH s2 zL2 0, r3, r4, r5, r6, r7, r8, r9])) rfl ?_
      obtain ⟨y12, e13, H⟩ := zbd H
      refine l_X5_addSquareB_13 r0 r1 r3 r4 r5 r6 r7 r8 r9 times row _ 1 s2 e13 ?_
      refine zB.inc oX5_addSquare rfl (lv2 := [some (.ref 2048), some (.ref 2050), some (.int (zI times)), some (.int (zI (row + 1))), some (.int (zI y12.1))]) (zi_inc (a := 0) (zi_addp1 row) _ rfl) ?_
      refine xB.run oX5_addSquare 1 (s := (2, [some (.ref 2048), some (.ref 2050), some (.int (zI times)), some (.int (zI (row + 1))), some (.int (zI y12.1))], [], [r0, r1, zH y12.2 zL2 0, r3, r4, r5, r6, r7, r8, r9])) rfl ?_
      refine xB.forget (lv1 := [some (.ref 2048), some (.ref 2050), some (.int (zI times)), some (.int (zI (row + 1))), none]) (xle_same (xle_same (xle_same (xle_same (xle_none (xle_nil)))))) ?_
      exact ih (row + 1) y12.2 H K
set_option maxRecDepth 20000 in
theorem t_X5_addSquareB (r0 : List va_E) (r1 : List va_E) (s2 : zZ) (r3 : List va_E) (r4 : List va_E) (r5 : List va_E) (r6 : List va_E) (r7 : List va_E) (r8 : List va_E) (r9 : List va_E) (times : Int) {rr : zZ} (H : d_X5_addSquareB s2 times = some rr) : xC MX5_addSquare 0 [.ref 2048, .ref 2050, .int (zI times)] ([r0, r1, zH s2 zL2 0, r3, r4, r5, r6, r7, r8, r9]) (none) ([r0, r1, zH rr zL2 0, r3, r4, r5, r6, r7, r8, r9]) := by
  refine ⟨Nat.le_of_ble_eq_true rfl, ?_⟩
  show xBody MX5_addSquare 0 0 [some (.ref 2048), some (.ref 2050), some (.int (zI times)), none, none] [] ([r0, r1, zH s2 zL2 0, r3, r4, r5, r6, r7, r8, r9]) _ _
  unfold d_X5_addSquareB at H
  refine xB.run oX5_addSquare 2 (s := (2, [some (.ref 2048), some (.ref 2050), some (.int (zI times)), some (.int (zI 1)), none], [], [r0, r1, zH s2 zL2 0, r3, r4, r5, r6, r7, r8, r9])) rfl ?_
  obtain ⟨y15, e16, H⟩ := zbd H
  refine l_X5_addSquareB_2 r0 r1 r3 r4 r5 r6 r7 r8 r9 times _ 1 s2 e16 ?_
  obtain rfl := Option.some.inj H
  exact xB.ret oX5_addSquare (r1 := none) rfl rfl rfl
def d_X5_addSquareS_13 (times : Int) (row : Int) : Nat → Int → zZ → Option (Int × zZ)
  | 0, _, _ => none
  | uN + 1, col, s2 => if (zr col ∧ zr (s2 0 0)) then (if (s2 0 0) ≤ col then some (col, s2) else (if (0 ≤ (row - 1) ∧ (row - 1) < 4) then (if (((row - 1).toNat < 4) ∧ (0 ≤ (col - 1) ∧ (col - 1) < 4)) then (if zr times then (if (0 ≤ row ∧ row < 6) then (if zr (s2 31 row.toNat) then (if (0 ≤ col ∧ col < 6) then (if zr (s2 31 col.toNat) then (if (((row - 1).toNat < 4) ∧ (0 ≤ (col - 1) ∧ (col - 1) < 4)) then (d_X5_addSquareS_13 times row uN (col + 1) (upz s2 (8 + (row - 1).toNat) (col - 1).toNat ((s2 (8 + (row - 1).toNat) (col - 1).toNat) + ((times * (s2 31 row.toNat)) * (s2 31 col.toNat))))) else none) else none) else none) else none) else none) else none) else none) else none)) else none
def d_X5_addSquareS_2 (times : Int) : Nat → Int → zZ → Option (Int × zZ)
  | 0, _, _ => none
  | uN + 1, row, s2 => if (zr row ∧ zr (s2 0 0)) then (if (s2 0 0) ≤ row then some (row, s2) else ((d_X5_addSquareS_13 times row zF 1 s2).bind fun y12 => d_X5_addSquareS_2 times uN (row + 1) y12.2)) else none
def d_X5_addSquareS (s2 : zZ) (times : Int) : Option (zZ) := (d_X5_addSquareS_2 times zF 1 s2).bind fun y15 => some y15.2
set_option maxRecDepth 20000 in
theorem l_X5_addSquareS_13 (r0 : List va_E) (r1 : List va_E) (r3 : List va_E) (r4 : List va_E) (r5 : List va_E) (r6 : List va_E) (r7 : List va_E) (r8 : List va_E) (r9 : List va_E) (times : Int) (row : Int) {r : Option Value} {hp1 : xH} : ∀ (uN : Nat) (col : Int) (s2 : zZ) {uX : Int × zZ}, d_X5_addSquareS_13 times row uN col s2 = some uX → (xBody MX5_addSquare 0 60 [some (.ref 2048), some (.ref 2055), some (.int (zI times)), some (.int (zI row)), some (.int (zI uX.1))] [] ([r0, r1, zH uX.2 zL2 0, r3, r4, r5, r6, r7, r8, r9]) r hp1) → xBody MX5_addSquare 0 13 [some (.ref 2048), some (.ref 2055), some (.int (zI times)), some (.int (zI row)), some (.int (zI col))] [] ([r0, r1, zH s2 zL2 0, r3, r4, r5, r6, r7, r8, r9]) r hp1 := by
  intro uN
  induction uN with
  | zero => intro col s2 uX H K; cases H
  | succ uN ih =>
    intro col s2 uX H K
    unfold d_X5_addSquareS_13 at H
    refine xB.run oX5_addSquare 3 (s := (19, [some (.ref 2048), some (.ref 2055), some (.int (zI times)), some (.int (zI row)), some (.int (zI col))], [.int (zI (s2 0 0)), .int (zI col)], [r0, r1, zH s2 zL2 0, r3, r4, r5, r6, r7, r8, r9])) rfl ?_
    obtain ⟨g11, H⟩ := zgd H
    have H := zif H
    refine xB.brE oX5_addSquare (P := (s2 0 0) ≤ col) rfl (zc_ge (a := col) (b := s2 0 0) g11) (fun h2 => ?_) (fun h2 => ?_)
    · have H := H.1 h2
      obtain rfl := Option.some.inj H
      exact K
    · have H := H.2 h2
      refine xB.run oX5_addSquare 3 (s := (25, [some (.ref 2048), some (.ref 2055), some (.int (zI times)), some (.int (zI row)), some (.int (zI col))], [.int (zI 1), .int (zI row), .ref 2055], [r0, r1, zH s2 zL2 0, r3, r4, r5, r6, r7, r8, r9])) rfl ?_
      refine zB.opi oX5_addSquare rfl (zi_sub row 1) ?_
      obtain ⟨g10, H⟩ := zgd H
      refine zB.aaldG oX5_addSquare (g := 2) (p := 7) (N := 4) (c := 4) (g2 := 2) (p2 := 8) rfl rfl (by decide) rfl rfl (by decide) (by decide) g10 ?_
      refine xB.run oX5_addSquare 2 (s := (30, [some (.ref 2048), some (.ref 2055), some (.int (zI times)), some (.int (zI row)), some (.int (zI col))], [.int (zI 1), .int (zI col), .ref (1024 * 2 + (8 + ((row - 1).toNat)))], [r0, r1, zH s2 zL2 0, r3, r4, r5, r6, r7, r8, r9])) rfl ?_
      refine zB.opi oX5_addSquare rfl (zi_sub col 1) ?_
      refine xB.run oX5_addSquare 1 (s := (32, [some (.ref 2048), some (.ref 2055), some (.int (zI times)), some (.int (zI row)), some (.int (zI col))], [.int (zI (col - 1)), .ref (1024 * 2 + (8 + ((row - 1).toNat))), .int (zI (col - 1)), .ref (1024 * 2 + (8 + ((row - 1).toNat)))], [r0, r1, zH s2 zL2 0, r3, r4, r5, r6, r7, r8, r9])) rfl ?_
      obtain ⟨g9, H⟩ := zgd H
      refine zB.lald oX5_addSquare (g := 2) (p := 8 + (row - 1).toNat) (N := 4) (i := col - 1) rfl rfl (by omega) rfl (zg_2_8 _ (by omega)) (by decide) g9.2 ?_
      refine xB.run oX5_addSquare 1 (s := (34, [some (.ref 2048), some (.ref 2055), some (.int (zI times)), some (.int (zI row)), some (.int (zI col))], [.int (zI times), .long (zJ (s2 (8 + (row - 1).toNat) (col - 1).toNat)), .int (zI (col - 1)), .ref (1024 * 2 + (8 + ((row - 1).toNat)))], [r0, r1, zH s2 zL2 0, r3, r4, r5, r6, r7, r8, r9])) rfl ?_
      obtain ⟨g8, H⟩ := zgd H
      refine zB.opl oX5_addSquare rfl (zi_i2l g8) ?_
      refine xB.run oX5_addSquare 3 (s := (40, [some (.ref 2048), some (.ref 2055), some (.int (zI times)), some (.int (zI row)), some (.int (zI col))], [.int (zI row), .ref 2079, .long (zJ times), .long (zJ (s2 (8 + (row - 1).toNat) (col - 1).toNat)), .int (zI (col - 1)), .ref (1024 * 2 + (8 + ((row - 1).toNat)))], [r0, r1, zH s2 zL2 0, r3, r4, r5, r6, r7, r8, r9])) rfl ?_
      obtain ⟨g7, H⟩ := zgd H
      refine zB.iald oX5_addSquare (g := 2) (p := 31) (N := 6) (i := row) rfl rfl (by decide) rfl rfl (by decide) g7 ?_
      obtain ⟨g6, H⟩ := zgd H
      refine zB.opl oX5_addSquare rfl (zi_i2l g6) ?_
      refine zB.opl oX5_addSquare rfl (zj_mul times (s2 31 row.toNat)) ?_
      refine xB.run oX5_addSquare 3 (s := (49, [some (.ref 2048), some (.ref 2055), some (.int (zI times)), some (.int (zI row)), some (.int (zI col))], [.int (zI col), .ref 2079, .long (zJ (times * (s2 31 row.toNat))), .long (zJ (s2 (8 + (row - 1).toNat) (col - 1).toNat)), .int (zI (col - 1)), .ref (1024 * 2 + (8 + ((row - 1).toNat)))], [r0, r1, zH s2 zL2 0, r3, r4, r5, r6, r7, r8, r9])) rfl ?_
      obtain ⟨g5, H⟩ := zgd H
      refine zB.iald oX5_addSquare (g := 2) (p := 31) (N := 6) (i := col) rfl rfl (by decide) rfl rfl (by decide) g5 ?_
      obtain ⟨g4, H⟩ := zgd H
      refine zB.opl oX5_addSquare rfl (zi_i2l g4) ?_
      refine zB.opl oX5_addSquare rfl (zj_mul (times * (s2 31 row.toNat)) (s2 31 col.toNat)) ?_
      refine zB.opl oX5_addSquare rfl (zj_add (s2 (8 + (row - 1).toNat) (col - 1).toNat) ((times * (s2 31 row.toNat)) * (s2 31 col.toNat))) ?_
      obtain ⟨g3, H⟩ := zgd H
      refine zB.last oX5_addSquare (g := 2) (p := 8 + (row - 1).toNat) (N := 4) (i := col - 1) (hp1 := [r0, r1, zH (upz s2 (8 + (row - 1).toNat) (col - 1).toNat ((s2 (8 + (row - 1).toNat) (col - 1).toNat) + ((times * (s2 31 row.toNat)) * (s2 31 col.toNat)))) zL2 0, r3, r4, r5, r6, r7, r8, r9]) rfl rfl (by omega) (by decide) rfl (zg_2_8 _ (by omega)) (by decide) g3.2 rfl ?_
      refine zB.inc oX5_addSquare rfl (lv2 := [some (.ref 2048), some (.ref 2055), some (.int (zI times)), some (.int (zI row)), some (.int (zI (col + 1)))]) (zi_inc (a := 0) (zi_addp1 col) _ rfl) ?_
      refine xB.run oX5_addSquare 1 (s := (13, [some (.ref 2048), some (.ref 2055), some (.int (zI times)), some (.int (zI row)), some (.int (zI (col + 1)))], [], [r0, r1, zH (upz s2 (8 + (row - 1).toNat) (col - 1).toNat ((s2 (8 + (row - 1).toNat) (col - 1).toNat) + ((times * (s2 31 row.toNat)) * (s2 31 col.toNat)))) zL2 0, r3, r4, r5, r6, r7, r8, r9])) rfl ?_
      exact ih (col + 1) (upz s2 (8 + (row - 1).toNat) (col - 1).toNat ((s2 (8 + (row - 1).toNat) (col - 1).toNat) + ((times * (s2 31 row.toNat)) * (s2 31 col.toNat)))) H K
set_option maxRecDepth 20000 in
theorem l_X5_addSquareS_2 (r0 : List va_E) (r1 : List va_E) (r3 : List va_E) (r4 : List va_E) (r5 : List va_E) (r6 : List va_E) (r7 : List va_E) (r8 : List va_E) (r9 : List va_E) (times : Int) {r : Option Value} {hp1 : xH} : ∀ (uN : Nat) (row : Int) (s2 : zZ) {uX : Int × zZ}, d_X5_addSquareS_2 times uN row s2 = some uX → (xBody MX5_addSquare 0 66 [some (.ref 2048), some (.ref 2055), some (.int (zI times)), some (.int (zI uX.1)), none] [] ([r0, r1, zH uX.2 zL2 0, r3, r4, r5, r6, r7, r8, r9]) r hp1) → xBody MX5_addSquare 0 2 [some (.ref 2048), some (.ref 2055), some (.int (zI times)), some (.int (zI row)), none] [] ([r0, r1, zH s2 zL2 0, r3, r4, r5, r6, r7, r8, r9]) r hp1 := by
  intro uN
  induction uN with
  | zero => intro row s2 uX H K; cases H
  | succ uN ih =>
    intro row s2 uX H K
    unfold d_X5_addSquareS_2 at H
    refine xB.run oX5_addSquare 3 (s := (7, [some (.ref 2048), some (.ref 2055), some (.int (zI times)), some (.int (zI row)), none], [.int (zI (s2 0 0)), .int (zI row)], [r0, r1, zH s2 zL2 0, r3, r4, r5, r6, r7, r8, r9])) rfl ?_
    obtain ⟨g14, H⟩ := zgd H
    have H := zif H
    refine xB.brE oX5_addSquare (P := (s2 0 0) ≤ row) rfl (zc_ge (a := row) (b := s2 0 0) g14) (fun h1 => ?_) (fun h1 => ?_)
    · have H := H.1 h1
      obtain rfl := Option.some.inj H
      exact K
    · have H := H.2 h1
      refine xB.run oX5_addSquare 2 (s := (13, [some (.ref 2048), some (.ref 2055), some (.int (zI times)), some (.int (zI row)), some (.int (zI 1))], [], [r0, r1, zH s2 zL2 0, r3, r4, r5, r6, r7, r8, r9])) rfl ?_
      obtain ⟨y12, e13, H⟩ := zbd H
      refine l_X5_addSquareS_13 r0 r1 r3 r4 r5 r6 r7 r8 r9 times row _ 1 s2 e13 ?_
      refine zB.inc oX5_addSquare rfl (lv2 := [some (.ref 2048), some (.ref 2055), some (.int (zI times)), some (.int (zI (row + 1))), some (.int (zI y12.1))]) (zi_inc (a := 0) (zi_addp1 row) _ rfl) ?_
      refine xB.run oX5_addSquare 1 (s := (2, [some (.ref 2048), some (.ref 2055), some (.int (zI times)), some (.int (zI (row + 1))), some (.int (zI y12.1))], [], [r0, r1, zH y12.2 zL2 0, r3, r4, r5, r6, r7, r8, r9])) rfl ?_
      refine xB.forget (lv1 := [some (.ref 2048), some (.ref 2055), some (.int (zI times)), some (.int (zI (row + 1))), none]) (xle_same (xle_same (xle_same (xle_same (xle_none (xle_nil)))))) ?_
      exact ih (row + 1) y12.2 H K
set_option maxRecDepth 20000 in
theorem t_X5_addSquareS (r0 : List va_E) (r1 : List va_E) (s2 : zZ) (r3 : List va_E) (r4 : List va_E) (r5 : List va_E) (r6 : List va_E) (r7 : List va_E) (r8 : List va_E) (r9 : List va_E) (times : Int) {rr : zZ} (H : d_X5_addSquareS s2 times = some rr) : xC MX5_addSquare 0 [.ref 2048, .ref 2055, .int (zI times)] ([r0, r1, zH s2 zL2 0, r3, r4, r5, r6, r7, r8, r9]) (none) ([r0, r1, zH rr zL2 0, r3, r4, r5, r6, r7, r8, r9]) := by
  refine ⟨Nat.le_of_ble_eq_true rfl, ?_⟩
  show xBody MX5_addSquare 0 0 [some (.ref 2048), some (.ref 2055), some (.int (zI times)), none, none] [] ([r0, r1, zH s2 zL2 0, r3, r4, r5, r6, r7, r8, r9]) _ _
  unfold d_X5_addSquareS at H
  refine xB.run oX5_addSquare 2 (s := (2, [some (.ref 2048), some (.ref 2055), some (.int (zI times)), some (.int (zI 1)), none], [], [r0, r1, zH s2 zL2 0, r3, r4, r5, r6, r7, r8, r9])) rfl ?_
  obtain ⟨y15, e16, H⟩ := zbd H
  refine l_X5_addSquareS_2 r0 r1 r3 r4 r5 r6 r7 r8 r9 times _ 1 s2 e16 ?_
  obtain rfl := Option.some.inj H
  exact xB.ret oX5_addSquare (r1 := none) rfl rfl rfl
def d_X5_fillTables_2  : Nat → Int → zZ → Option (Int × zZ)
  | 0, _, _ => none
  | uN + 1, j, s2 => if (zr j) then (if (4 : Int) ≤ j then some (j, s2) else (if (0 ≤ j ∧ j < 4) then (if (j.toNat < 4) then (if (0 ≤ j ∧ j < 4) then (if (j.toNat < 4) then (d_X5_fillTables_2 uN (j + 1) (zfl (zfl s2 (3 + j.toNat) 4 0) (8 + j.toNat) 4 0)) else none) else none) else none) else none)) else none
def d_X5_fillTables_35  : Nat → Int → zZ → Option (Int × zZ)
  | 0, _, _ => none
  | uN + 1, j, s2 => if (zr j ∧ zr (s2 0 0)) then (if (s2 0 0) ≤ j then some (j, s2) else (if (0 ≤ (j - 1) ∧ (j - 1) < 6) then (if (0 ≤ j ∧ j < 6) then (if (0 ≤ (j + 1) ∧ (j + 1) < 6) then (if (0 ≤ j ∧ j < 5) then ((d_X5_addSquareB (upz (upz (upz (zfl s2 31 6 0) 31 (j - 1).toNat 1) 31 j.toNat (-2)) 31 (j + 1).toNat 1) ((upz (upz (upz (zfl s2 31 6 0) 31 (j - 1).toNat 1) 31 j.toNat (-2)) 31 (j + 1).toNat 1) 1 j.toNat)).bind fun y10 => d_X5_fillTables_35 uN (j + 1) y10) else none) else none) else none) else none)) else none
def d_X5_fillTables_99  : Nat → Int → zZ → Option (Int × zZ)
  | 0, _, _ => none
  | uN + 1, j, s2 => if (zr j ∧ zr (s2 0 0)) then (if (s2 0 0) ≤ j then some (j, s2) else (if (0 ≤ j ∧ j < 6) then (if (0 ≤ (j + 1) ∧ (j + 1) < 6) then ((d_X5_addSquareS (upz (upz (zfl s2 31 6 0) 31 j.toNat (-1)) 31 (j + 1).toNat 1) 1).bind fun y20 => d_X5_fillTables_99 uN (j + 1) y20) else none) else none)) else none
def d_X5_fillTables (s2 : zZ) : Option (zZ) := (d_X5_fillTables_2 zF 0 s2).bind fun y7 => (d_X5_fillTables_35 zF 1 y7.2).bind fun y17 => (d_X5_fillTables_99 zF 0 y17.2).bind fun y25 => some y25.2
set_option maxRecDepth 20000 in
theorem l_X5_fillTables_2 (r0 : List va_E) (r1 : List va_E) (r3 : List va_E) (r4 : List va_E) (r5 : List va_E) (r6 : List va_E) (r7 : List va_E) (r8 : List va_E) (r9 : List va_E) {r : Option Value} {hp1 : xH} : ∀ (uN : Nat) (j : Int) (s2 : zZ) {uX : Int × zZ}, d_X5_fillTables_2 uN j s2 = some uX → (xBody MX5_fillTables 1 33 [some (.ref 2048), some (.int (zI uX.1))] [] ([r0, r1, zH uX.2 zL2 0, r3, r4, r5, r6, r7, r8, r9]) r hp1) → xBody MX5_fillTables 1 2 [some (.ref 2048), some (.int (zI j))] [] ([r0, r1, zH s2 zL2 0, r3, r4, r5, r6, r7, r8, r9]) r hp1 := by
  intro uN
  induction uN with
  | zero => intro j s2 uX H K; cases H
  | succ uN ih =>
    intro j s2 uX H K
    unfold d_X5_fillTables_2 at H
    refine xB.run oX5_fillTables 2 (s := (4, [some (.ref 2048), some (.int (zI j))], [.int (zI 4), .int (zI j)], [r0, r1, zH s2 zL2 0, r3, r4, r5, r6, r7, r8, r9])) rfl ?_
    obtain ⟨g6, H⟩ := zgd H
    have H := zif H
    refine xB.brE oX5_fillTables (P := (4 : Int) ≤ j) rfl (zc_ge (a := j) (b := 4) ⟨g6, by decide⟩) (fun h1 => ?_) (fun h1 => ?_)
    · have H := H.1 h1
      obtain rfl := Option.some.inj H
      exact K
    · have H := H.2 h1
      refine xB.run oX5_fillTables 3 (s := (12, [some (.ref 2048), some (.int (zI j))], [.int (zI j), .ref 2050], [r0, r1, zH s2 zL2 0, r3, r4, r5, r6, r7, r8, r9])) rfl ?_
      obtain ⟨g5, H⟩ := zgd H
      refine zB.aaldG oX5_fillTables (g := 2) (p := 2) (N := 4) (c := 4) (g2 := 2) (p2 := 3) rfl rfl (by decide) rfl rfl (by decide) (by decide) g5 ?_
      refine xB.run oX5_fillTables 1 (s := (14, [some (.ref 2048), some (.int (zI j))], [.long (zJ 0), .ref (1024 * 2 + (3 + j.toNat))], [r0, r1, zH s2 zL2 0, r3, r4, r5, r6, r7, r8, r9])) rfl ?_
      obtain ⟨g4, H⟩ := zgd H
      refine xB.call oX5_fillTables (M2 := MJ7_fill_d0a16) rfl rfl ((zfillL (hp := [r0, r1, zH s2 zL2 0, r3, r4, r5, r6, r7, r8, r9]) (g := 2) (p := 3 + j.toNat) (N := 4) (L := zL2) 0 rfl (by omega) (by decide) rfl (zg_2_3 _ (by omega)) (by decide)).deep (Nat.zero_le 0)) ?_
      show xBody MX5_fillTables 1 17 [some (.ref 2048), some (.int (zI j))] [] ([r0, r1, zH (zfl s2 (3 + j.toNat) 4 0) zL2 0, r3, r4, r5, r6, r7, r8, r9]) _ _
      refine xB.run oX5_fillTables 3 (s := (22, [some (.ref 2048), some (.int (zI j))], [.int (zI j), .ref 2055], [r0, r1, zH (zfl s2 (3 + j.toNat) 4 0) zL2 0, r3, r4, r5, r6, r7, r8, r9])) rfl ?_
      obtain ⟨g3, H⟩ := zgd H
      refine zB.aaldG oX5_fillTables (g := 2) (p := 7) (N := 4) (c := 4) (g2 := 2) (p2 := 8) rfl rfl (by decide) rfl rfl (by decide) (by decide) g3 ?_
      refine xB.run oX5_fillTables 1 (s := (24, [some (.ref 2048), some (.int (zI j))], [.long (zJ 0), .ref (1024 * 2 + (8 + j.toNat))], [r0, r1, zH (zfl s2 (3 + j.toNat) 4 0) zL2 0, r3, r4, r5, r6, r7, r8, r9])) rfl ?_
      obtain ⟨g2, H⟩ := zgd H
      refine xB.call oX5_fillTables (M2 := MJ7_fill_d0a16) rfl rfl ((zfillL (hp := [r0, r1, zH (zfl s2 (3 + j.toNat) 4 0) zL2 0, r3, r4, r5, r6, r7, r8, r9]) (g := 2) (p := 8 + j.toNat) (N := 4) (L := zL2) 0 rfl (by omega) (by decide) rfl (zg_2_8 _ (by omega)) (by decide)).deep (Nat.zero_le 0)) ?_
      show xBody MX5_fillTables 1 27 [some (.ref 2048), some (.int (zI j))] [] ([r0, r1, zH (zfl (zfl s2 (3 + j.toNat) 4 0) (8 + j.toNat) 4 0) zL2 0, r3, r4, r5, r6, r7, r8, r9]) _ _
      refine zB.inc oX5_fillTables rfl (lv2 := [some (.ref 2048), some (.int (zI (j + 1)))]) (zi_inc (a := 0) (zi_addp1 j) _ rfl) ?_
      refine xB.run oX5_fillTables 1 (s := (2, [some (.ref 2048), some (.int (zI (j + 1)))], [], [r0, r1, zH (zfl (zfl s2 (3 + j.toNat) 4 0) (8 + j.toNat) 4 0) zL2 0, r3, r4, r5, r6, r7, r8, r9])) rfl ?_
      exact ih (j + 1) (zfl (zfl s2 (3 + j.toNat) 4 0) (8 + j.toNat) 4 0) H K
set_option maxRecDepth 20000 in
theorem l_X5_fillTables_35 (r0 : List va_E) (r1 : List va_E) (r3 : List va_E) (r4 : List va_E) (r5 : List va_E) (r6 : List va_E) (r7 : List va_E) (r8 : List va_E) (r9 : List va_E) {r : Option Value} {hp1 : xH} : ∀ (uN : Nat) (j : Int) (s2 : zZ) {uX : Int × zZ}, d_X5_fillTables_35 uN j s2 = some uX → (xBody MX5_fillTables 1 97 [some (.ref 2048), some (.int (zI uX.1))] [] ([r0, r1, zH uX.2 zL2 0, r3, r4, r5, r6, r7, r8, r9]) r hp1) → xBody MX5_fillTables 1 35 [some (.ref 2048), some (.int (zI j))] [] ([r0, r1, zH s2 zL2 0, r3, r4, r5, r6, r7, r8, r9]) r hp1 := by
  intro uN
  induction uN with
  | zero => intro j s2 uX H K; cases H
  | succ uN ih =>
    intro j s2 uX H K
    unfold d_X5_fillTables_35 at H
    refine xB.run oX5_fillTables 3 (s := (40, [some (.ref 2048), some (.int (zI j))], [.int (zI (s2 0 0)), .int (zI j)], [r0, r1, zH s2 zL2 0, r3, r4, r5, r6, r7, r8, r9])) rfl ?_
    obtain ⟨g16, H⟩ := zgd H
    have H := zif H
    refine xB.brE oX5_fillTables (P := (s2 0 0) ≤ j) rfl (zc_ge (a := j) (b := s2 0 0) g16) (fun h9 => ?_) (fun h9 => ?_)
    · have H := H.1 h9
      obtain rfl := Option.some.inj H
      exact K
    · have H := H.2 h9
      refine xB.run oX5_fillTables 3 (s := (48, [some (.ref 2048), some (.int (zI j))], [.int (zI 0), .ref 2079], [r0, r1, zH s2 zL2 0, r3, r4, r5, r6, r7, r8, r9])) rfl ?_
      refine xB.call oX5_fillTables (M2 := MJ7_fill_53178) rfl rfl ((zfillI (hp := [r0, r1, zH s2 zL2 0, r3, r4, r5, r6, r7, r8, r9]) (g := 2) (p := 31) (N := 6) (L := zL2) 0 rfl (by decide) (by decide) rfl rfl (by decide)).deep (Nat.zero_le 0)) ?_
      show xBody MX5_fillTables 1 51 [some (.ref 2048), some (.int (zI j))] [] ([r0, r1, zH (zfl s2 31 6 0) zL2 0, r3, r4, r5, r6, r7, r8, r9]) _ _
      refine xB.run oX5_fillTables 4 (s := (57, [some (.ref 2048), some (.int (zI j))], [.int (zI 1), .int (zI j), .ref 2079], [r0, r1, zH (zfl s2 31 6 0) zL2 0, r3, r4, r5, r6, r7, r8, r9])) rfl ?_
      refine zB.opi oX5_fillTables rfl (zi_sub j 1) ?_
      refine xB.run oX5_fillTables 1 (s := (59, [some (.ref 2048), some (.int (zI j))], [.int (zI 1), .int (zI (j - 1)), .ref 2079], [r0, r1, zH (zfl s2 31 6 0) zL2 0, r3, r4, r5, r6, r7, r8, r9])) rfl ?_
      obtain ⟨g15, H⟩ := zgd H
      refine zB.iast oX5_fillTables (g := 2) (p := 31) (N := 6) (i := j - 1) (hp1 := [r0, r1, zH (upz (zfl s2 31 6 0) 31 (j - 1).toNat 1) zL2 0, r3, r4, r5, r6, r7, r8, r9]) rfl rfl (by decide) (by decide) rfl rfl (by decide) g15 rfl ?_
      refine xB.run oX5_fillTables 4 (s := (67, [some (.ref 2048), some (.int (zI j))], [.int (zI (-2)), .int (zI j), .ref 2079], [r0, r1, zH (upz (zfl s2 31 6 0) 31 (j - 1).toNat 1) zL2 0, r3, r4, r5, r6, r7, r8, r9])) rfl ?_
      obtain ⟨g14, H⟩ := zgd H
      refine zB.iast oX5_fillTables (g := 2) (p := 31) (N := 6) (i := j) (hp1 := [r0, r1, zH (upz (upz (zfl s2 31 6 0) 31 (j - 1).toNat 1) 31 j.toNat (-2)) zL2 0, r3, r4, r5, r6, r7, r8, r9]) rfl rfl (by decide) (by decide) rfl rfl (by decide) g14 rfl ?_
      refine xB.run oX5_fillTables 4 (s := (74, [some (.ref 2048), some (.int (zI j))], [.int (zI 1), .int (zI j), .ref 2079], [r0, r1, zH (upz (upz (zfl s2 31 6 0) 31 (j - 1).toNat 1) 31 j.toNat (-2)) zL2 0, r3, r4, r5, r6, r7, r8, r9])) rfl ?_
      refine zB.opi oX5_fillTables rfl (zi_add j 1) ?_
      refine xB.run oX5_fillTables 1 (s := (76, [some (.ref 2048), some (.int (zI j))], [.int (zI 1), .int (zI (j + 1)), .ref 2079], [r0, r1, zH (upz (upz (zfl s2 31 6 0) 31 (j - 1).toNat 1) 31 j.toNat (-2)) zL2 0, r3, r4, r5, r6, r7, r8, r9])) rfl ?_
      obtain ⟨g13, H⟩ := zgd H
      refine zB.iast oX5_fillTables (g := 2) (p := 31) (N := 6) (i := j + 1) (hp1 := [r0, r1, zH (upz (upz (upz (zfl s2 31 6 0) 31 (j - 1).toNat 1) 31 j.toNat (-2)) 31 (j + 1).toNat 1) zL2 0, r3, r4, r5, r6, r7, r8, r9]) rfl rfl (by decide) (by decide) rfl rfl (by decide) g13 rfl ?_
      refine xB.run oX5_fillTables 6 (s := (87, [some (.ref 2048), some (.int (zI j))], [.int (zI j), .ref 2049, .ref 2050, .ref 2048], [r0, r1, zH (upz (upz (upz (zfl s2 31 6 0) 31 (j - 1).toNat 1) 31 j.toNat (-2)) 31 (j + 1).toNat 1) zL2 0, r3, r4, r5, r6, r7, r8, r9])) rfl ?_
      obtain ⟨g12, H⟩ := zgd H
      refine zB.iald oX5_fillTables (g := 2) (p := 1) (N := 5) (i := j) rfl rfl (by decide) rfl rfl (by decide) g12 ?_
      obtain ⟨y10, e11, H⟩ := zbd H
      refine xB.call oX5_fillTables (M2 := MX5_addSquare) rfl rfl ((t_X5_addSquareB r0 r1 (upz (upz (upz (zfl s2 31 6 0) 31 (j - 1).toNat 1) 31 j.toNat (-2)) 31 (j + 1).toNat 1) r3 r4 r5 r6 r7 r8 r9 ((upz (upz (upz (zfl s2 31 6 0) 31 (j - 1).toNat 1) 31 j.toNat (-2)) 31 (j + 1).toNat 1) 1 j.toNat) e11).deep (by decide : 0 ≤ 0)) ?_
      show xBody MX5_fillTables 1 91 [some (.ref 2048), some (.int (zI j))] [] ([r0, r1, zH y10 zL2 0, r3, r4, r5, r6, r7, r8, r9]) _ _
      refine zB.inc oX5_fillTables rfl (lv2 := [some (.ref 2048), some (.int (zI (j + 1)))]) (zi_inc (a := 0) (zi_addp1 j) _ rfl) ?_
      refine xB.run oX5_fillTables 1 (s := (35, [some (.ref 2048), some (.int (zI (j + 1)))], [], [r0, r1, zH y10 zL2 0, r3, r4, r5, r6, r7, r8, r9])) rfl ?_
      exact ih (j + 1) y10 H K
set_option maxRecDepth 20000 in
theorem l_X5_fillTables_99 (r0 : List va_E) (r1 : List va_E) (r3 : List va_E) (r4 : List va_E) (r5 : List va_E) (r6 : List va_E) (r7 : List va_E) (r8 : List va_E) (r9 : List va_E) {r : Option Value} {hp1 : xH} : ∀ (uN : Nat) (j : Int) (s2 : zZ) {uX : Int × zZ}, d_X5_fillTables_99 uN j s2 = some uX → (xBody MX5_fillTables 1 146 [some (.ref 2048), some (.int (zI uX.1))] [] ([r0, r1, zH uX.2 zL2 0, r3, r4, r5, r6, r7, r8, r9]) r hp1) → xBody MX5_fillTables 1 99 [some (.ref 2048), some (.int (zI j))] [] ([r0, r1, zH s2 zL2 0, r3, r4, r5, r6, r7, r8, r9]) r hp1 := by
  intro uN
  induction uN with
  | zero => intro j s2 uX H K; cases H
  | succ uN ih =>
    intro j s2 uX H K
    unfold d_X5_fillTables_99 at H
    refine xB.run oX5_fillTables 3 (s := (104, [some (.ref 2048), some (.int (zI j))], [.int (zI (s2 0 0)), .int (zI j)], [r0, r1, zH s2 zL2 0, r3, r4, r5, r6, r7, r8, r9])) rfl ?_
    obtain ⟨g24, H⟩ := zgd H
    have H := zif H
    refine xB.brE oX5_fillTables (P := (s2 0 0) ≤ j) rfl (zc_ge (a := j) (b := s2 0 0) g24) (fun h19 => ?_) (fun h19 => ?_)
    · have H := H.1 h19
      obtain rfl := Option.some.inj H
      exact K
    · have H := H.2 h19
      refine xB.run oX5_fillTables 3 (s := (112, [some (.ref 2048), some (.int (zI j))], [.int (zI 0), .ref 2079], [r0, r1, zH s2 zL2 0, r3, r4, r5, r6, r7, r8, r9])) rfl ?_
      refine xB.call oX5_fillTables (M2 := MJ7_fill_53178) rfl rfl ((zfillI (hp := [r0, r1, zH s2 zL2 0, r3, r4, r5, r6, r7, r8, r9]) (g := 2) (p := 31) (N := 6) (L := zL2) 0 rfl (by decide) (by decide) rfl rfl (by decide)).deep (Nat.zero_le 0)) ?_
      show xBody MX5_fillTables 1 115 [some (.ref 2048), some (.int (zI j))] [] ([r0, r1, zH (zfl s2 31 6 0) zL2 0, r3, r4, r5, r6, r7, r8, r9]) _ _
      refine xB.run oX5_fillTables 4 (s := (121, [some (.ref 2048), some (.int (zI j))], [.int (zI (-1)), .int (zI j), .ref 2079], [r0, r1, zH (zfl s2 31 6 0) zL2 0, r3, r4, r5, r6, r7, r8, r9])) rfl ?_
      obtain ⟨g23, H⟩ := zgd H
      refine zB.iast oX5_fillTables (g := 2) (p := 31) (N := 6) (i := j) (hp1 := [r0, r1, zH (upz (zfl s2 31 6 0) 31 j.toNat (-1)) zL2 0, r3, r4, r5, r6, r7, r8, r9]) rfl rfl (by decide) (by decide) rfl rfl (by decide) g23 rfl ?_
      refine xB.run oX5_fillTables 4 (s := (128, [some (.ref 2048), some (.int (zI j))], [.int (zI 1), .int (zI j), .ref 2079], [r0, r1, zH (upz (zfl s2 31 6 0) 31 j.toNat (-1)) zL2 0, r3, r4, r5, r6, r7, r8, r9])) rfl ?_
      refine zB.opi oX5_fillTables rfl (zi_add j 1) ?_
      refine xB.run oX5_fillTables 1 (s := (130, [some (.ref 2048), some (.int (zI j))], [.int (zI 1), .int (zI (j + 1)), .ref 2079], [r0, r1, zH (upz (zfl s2 31 6 0) 31 j.toNat (-1)) zL2 0, r3, r4, r5, r6, r7, r8, r9])) rfl ?_
      obtain ⟨g22, H⟩ := zgd H
      refine zB.iast oX5_fillTables (g := 2) (p := 31) (N := 6) (i := j + 1) (hp1 := [r0, r1, zH (upz (upz (zfl s2 31 6 0) 31 j.toNat (-1)) 31 (j + 1).toNat 1) zL2 0, r3, r4, r5, r6, r7, r8, r9]) rfl rfl (by decide) (by decide) rfl rfl (by decide) g22 rfl ?_
      refine xB.run oX5_fillTables 4 (s := (137, [some (.ref 2048), some (.int (zI j))], [.int (zI 1), .ref 2055, .ref 2048], [r0, r1, zH (upz (upz (zfl s2 31 6 0) 31 j.toNat (-1)) 31 (j + 1).toNat 1) zL2 0, r3, r4, r5, r6, r7, r8, r9])) rfl ?_
      obtain ⟨y20, e21, H⟩ := zbd H
      refine xB.call oX5_fillTables (M2 := MX5_addSquare) rfl rfl ((t_X5_addSquareS r0 r1 (upz (upz (zfl s2 31 6 0) 31 j.toNat (-1)) 31 (j + 1).toNat 1) r3 r4 r5 r6 r7 r8 r9 1 e21).deep (by decide : 0 ≤ 0)) ?_
      show xBody MX5_fillTables 1 140 [some (.ref 2048), some (.int (zI j))] [] ([r0, r1, zH y20 zL2 0, r3, r4, r5, r6, r7, r8, r9]) _ _
      refine zB.inc oX5_fillTables rfl (lv2 := [some (.ref 2048), some (.int (zI (j + 1)))]) (zi_inc (a := 0) (zi_addp1 j) _ rfl) ?_
      refine xB.run oX5_fillTables 1 (s := (99, [some (.ref 2048), some (.int (zI (j + 1)))], [], [r0, r1, zH y20 zL2 0, r3, r4, r5, r6, r7, r8, r9])) rfl ?_
      exact ih (j + 1) y20 H K
set_option maxRecDepth 20000 in
theorem t_X5_fillTables (r0 : List va_E) (r1 : List va_E) (s2 : zZ) (r3 : List va_E) (r4 : List va_E) (r5 : List va_E) (r6 : List va_E) (r7 : List va_E) (r8 : List va_E) (r9 : List va_E) {rr : zZ} (H : d_X5_fillTables s2 = some rr) : xC MX5_fillTables 1 [.ref 2048] ([r0, r1, zH s2 zL2 0, r3, r4, r5, r6, r7, r8, r9]) (none) ([r0, r1, zH rr zL2 0, r3, r4, r5, r6, r7, r8, r9]) := by
  refine ⟨Nat.le_of_ble_eq_true rfl, ?_⟩
  show xBody MX5_fillTables 1 0 [some (.ref 2048), none] [] ([r0, r1, zH s2 zL2 0, r3, r4, r5, r6, r7, r8, r9]) _ _
  unfold d_X5_fillTables at H
  refine xB.run oX5_fillTables 2 (s := (2, [some (.ref 2048), some (.int (zI 0))], [], [r0, r1, zH s2 zL2 0, r3, r4, r5, r6, r7, r8, r9])) rfl ?_
  obtain ⟨y7, e8, H⟩ := zbd H
  refine l_X5_fillTables_2 r0 r1 r3 r4 r5 r6 r7 r8 r9  _ 0 s2 e8 ?_
  refine xB.run oX5_fillTables 2 (s := (35, [some (.ref 2048), some (.int (zI 1))], [], [r0, r1, zH y7.2 zL2 0, r3, r4, r5, r6, r7, r8, r9])) rfl ?_
  obtain ⟨y17, e18, H⟩ := zbd H
  refine l_X5_fillTables_35 r0 r1 r3 r4 r5 r6 r7 r8 r9  _ 1 y7.2 e18 ?_
  refine xB.run oX5_fillTables 2 (s := (99, [some (.ref 2048), some (.int (zI 0))], [], [r0, r1, zH y17.2 zL2 0, r3, r4, r5, r6, r7, r8, r9])) rfl ?_
  obtain ⟨y25, e26, H⟩ := zbd H
  refine l_X5_fillTables_99 r0 r1 r3 r4 r5 r6 r7 r8 r9  _ 0 y17.2 e26 ?_
  obtain rfl := Option.some.inj H
  exact xB.ret oX5_fillTables (r1 := none) rfl rfl rfl
def d_X5_makeMinor_77 (set : Int) (row : Int) (w3 : Int) (col : Int) (sg : Int) (w7 : Int) : Nat → Int → zZ → Option (Int × zZ)
  | 0, _, _ => none
  | uN + 1, k, s2 => if (zr k ∧ zr row) then (if row < k then some (k, s2) else (if ((w3.toNat < 16) ∧ (0 ≤ k ∧ k < 5)) then (if (0 ≤ row ∧ row < 4) then (if ((row.toNat < 4) ∧ (0 ≤ col ∧ col < 4)) then (if ((w7.toNat < 16) ∧ (0 ≤ k ∧ k < 5)) then (if ((w3.toNat < 16) ∧ (0 ≤ k ∧ k < 5)) then (if ((w3.toNat < 16) ∧ (0 ≤ (k + 1) ∧ (k + 1) < 5)) then (if (0 ≤ row ∧ row < 4) then (if ((row.toNat < 4) ∧ (0 ≤ col ∧ col < 4)) then (if ((w7.toNat < 16) ∧ (0 ≤ k ∧ k < 5)) then (if ((w3.toNat < 16) ∧ (0 ≤ (k + 1) ∧ (k + 1) < 5)) then (d_X5_makeMinor_77 set row w3 col sg w7 uN (k + 1) (upz (upz s2 (13 + w3.toNat) k.toNat ((s2 (13 + w3.toNat) k.toNat) + ((sg * (s2 (3 + row.toNat) col.toNat)) * (s2 (13 + w7.toNat) k.toNat)))) (13 + w3.toNat) (k + 1).toNat (((upz s2 (13 + w3.toNat) k.toNat ((s2 (13 + w3.toNat) k.toNat) + ((sg * (s2 (3 + row.toNat) col.toNat)) * (s2 (13 + w7.toNat) k.toNat)))) (13 + w3.toNat) (k + 1).toNat) - ((sg * ((upz s2 (13 + w3.toNat) k.toNat ((s2 (13 + w3.toNat) k.toNat) + ((sg * (s2 (3 + row.toNat) col.toNat)) * (s2 (13 + w7.toNat) k.toNat)))) (8 + row.toNat) col.toNat)) * ((upz s2 (13 + w3.toNat) k.toNat ((s2 (13 + w3.toNat) k.toNat) + ((sg * (s2 (3 + row.toNat) col.toNat)) * (s2 (13 + w7.toNat) k.toNat)))) (13 + w7.toNat) k.toNat))))) else none) else none) else none) else none) else none) else none) else none) else none) else none) else none)) else none
def d_X5_makeMinor_22 (set : Int) (row : Int) (w3 : Int) : Nat → Int → zZ → Option (Int × zZ)
  | 0, _, _ => none
  | uN + 1, col, s2 => if (zr col) then (if (4 : Int) ≤ col then some (col, s2) else (if (zr set ∧ (0 ≤ col ∧ col < 32)) then (if (zr ((set / (2 : Int) ^ col.toNat) % 2)) then (if ((set / (2 : Int) ^ col.toNat) % 2) ≠ 1 then (d_X5_makeMinor_22 set row w3 uN (col + 1) s2) else (if (zr set ∧ (0 ≤ (col + 1) ∧ (col + 1) < 32)) then ((d_J6_bitCount (set / (2 : Int) ^ (col + 1).toNat)).bind fun y5 => if (zr (y5 % 2)) then (if (y5 % 2) ≠ 0 then (if (0 ≤ col ∧ col < 32) then (if ((0 ≤ set ∧ zr set) ∧ (0 ≤ ((2 : Int) ^ col.toNat) ∧ zr ((2 : Int) ^ col.toNat))) then (if (0 ≤ ((set.toNat ^^^ ((2 : Int) ^ col.toNat).toNat : Nat) : Int) ∧ ((set.toNat ^^^ ((2 : Int) ^ col.toNat).toNat : Nat) : Int) < 16) then ((d_X5_makeMinor_77 set row w3 col (-1) ((set.toNat ^^^ ((2 : Int) ^ col.toNat).toNat : Nat) : Int) zF 0 s2).bind fun y20 => d_X5_makeMinor_22 set row w3 uN (col + 1) y20.2) else none) else none) else none) else (if (0 ≤ col ∧ col < 32) then (if ((0 ≤ set ∧ zr set) ∧ (0 ≤ ((2 : Int) ^ col.toNat) ∧ zr ((2 : Int) ^ col.toNat))) then (if (0 ≤ ((set.toNat ^^^ ((2 : Int) ^ col.toNat).toNat : Nat) : Int) ∧ ((set.toNat ^^^ ((2 : Int) ^ col.toNat).toNat : Nat) : Int) < 16) then ((d_X5_makeMinor_77 set row w3 col 1 ((set.toNat ^^^ ((2 : Int) ^ col.toNat).toNat : Nat) : Int) zF 0 s2).bind fun y25 => d_X5_makeMinor_22 set row w3 uN (col + 1) y25.2) else none) else none) else none)) else none) else none)) else none) else none)) else none
def d_X5_makeMinor (s2 : zZ) (set : Int) : Option (zZ) := (d_J6_bitCount set).bind fun y1 => if (0 ≤ set ∧ set < 16) then (if (set.toNat < 16) then ((d_X5_makeMinor_22 set (y1 - 1) set zF 0 (zfl s2 (13 + set.toNat) 5 0)).bind fun y35 => some y35.2) else none) else none
set_option maxRecDepth 20000 in
theorem l_X5_makeMinor_77 (r0 : List va_E) (r1 : List va_E) (r3 : List va_E) (r4 : List va_E) (r5 : List va_E) (r6 : List va_E) (r7 : List va_E) (r8 : List va_E) (r9 : List va_E) (set : Int) (row : Int) (w3 : Int) (col : Int) (sg : Int) (w7 : Int) {r : Option Value} {hp1 : xH} : ∀ (uN : Nat) (k : Int) (s2 : zZ) {uX : Int × zZ}, d_X5_makeMinor_77 set row w3 col sg w7 uN k s2 = some uX → (xBody MX5_makeMinor 1 141 [some (.ref 2048), some (.int (zI set)), some (.int (zI row)), some (.ref (1024 * 2 + (13 + w3.toNat))), some (.int (zI col)), some (.long (zJ sg)), none, some (.ref (1024 * 2 + (13 + w7.toNat))), some (.int (zI uX.1))] [] ([r0, r1, zH uX.2 zL2 0, r3, r4, r5, r6, r7, r8, r9]) r hp1) → xBody MX5_makeMinor 1 77 [some (.ref 2048), some (.int (zI set)), some (.int (zI row)), some (.ref (1024 * 2 + (13 + w3.toNat))), some (.int (zI col)), some (.long (zJ sg)), none, some (.ref (1024 * 2 + (13 + w7.toNat))), some (.int (zI k))] [] ([r0, r1, zH s2 zL2 0, r3, r4, r5, r6, r7, r8, r9]) r hp1 := by
  intro uN
  induction uN with
  | zero => intro k s2 uX H K; cases H
  | succ uN ih =>
    intro k s2 uX H K
    unfold d_X5_makeMinor_77 at H
    refine xB.run oX5_makeMinor 2 (s := (80, [some (.ref 2048), some (.int (zI set)), some (.int (zI row)), some (.ref (1024 * 2 + (13 + w3.toNat))), some (.int (zI col)), some (.long (zJ sg)), none, some (.ref (1024 * 2 + (13 + w7.toNat))), some (.int (zI k))], [.int (zI row), .int (zI k)], [r0, r1, zH s2 zL2 0, r3, r4, r5, r6, r7, r8, r9])) rfl ?_
    obtain ⟨g19, H⟩ := zgd H
    have H := zif H
    refine xB.brE oX5_makeMinor (P := row < k) rfl (zc_gt (a := k) (b := row) g19) (fun h8 => ?_) (fun h8 => ?_)
    · have H := H.1 h8
      obtain rfl := Option.some.inj H
      exact K
    · have H := H.2 h8
      refine xB.run oX5_makeMinor 3 (s := (87, [some (.ref 2048), some (.int (zI set)), some (.int (zI row)), some (.ref (1024 * 2 + (13 + w3.toNat))), some (.int (zI col)), some (.long (zJ sg)), none, some (.ref (1024 * 2 + (13 + w7.toNat))), some (.int (zI k))], [.int (zI k), .ref (1024 * 2 + (13 + w3.toNat)), .int (zI k), .ref (1024 * 2 + (13 + w3.toNat))], [r0, r1, zH s2 zL2 0, r3, r4, r5, r6, r7, r8, r9])) rfl ?_
      obtain ⟨g18, H⟩ := zgd H
      refine zB.lald oX5_makeMinor (g := 2) (p := 13 + w3.toNat) (N := 5) (i := k) rfl rfl (by omega) rfl (zg_2_13 _ (by omega)) (by decide) g18.2 ?_
      refine xB.run oX5_makeMinor 4 (s := (95, [some (.ref 2048), some (.int (zI set)), some (.int (zI row)), some (.ref (1024 * 2 + (13 + w3.toNat))), some (.int (zI col)), some (.long (zJ sg)), none, some (.ref (1024 * 2 + (13 + w7.toNat))), some (.int (zI k))], [.int (zI row), .ref 2050, .long (zJ sg), .long (zJ (s2 (13 + w3.toNat) k.toNat)), .int (zI k), .ref (1024 * 2 + (13 + w3.toNat))], [r0, r1, zH s2 zL2 0, r3, r4, r5, r6, r7, r8, r9])) rfl ?_
      obtain ⟨g17, H⟩ := zgd H
      refine zB.aaldG oX5_makeMinor (g := 2) (p := 2) (N := 4) (c := 4) (g2 := 2) (p2 := 3) rfl rfl (by decide) rfl rfl (by decide) (by decide) g17 ?_
      refine xB.run oX5_makeMinor 1 (s := (98, [some (.ref 2048), some (.int (zI set)), some (.int (zI row)), some (.ref (1024 * 2 + (13 + w3.toNat))), some (.int (zI col)), some (.long (zJ sg)), none, some (.ref (1024 * 2 + (13 + w7.toNat))), some (.int (zI k))], [.int (zI col), .ref (1024 * 2 + (3 + row.toNat)), .long (zJ sg), .long (zJ (s2 (13 + w3.toNat) k.toNat)), .int (zI k), .ref (1024 * 2 + (13 + w3.toNat))], [r0, r1, zH s2 zL2 0, r3, r4, r5, r6, r7, r8, r9])) rfl ?_
      obtain ⟨g16, H⟩ := zgd H
      refine zB.lald oX5_makeMinor (g := 2) (p := 3 + row.toNat) (N := 4) (i := col) rfl rfl (by omega) rfl (zg_2_3 _ (by omega)) (by decide) g16.2 ?_
      refine zB.opl oX5_makeMinor rfl (zj_mul sg (s2 (3 + row.toNat) col.toNat)) ?_
      refine xB.run oX5_makeMinor 2 (s := (104, [some (.ref 2048), some (.int (zI set)), some (.int (zI row)), some (.ref (1024 * 2 + (13 + w3.toNat))), some (.int (zI col)), some (.long (zJ sg)), none, some (.ref (1024 * 2 + (13 + w7.toNat))), some (.int (zI k))], [.int (zI k), .ref (1024 * 2 + (13 + w7.toNat)), .long (zJ (sg * (s2 (3 + row.toNat) col.toNat))), .long (zJ (s2 (13 + w3.toNat) k.toNat)), .int (zI k), .ref (1024 * 2 + (13 + w3.toNat))], [r0, r1, zH s2 zL2 0, r3, r4, r5, r6, r7, r8, r9])) rfl ?_
      obtain ⟨g15, H⟩ := zgd H
      refine zB.lald oX5_makeMinor (g := 2) (p := 13 + w7.toNat) (N := 5) (i := k) rfl rfl (by omega) rfl (zg_2_13 _ (by omega)) (by decide) g15.2 ?_
      refine zB.opl oX5_makeMinor rfl (zj_mul (sg * (s2 (3 + row.toNat) col.toNat)) (s2 (13 + w7.toNat) k.toNat)) ?_
      refine zB.opl oX5_makeMinor rfl (zj_add (s2 (13 + w3.toNat) k.toNat) ((sg * (s2 (3 + row.toNat) col.toNat)) * (s2 (13 + w7.toNat) k.toNat))) ?_
      obtain ⟨g14, H⟩ := zgd H
      refine zB.last oX5_makeMinor (g := 2) (p := 13 + w3.toNat) (N := 5) (i := k) (hp1 := [r0, r1, zH (upz s2 (13 + w3.toNat) k.toNat ((s2 (13 + w3.toNat) k.toNat) + ((sg * (s2 (3 + row.toNat) col.toNat)) * (s2 (13 + w7.toNat) k.toNat)))) zL2 0, r3, r4, r5, r6, r7, r8, r9]) rfl rfl (by omega) (by decide) rfl (zg_2_13 _ (by omega)) (by decide) g14.2 rfl ?_
      refine xB.run oX5_makeMinor 3 (s := (112, [some (.ref 2048), some (.int (zI set)), some (.int (zI row)), some (.ref (1024 * 2 + (13 + w3.toNat))), some (.int (zI col)), some (.long (zJ sg)), none, some (.ref (1024 * 2 + (13 + w7.toNat))), some (.int (zI k))], [.int (zI 1), .int (zI k), .ref (1024 * 2 + (13 + w3.toNat))], [r0, r1, zH (upz s2 (13 + w3.toNat) k.toNat ((s2 (13 + w3.toNat) k.toNat) + ((sg * (s2 (3 + row.toNat) col.toNat)) * (s2 (13 + w7.toNat) k.toNat)))) zL2 0, r3, r4, r5, r6, r7, r8, r9])) rfl ?_
      refine zB.opi oX5_makeMinor rfl (zi_add k 1) ?_
      refine xB.run oX5_makeMinor 1 (s := (114, [some (.ref 2048), some (.int (zI set)), some (.int (zI row)), some (.ref (1024 * 2 + (13 + w3.toNat))), some (.int (zI col)), some (.long (zJ sg)), none, some (.ref (1024 * 2 + (13 + w7.toNat))), some (.int (zI k))], [.int (zI (k + 1)), .ref (1024 * 2 + (13 + w3.toNat)), .int (zI (k + 1)), .ref (1024 * 2 + (13 + w3.toNat))], [r0, r1, zH (upz s2 (13 + w3.toNat) k.toNat ((s2 (13 + w3.toNat) k.toNat) + ((sg * (s2 (3 + row.toNat) col.toNat)) * (s2 (13 + w7.toNat) k.toNat)))) zL2 0, r3, r4, r5, r6, r7, r8, r9])) rfl ?_
      obtain ⟨g13, H⟩ := zgd H
      refine zB.lald oX5_makeMinor (g := 2) (p := 13 + w3.toNat) (N := 5) (i := k + 1) rfl rfl (by omega) rfl (zg_2_13 _ (by omega)) (by decide) g13.2 ?_
      refine xB.run oX5_makeMinor 4 (s := (122, [some (.ref 2048), some (.int (zI set)), some (.int (zI row)), some (.ref (1024 * 2 + (13 + w3.toNat))), some (.int (zI col)), some (.long (zJ sg)), none, some (.ref (1024 * 2 + (13 + w7.toNat))), some (.int (zI k))], [.int (zI row), .ref 2055, .long (zJ sg), .long (zJ ((upz s2 (13 + w3.toNat) k.toNat ((s2 (13 + w3.toNat) k.toNat) + ((sg * (s2 (3 + row.toNat) col.toNat)) * (s2 (13 + w7.toNat) k.toNat)))) (13 + w3.toNat) (k + 1).toNat)), .int (zI (k + 1)), .ref (1024 * 2 + (13 + w3.toNat))], [r0, r1, zH (upz s2 (13 + w3.toNat) k.toNat ((s2 (13 + w3.toNat) k.toNat) + ((sg * (s2 (3 + row.toNat) col.toNat)) * (s2 (13 + w7.toNat) k.toNat)))) zL2 0, r3, r4, r5, r6, r7, r8, r9])) rfl ?_
      obtain ⟨g12, H⟩ := zgd H
      refine zB.aaldG oX5_makeMinor (g := 2) (p := 7) (N := 4) (c := 4) (g2 := 2) (p2 := 8) rfl rfl (by decide) rfl rfl (by decide) (by decide) g12 ?_
      refine xB.run oX5_makeMinor 1 (s := (125, [some (.ref 2048), some (.int (zI set)), some (.int (zI row)), some (.ref (1024 * 2 + (13 + w3.toNat))), some (.int (zI col)), some (.long (zJ sg)), none, some (.ref (1024 * 2 + (13 + w7.toNat))), some (.int (zI k))], [.int (zI col), .ref (1024 * 2 + (8 + row.toNat)), .long (zJ sg), .long (zJ ((upz s2 (13 + w3.toNat) k.toNat ((s2 (13 + w3.toNat) k.toNat) + ((sg * (s2 (3 + row.toNat) col.toNat)) * (s2 (13 + w7.toNat) k.toNat)))) (13 + w3.toNat) (k + 1).toNat)), .int (zI (k + 1)), .ref (1024 * 2 + (13 + w3.toNat))], [r0, r1, zH (upz s2 (13 + w3.toNat) k.toNat ((s2 (13 + w3.toNat) k.toNat) + ((sg * (s2 (3 + row.toNat) col.toNat)) * (s2 (13 + w7.toNat) k.toNat)))) zL2 0, r3, r4, r5, r6, r7, r8, r9])) rfl ?_
      obtain ⟨g11, H⟩ := zgd H
      refine zB.lald oX5_makeMinor (g := 2) (p := 8 + row.toNat) (N := 4) (i := col) rfl rfl (by omega) rfl (zg_2_8 _ (by omega)) (by decide) g11.2 ?_
      refine zB.opl oX5_makeMinor rfl (zj_mul sg ((upz s2 (13 + w3.toNat) k.toNat ((s2 (13 + w3.toNat) k.toNat) + ((sg * (s2 (3 + row.toNat) col.toNat)) * (s2 (13 + w7.toNat) k.toNat)))) (8 + row.toNat) col.toNat)) ?_
      refine xB.run oX5_makeMinor 2 (s := (131, [some (.ref 2048), some (.int (zI set)), some (.int (zI row)), some (.ref (1024 * 2 + (13 + w3.toNat))), some (.int (zI col)), some (.long (zJ sg)), none, some (.ref (1024 * 2 + (13 + w7.toNat))), some (.int (zI k))], [.int (zI k), .ref (1024 * 2 + (13 + w7.toNat)), .long (zJ (sg * ((upz s2 (13 + w3.toNat) k.toNat ((s2 (13 + w3.toNat) k.toNat) + ((sg * (s2 (3 + row.toNat) col.toNat)) * (s2 (13 + w7.toNat) k.toNat)))) (8 + row.toNat) col.toNat))), .long (zJ ((upz s2 (13 + w3.toNat) k.toNat ((s2 (13 + w3.toNat) k.toNat) + ((sg * (s2 (3 + row.toNat) col.toNat)) * (s2 (13 + w7.toNat) k.toNat)))) (13 + w3.toNat) (k + 1).toNat)), .int (zI (k + 1)), .ref (1024 * 2 + (13 + w3.toNat))], [r0, r1, zH (upz s2 (13 + w3.toNat) k.toNat ((s2 (13 + w3.toNat) k.toNat) + ((sg * (s2 (3 + row.toNat) col.toNat)) * (s2 (13 + w7.toNat) k.toNat)))) zL2 0, r3, r4, r5, r6, r7, r8, r9])) rfl ?_
      obtain ⟨g10, H⟩ := zgd H
      refine zB.lald oX5_makeMinor (g := 2) (p := 13 + w7.toNat) (N := 5) (i := k) rfl rfl (by omega) rfl (zg_2_13 _ (by omega)) (by decide) g10.2 ?_
      refine zB.opl oX5_makeMinor rfl (zj_mul (sg * ((upz s2 (13 + w3.toNat) k.toNat ((s2 (13 + w3.toNat) k.toNat) + ((sg * (s2 (3 + row.toNat) col.toNat)) * (s2 (13 + w7.toNat) k.toNat)))) (8 + row.toNat) col.toNat)) ((upz s2 (13 + w3.toNat) k.toNat ((s2 (13 + w3.toNat) k.toNat) + ((sg * (s2 (3 + row.toNat) col.toNat)) * (s2 (13 + w7.toNat) k.toNat)))) (13 + w7.toNat) k.toNat)) ?_
      refine zB.opl oX5_makeMinor rfl (zj_sub ((upz s2 (13 + w3.toNat) k.toNat ((s2 (13 + w3.toNat) k.toNat) + ((sg * (s2 (3 + row.toNat) col.toNat)) * (s2 (13 + w7.toNat) k.toNat)))) (13 + w3.toNat) (k + 1).toNat) ((sg * ((upz s2 (13 + w3.toNat) k.toNat ((s2 (13 + w3.toNat) k.toNat) + ((sg * (s2 (3 + row.toNat) col.toNat)) * (s2 (13 + w7.toNat) k.toNat)))) (8 + row.toNat) col.toNat)) * ((upz s2 (13 + w3.toNat) k.toNat ((s2 (13 + w3.toNat) k.toNat) + ((sg * (s2 (3 + row.toNat) col.toNat)) * (s2 (13 + w7.toNat) k.toNat)))) (13 + w7.toNat) k.toNat))) ?_
      obtain ⟨g9, H⟩ := zgd H
      refine zB.last oX5_makeMinor (g := 2) (p := 13 + w3.toNat) (N := 5) (i := k + 1) (hp1 := [r0, r1, zH (upz (upz s2 (13 + w3.toNat) k.toNat ((s2 (13 + w3.toNat) k.toNat) + ((sg * (s2 (3 + row.toNat) col.toNat)) * (s2 (13 + w7.toNat) k.toNat)))) (13 + w3.toNat) (k + 1).toNat (((upz s2 (13 + w3.toNat) k.toNat ((s2 (13 + w3.toNat) k.toNat) + ((sg * (s2 (3 + row.toNat) col.toNat)) * (s2 (13 + w7.toNat) k.toNat)))) (13 + w3.toNat) (k + 1).toNat) - ((sg * ((upz s2 (13 + w3.toNat) k.toNat ((s2 (13 + w3.toNat) k.toNat) + ((sg * (s2 (3 + row.toNat) col.toNat)) * (s2 (13 + w7.toNat) k.toNat)))) (8 + row.toNat) col.toNat)) * ((upz s2 (13 + w3.toNat) k.toNat ((s2 (13 + w3.toNat) k.toNat) + ((sg * (s2 (3 + row.toNat) col.toNat)) * (s2 (13 + w7.toNat) k.toNat)))) (13 + w7.toNat) k.toNat)))) zL2 0, r3, r4, r5, r6, r7, r8, r9]) rfl rfl (by omega) (by decide) rfl (zg_2_13 _ (by omega)) (by decide) g9.2 rfl ?_
      refine zB.inc oX5_makeMinor rfl (lv2 := [some (.ref 2048), some (.int (zI set)), some (.int (zI row)), some (.ref (1024 * 2 + (13 + w3.toNat))), some (.int (zI col)), some (.long (zJ sg)), none, some (.ref (1024 * 2 + (13 + w7.toNat))), some (.int (zI (k + 1)))]) (zi_inc (a := 0) (zi_addp1 k) _ rfl) ?_
      refine xB.run oX5_makeMinor 1 (s := (77, [some (.ref 2048), some (.int (zI set)), some (.int (zI row)), some (.ref (1024 * 2 + (13 + w3.toNat))), some (.int (zI col)), some (.long (zJ sg)), none, some (.ref (1024 * 2 + (13 + w7.toNat))), some (.int (zI (k + 1)))], [], [r0, r1, zH (upz (upz s2 (13 + w3.toNat) k.toNat ((s2 (13 + w3.toNat) k.toNat) + ((sg * (s2 (3 + row.toNat) col.toNat)) * (s2 (13 + w7.toNat) k.toNat)))) (13 + w3.toNat) (k + 1).toNat (((upz s2 (13 + w3.toNat) k.toNat ((s2 (13 + w3.toNat) k.toNat) + ((sg * (s2 (3 + row.toNat) col.toNat)) * (s2 (13 + w7.toNat) k.toNat)))) (13 + w3.toNat) (k + 1).toNat) - ((sg * ((upz s2 (13 + w3.toNat) k.toNat ((s2 (13 + w3.toNat) k.toNat) + ((sg * (s2 (3 + row.toNat) col.toNat)) * (s2 (13 + w7.toNat) k.toNat)))) (8 + row.toNat) col.toNat)) * ((upz s2 (13 + w3.toNat) k.toNat ((s2 (13 + w3.toNat) k.toNat) + ((sg * (s2 (3 + row.toNat) col.toNat)) * (s2 (13 + w7.toNat) k.toNat)))) (13 + w7.toNat) k.toNat)))) zL2 0, r3, r4, r5, r6, r7, r8, r9])) rfl ?_
      exact ih (k + 1) (upz (upz s2 (13 + w3.toNat) k.toNat ((s2 (13 + w3.toNat) k.toNat) + ((sg * (s2 (3 + row.toNat) col.toNat)) * (s2 (13 + w7.toNat) k.toNat)))) (13 + w3.toNat) (k + 1).toNat (((upz s2 (13 + w3.toNat) k.toNat ((s2 (13 + w3.toNat) k.toNat) + ((sg * (s2 (3 + row.toNat) col.toNat)) * (s2 (13 + w7.toNat) k.toNat)))) (13 + w3.toNat) (k + 1).toNat) - ((sg * ((upz s2 (13 + w3.toNat) k.toNat ((s2 (13 + w3.toNat) k.toNat) + ((sg * (s2 (3 + row.toNat) col.toNat)) * (s2 (13 + w7.toNat) k.toNat)))) (8 + row.toNat) col.toNat)) * ((upz s2 (13 + w3.toNat) k.toNat ((s2 (13 + w3.toNat) k.toNat) + ((sg * (s2 (3 + row.toNat) col.toNat)) * (s2 (13 + w7.toNat) k.toNat)))) (13 + w7.toNat) k.toNat)))) H K
set_option maxRecDepth 20000 in
theorem l_X5_makeMinor_22 (r0 : List va_E) (r1 : List va_E) (r3 : List va_E) (r4 : List va_E) (r5 : List va_E) (r6 : List va_E) (r7 : List va_E) (r8 : List va_E) (r9 : List va_E) (set : Int) (row : Int) (w3 : Int) {r : Option Value} {hp1 : xH} : ∀ (uN : Nat) (col : Int) (s2 : zZ) {uX : Int × zZ}, d_X5_makeMinor_22 set row w3 uN col s2 = some uX → (xBody MX5_makeMinor 1 147 [some (.ref 2048), some (.int (zI set)), some (.int (zI row)), some (.ref (1024 * 2 + (13 + w3.toNat))), some (.int (zI uX.1)), none, none, none, none] [] ([r0, r1, zH uX.2 zL2 0, r3, r4, r5, r6, r7, r8, r9]) r hp1) → xBody MX5_makeMinor 1 22 [some (.ref 2048), some (.int (zI set)), some (.int (zI row)), some (.ref (1024 * 2 + (13 + w3.toNat))), some (.int (zI col)), none, none, none, none] [] ([r0, r1, zH s2 zL2 0, r3, r4, r5, r6, r7, r8, r9]) r hp1 := by
  intro uN
  induction uN with
  | zero => intro col s2 uX H K; cases H
  | succ uN ih =>
    intro col s2 uX H K
    unfold d_X5_makeMinor_22 at H
    refine xB.run oX5_makeMinor 2 (s := (25, [some (.ref 2048), some (.int (zI set)), some (.int (zI row)), some (.ref (1024 * 2 + (13 + w3.toNat))), some (.int (zI col)), none, none, none, none], [.int (zI 4), .int (zI col)], [r0, r1, zH s2 zL2 0, r3, r4, r5, r6, r7, r8, r9])) rfl ?_
    obtain ⟨g34, H⟩ := zgd H
    have H := zif H
    refine xB.brE oX5_makeMinor (P := (4 : Int) ≤ col) rfl (zc_ge (a := col) (b := 4) ⟨g34, by decide⟩) (fun h3 => ?_) (fun h3 => ?_)
    · have H := H.1 h3
      obtain rfl := Option.some.inj H
      exact K
    · have H := H.2 h3
      refine xB.run oX5_makeMinor 2 (s := (31, [some (.ref 2048), some (.int (zI set)), some (.int (zI row)), some (.ref (1024 * 2 + (13 + w3.toNat))), some (.int (zI col)), none, none, none, none], [.int (zI col), .int (zI set)], [r0, r1, zH s2 zL2 0, r3, r4, r5, r6, r7, r8, r9])) rfl ?_
      obtain ⟨g33, H⟩ := zgd H
      refine zB.opi oX5_makeMinor rfl (zi_shr (c := col) g33.1 g33.2) ?_
      refine xB.run oX5_makeMinor 1 (s := (33, [some (.ref 2048), some (.int (zI set)), some (.int (zI row)), some (.ref (1024 * 2 + (13 + w3.toNat))), some (.int (zI col)), none, none, none, none], [.int (zI 1), .int (zI (set / (2 : Int) ^ col.toNat))], [r0, r1, zH s2 zL2 0, r3, r4, r5, r6, r7, r8, r9])) rfl ?_
      refine zB.opi oX5_makeMinor rfl (zi_and1 (set / (2 : Int) ^ col.toNat)) ?_
      refine xB.run oX5_makeMinor 1 (s := (35, [some (.ref 2048), some (.int (zI set)), some (.int (zI row)), some (.ref (1024 * 2 + (13 + w3.toNat))), some (.int (zI col)), none, none, none, none], [.int (zI 1), .int (zI ((set / (2 : Int) ^ col.toNat) % 2))], [r0, r1, zH s2 zL2 0, r3, r4, r5, r6, r7, r8, r9])) rfl ?_
      obtain ⟨g32, H⟩ := zgd H
      have H := zif H
      refine xB.brE oX5_makeMinor (P := ((set / (2 : Int) ^ col.toNat) % 2) ≠ 1) rfl (zc_ne (a := (set / (2 : Int) ^ col.toNat) % 2) (b := 1) ⟨g32, by decide⟩) (fun h4 => ?_) (fun h4 => ?_)
      · have H := H.1 h4
        refine zB.inc oX5_makeMinor rfl (lv2 := [some (.ref 2048), some (.int (zI set)), some (.int (zI row)), some (.ref (1024 * 2 + (13 + w3.toNat))), some (.int (zI (col + 1))), none, none, none, none]) (zi_inc (a := 0) (zi_addp1 col) _ rfl) ?_
        refine xB.run oX5_makeMinor 1 (s := (22, [some (.ref 2048), some (.int (zI set)), some (.int (zI row)), some (.ref (1024 * 2 + (13 + w3.toNat))), some (.int (zI (col + 1))), none, none, none, none], [], [r0, r1, zH s2 zL2 0, r3, r4, r5, r6, r7, r8, r9])) rfl ?_
        exact ih (col + 1) s2 H K
      · have H := H.2 h4
        refine xB.run oX5_makeMinor 3 (s := (42, [some (.ref 2048), some (.int (zI set)), some (.int (zI row)), some (.ref (1024 * 2 + (13 + w3.toNat))), some (.int (zI col)), none, none, none, none], [.int (zI 1), .int (zI col), .int (zI set)], [r0, r1, zH s2 zL2 0, r3, r4, r5, r6, r7, r8, r9])) rfl ?_
        refine zB.opi oX5_makeMinor rfl (zi_add col 1) ?_
        obtain ⟨g31, H⟩ := zgd H
        refine zB.opi oX5_makeMinor rfl (zi_shr (c := col + 1) g31.1 g31.2) ?_
        obtain ⟨y5, e6, H⟩ := zbd H
        refine xB.call oX5_makeMinor (M2 := MJ6_bitCount_0f7a4) rfl rfl ((t_J6_bitCount r0 r1 (zH s2 zL2 0) r3 r4 r5 r6 r7 r8 r9 (set / (2 : Int) ^ (col + 1).toNat) e6).deep (by decide : 0 ≤ 0)) ?_
        show xBody MX5_makeMinor 1 47 [some (.ref 2048), some (.int (zI set)), some (.int (zI row)), some (.ref (1024 * 2 + (13 + w3.toNat))), some (.int (zI col)), none, none, none, none] [.int (zI y5)] ([r0, r1, zH s2 zL2 0, r3, r4, r5, r6, r7, r8, r9]) _ _
        refine xB.run oX5_makeMinor 1 (s := (48, [some (.ref 2048), some (.int (zI set)), some (.int (zI row)), some (.ref (1024 * 2 + (13 + w3.toNat))), some (.int (zI col)), none, none, none, none], [.int (zI 1), .int (zI y5)], [r0, r1, zH s2 zL2 0, r3, r4, r5, r6, r7, r8, r9])) rfl ?_
        refine zB.opi oX5_makeMinor rfl (zi_and1 y5) ?_
        obtain ⟨g30, H⟩ := zgd H
        have H := zif H
        refine xB.brE oX5_makeMinor (P := (y5 % 2) ≠ 0) rfl (zc_ne (a := y5 % 2) (b := 0) ⟨g30, by decide⟩) (fun h7 => ?_) (fun h7 => ?_)
        · have H := H.1 h7
          refine xB.run oX5_makeMinor 7 (s := (69, [some (.ref 2048), some (.int (zI set)), some (.int (zI row)), some (.ref (1024 * 2 + (13 + w3.toNat))), some (.int (zI col)), some (.long (zJ (-1))), none, none, none], [.int (zI col), .int (zI 1), .int (zI set), .ref 2060], [r0, r1, zH s2 zL2 0, r3, r4, r5, r6, r7, r8, r9])) rfl ?_
          obtain ⟨g24, H⟩ := zgd H
          refine zB.opi oX5_makeMinor (y := (2 : Int) ^ col.toNat) rfl (zi_shl1 (c := col) g24) ?_
          obtain ⟨g23, H⟩ := zgd H
          refine zB.opi oX5_makeMinor rfl (zi_xor (a := set) (b := (2 : Int) ^ col.toNat) g23.1 g23.2) ?_
          obtain ⟨g22, H⟩ := zgd H
          refine zB.aaldG oX5_makeMinor (g := 2) (p := 12) (N := 16) (c := 4) (g2 := 2) (p2 := 13) rfl rfl (by decide) rfl rfl (by decide) (by decide) g22 ?_
          refine xB.run oX5_makeMinor 3 (s := (77, [some (.ref 2048), some (.int (zI set)), some (.int (zI row)), some (.ref (1024 * 2 + (13 + w3.toNat))), some (.int (zI col)), some (.long (zJ (-1))), none, some (.ref (1024 * 2 + (13 + (((set.toNat ^^^ ((2 : Int) ^ col.toNat).toNat : Nat) : Int).toNat)))), some (.int (zI 0))], [], [r0, r1, zH s2 zL2 0, r3, r4, r5, r6, r7, r8, r9])) rfl ?_
          obtain ⟨y20, e21, H⟩ := zbd H
          refine l_X5_makeMinor_77 r0 r1 r3 r4 r5 r6 r7 r8 r9 set row w3 col (-1) ((set.toNat ^^^ ((2 : Int) ^ col.toNat).toNat : Nat) : Int) _ 0 s2 e21 ?_
          refine zB.inc oX5_makeMinor rfl (lv2 := [some (.ref 2048), some (.int (zI set)), some (.int (zI row)), some (.ref (1024 * 2 + (13 + w3.toNat))), some (.int (zI (col + 1))), some (.long (zJ (-1))), none, some (.ref (1024 * 2 + (13 + (((set.toNat ^^^ ((2 : Int) ^ col.toNat).toNat : Nat) : Int).toNat)))), some (.int (zI y20.1))]) (zi_inc (a := 0) (zi_addp1 col) _ rfl) ?_
          refine xB.run oX5_makeMinor 1 (s := (22, [some (.ref 2048), some (.int (zI set)), some (.int (zI row)), some (.ref (1024 * 2 + (13 + w3.toNat))), some (.int (zI (col + 1))), some (.long (zJ (-1))), none, some (.ref (1024 * 2 + (13 + (((set.toNat ^^^ ((2 : Int) ^ col.toNat).toNat : Nat) : Int).toNat)))), some (.int (zI y20.1))], [], [r0, r1, zH y20.2 zL2 0, r3, r4, r5, r6, r7, r8, r9])) rfl ?_
          refine xB.forget (lv1 := [some (.ref 2048), some (.int (zI set)), some (.int (zI row)), some (.ref (1024 * 2 + (13 + w3.toNat))), some (.int (zI (col + 1))), none, none, none, none]) (xle_same (xle_same (xle_same (xle_same (xle_same (xle_none (xle_same (xle_none (xle_none (xle_nil)))))))))) ?_
          exact ih (col + 1) y20.2 H K
        · have H := H.2 h7
          refine xB.run oX5_makeMinor 8 (s := (69, [some (.ref 2048), some (.int (zI set)), some (.int (zI row)), some (.ref (1024 * 2 + (13 + w3.toNat))), some (.int (zI col)), some (.long (zJ 1)), none, none, none], [.int (zI col), .int (zI 1), .int (zI set), .ref 2060], [r0, r1, zH s2 zL2 0, r3, r4, r5, r6, r7, r8, r9])) rfl ?_
          obtain ⟨g29, H⟩ := zgd H
          refine zB.opi oX5_makeMinor (y := (2 : Int) ^ col.toNat) rfl (zi_shl1 (c := col) g29) ?_
          obtain ⟨g28, H⟩ := zgd H
          refine zB.opi oX5_makeMinor rfl (zi_xor (a := set) (b := (2 : Int) ^ col.toNat) g28.1 g28.2) ?_
          obtain ⟨g27, H⟩ := zgd H
          refine zB.aaldG oX5_makeMinor (g := 2) (p := 12) (N := 16) (c := 4) (g2 := 2) (p2 := 13) rfl rfl (by decide) rfl rfl (by decide) (by decide) g27 ?_
          refine xB.run oX5_makeMinor 3 (s := (77, [some (.ref 2048), some (.int (zI set)), some (.int (zI row)), some (.ref (1024 * 2 + (13 + w3.toNat))), some (.int (zI col)), some (.long (zJ 1)), none, some (.ref (1024 * 2 + (13 + (((set.toNat ^^^ ((2 : Int) ^ col.toNat).toNat : Nat) : Int).toNat)))), some (.int (zI 0))], [], [r0, r1, zH s2 zL2 0, r3, r4, r5, r6, r7, r8, r9])) rfl ?_
          obtain ⟨y25, e26, H⟩ := zbd H
          refine l_X5_makeMinor_77 r0 r1 r3 r4 r5 r6 r7 r8 r9 set row w3 col 1 ((set.toNat ^^^ ((2 : Int) ^ col.toNat).toNat : Nat) : Int) _ 0 s2 e26 ?_
          refine zB.inc oX5_makeMinor rfl (lv2 := [some (.ref 2048), some (.int (zI set)), some (.int (zI row)), some (.ref (1024 * 2 + (13 + w3.toNat))), some (.int (zI (col + 1))), some (.long (zJ 1)), none, some (.ref (1024 * 2 + (13 + (((set.toNat ^^^ ((2 : Int) ^ col.toNat).toNat : Nat) : Int).toNat)))), some (.int (zI y25.1))]) (zi_inc (a := 0) (zi_addp1 col) _ rfl) ?_
          refine xB.run oX5_makeMinor 1 (s := (22, [some (.ref 2048), some (.int (zI set)), some (.int (zI row)), some (.ref (1024 * 2 + (13 + w3.toNat))), some (.int (zI (col + 1))), some (.long (zJ 1)), none, some (.ref (1024 * 2 + (13 + (((set.toNat ^^^ ((2 : Int) ^ col.toNat).toNat : Nat) : Int).toNat)))), some (.int (zI y25.1))], [], [r0, r1, zH y25.2 zL2 0, r3, r4, r5, r6, r7, r8, r9])) rfl ?_
          refine xB.forget (lv1 := [some (.ref 2048), some (.int (zI set)), some (.int (zI row)), some (.ref (1024 * 2 + (13 + w3.toNat))), some (.int (zI (col + 1))), none, none, none, none]) (xle_same (xle_same (xle_same (xle_same (xle_same (xle_none (xle_same (xle_none (xle_none (xle_nil)))))))))) ?_
          exact ih (col + 1) y25.2 H K
set_option maxRecDepth 20000 in
theorem t_X5_makeMinor (r0 : List va_E) (r1 : List va_E) (s2 : zZ) (r3 : List va_E) (r4 : List va_E) (r5 : List va_E) (r6 : List va_E) (r7 : List va_E) (r8 : List va_E) (r9 : List va_E) (set : Int) {rr : zZ} (H : d_X5_makeMinor s2 set = some rr) : xC MX5_makeMinor 1 [.ref 2048, .int (zI set)] ([r0, r1, zH s2 zL2 0, r3, r4, r5, r6, r7, r8, r9]) (none) ([r0, r1, zH rr zL2 0, r3, r4, r5, r6, r7, r8, r9]) := by
  refine ⟨Nat.le_of_ble_eq_true rfl, ?_⟩
  show xBody MX5_makeMinor 1 0 [some (.ref 2048), some (.int (zI set)), none, none, none, none, none, none, none] [] ([r0, r1, zH s2 zL2 0, r3, r4, r5, r6, r7, r8, r9]) _ _
  unfold d_X5_makeMinor at H
  refine xB.run oX5_makeMinor 1 (s := (1, [some (.ref 2048), some (.int (zI set)), none, none, none, none, none, none, none], [.int (zI set)], [r0, r1, zH s2 zL2 0, r3, r4, r5, r6, r7, r8, r9])) rfl ?_
  obtain ⟨y1, e2, H⟩ := zbd H
  refine xB.call oX5_makeMinor (M2 := MJ6_bitCount_0f7a4) rfl rfl ((t_J6_bitCount r0 r1 (zH s2 zL2 0) r3 r4 r5 r6 r7 r8 r9 set e2).deep (by decide : 0 ≤ 0)) ?_
  show xBody MX5_makeMinor 1 4 [some (.ref 2048), some (.int (zI set)), none, none, none, none, none, none, none] [.int (zI y1)] ([r0, r1, zH s2 zL2 0, r3, r4, r5, r6, r7, r8, r9]) _ _
  refine xB.run oX5_makeMinor 1 (s := (5, [some (.ref 2048), some (.int (zI set)), none, none, none, none, none, none, none], [.int (zI 1), .int (zI y1)], [r0, r1, zH s2 zL2 0, r3, r4, r5, r6, r7, r8, r9])) rfl ?_
  refine zB.opi oX5_makeMinor rfl (zi_sub y1 1) ?_
  refine xB.run oX5_makeMinor 4 (s := (12, [some (.ref 2048), some (.int (zI set)), some (.int (zI (y1 - 1))), none, none, none, none, none, none], [.int (zI set), .ref 2060], [r0, r1, zH s2 zL2 0, r3, r4, r5, r6, r7, r8, r9])) rfl ?_
  obtain ⟨g38, H⟩ := zgd H
  refine zB.aaldG oX5_makeMinor (g := 2) (p := 12) (N := 16) (c := 4) (g2 := 2) (p2 := 13) rfl rfl (by decide) rfl rfl (by decide) (by decide) g38 ?_
  refine xB.run oX5_makeMinor 3 (s := (16, [some (.ref 2048), some (.int (zI set)), some (.int (zI (y1 - 1))), some (.ref (1024 * 2 + (13 + set.toNat))), none, none, none, none, none], [.long (zJ 0), .ref (1024 * 2 + (13 + set.toNat))], [r0, r1, zH s2 zL2 0, r3, r4, r5, r6, r7, r8, r9])) rfl ?_
  obtain ⟨g37, H⟩ := zgd H
  refine xB.call oX5_makeMinor (M2 := MJ7_fill_d0a16) rfl rfl ((zfillL (hp := [r0, r1, zH s2 zL2 0, r3, r4, r5, r6, r7, r8, r9]) (g := 2) (p := 13 + set.toNat) (N := 5) (L := zL2) 0 rfl (by omega) (by decide) rfl (zg_2_13 _ (by omega)) (by decide)).deep (Nat.zero_le 0)) ?_
  show xBody MX5_makeMinor 1 19 [some (.ref 2048), some (.int (zI set)), some (.int (zI (y1 - 1))), some (.ref (1024 * 2 + (13 + set.toNat))), none, none, none, none, none] [] ([r0, r1, zH (zfl s2 (13 + set.toNat) 5 0) zL2 0, r3, r4, r5, r6, r7, r8, r9]) _ _
  refine xB.run oX5_makeMinor 2 (s := (22, [some (.ref 2048), some (.int (zI set)), some (.int (zI (y1 - 1))), some (.ref (1024 * 2 + (13 + set.toNat))), some (.int (zI 0)), none, none, none, none], [], [r0, r1, zH (zfl s2 (13 + set.toNat) 5 0) zL2 0, r3, r4, r5, r6, r7, r8, r9])) rfl ?_
  obtain ⟨y35, e36, H⟩ := zbd H
  refine l_X5_makeMinor_22 r0 r1 r3 r4 r5 r6 r7 r8 r9 set (y1 - 1) set _ 0 (zfl s2 (13 + set.toNat) 5 0) e36 ?_
  obtain rfl := Option.some.inj H
  exact xB.ret oX5_makeMinor (r1 := none) rfl rfl rfl
def d_X5_makePolynomial_32 (size : Int) : Nat → Int → zZ → Option (Int × zZ)
  | 0, _, _ => none
  | uN + 1, set, s2 => if (0 ≤ size ∧ size < 32) then (if (zr set ∧ zr ((2 : Int) ^ size.toNat)) then (if ((2 : Int) ^ size.toNat) ≤ set then some (set, s2) else ((d_X5_makeMinor s2 set).bind fun y4 => d_X5_makePolynomial_32 size uN (set + 1) y4)) else none) else none
def d_X5_makePolynomial_58 (size : Int) (set : Int) : Nat → Int → zZ → Option (Int × zZ)
  | 0, _, _ => none
  | uN + 1, k, s2 => if (zr k ∧ zr size) then (if size < k then some (k, s2) else (if (0 ≤ set ∧ set < 16) then (if ((set.toNat < 16) ∧ (0 ≤ k ∧ k < 5)) then (if (0 ≤ k ∧ k < 5) then (d_X5_makePolynomial_58 size set uN (k + 1) (upz s2 29 k.toNat (s2 (13 + set.toNat) k.toNat))) else none) else none) else none)) else none
def d_X5_makePolynomial (s2 : zZ) : Option (zZ) := (d_X5_fillTables s2).bind fun y1 => (d_X5_makePolynomial_32 ((s2 0 0) - 1) zF 1 (upz (zfl y1 13 5 0) 13 0 1)).bind fun y8 => if (0 ≤ ((s2 0 0) - 1) ∧ ((s2 0 0) - 1) < 32) then ((d_X5_makePolynomial_58 ((s2 0 0) - 1) (((2 : Int) ^ ((s2 0 0) - 1).toNat) - 1) zF 0 y8.2).bind fun y15 => some y15.2) else none
set_option maxRecDepth 20000 in
theorem l_X5_makePolynomial_32 (r0 : List va_E) (r1 : List va_E) (r3 : List va_E) (r4 : List va_E) (r5 : List va_E) (r6 : List va_E) (r7 : List va_E) (r8 : List va_E) (r9 : List va_E) (size : Int) {r : Option Value} {hp1 : xH} : ∀ (uN : Nat) (set : Int) (s2 : zZ) {uX : Int × zZ}, d_X5_makePolynomial_32 size uN set s2 = some uX → (xBody MX5_makePolynomial 2 50 [some (.ref 2048), some (.int (zI size)), some (.int (zI uX.1)), none] [] ([r0, r1, zH uX.2 zL2 0, r3, r4, r5, r6, r7, r8, r9]) r hp1) → xBody MX5_makePolynomial 2 32 [some (.ref 2048), some (.int (zI size)), some (.int (zI set)), none] [] ([r0, r1, zH s2 zL2 0, r3, r4, r5, r6, r7, r8, r9]) r hp1 := by
  intro uN
  induction uN with
  | zero => intro set s2 uX H K; cases H
  | succ uN ih =>
    intro set s2 uX H K
    unfold d_X5_makePolynomial_32 at H
    refine xB.run oX5_makePolynomial 3 (s := (35, [some (.ref 2048), some (.int (zI size)), some (.int (zI set)), none], [.int (zI size), .int (zI 1), .int (zI set)], [r0, r1, zH s2 zL2 0, r3, r4, r5, r6, r7, r8, r9])) rfl ?_
    obtain ⟨g7, H⟩ := zgd H
    refine zB.opi oX5_makePolynomial (y := (2 : Int) ^ size.toNat) rfl (zi_shl1 (c := size) g7) ?_
    obtain ⟨g6, H⟩ := zgd H
    have H := zif H
    refine xB.brE oX5_makePolynomial (P := ((2 : Int) ^ size.toNat) ≤ set) rfl (zc_ge (a := set) (b := (2 : Int) ^ size.toNat) g6) (fun h3 => ?_) (fun h3 => ?_)
    · have H := H.1 h3
      obtain rfl := Option.some.inj H
      exact K
    · have H := H.2 h3
      refine xB.run oX5_makePolynomial 2 (s := (41, [some (.ref 2048), some (.int (zI size)), some (.int (zI set)), none], [.int (zI set), .ref 2048], [r0, r1, zH s2 zL2 0, r3, r4, r5, r6, r7, r8, r9])) rfl ?_
      obtain ⟨y4, e5, H⟩ := zbd H
      refine xB.call oX5_makePolynomial (M2 := MX5_makeMinor) rfl rfl ((t_X5_makeMinor r0 r1 s2 r3 r4 r5 r6 r7 r8 r9 set e5).deep (by decide : 1 ≤ 1)) ?_
      show xBody MX5_makePolynomial 2 44 [some (.ref 2048), some (.int (zI size)), some (.int (zI set)), none] [] ([r0, r1, zH y4 zL2 0, r3, r4, r5, r6, r7, r8, r9]) _ _
      refine zB.inc oX5_makePolynomial rfl (lv2 := [some (.ref 2048), some (.int (zI size)), some (.int (zI (set + 1))), none]) (zi_inc (a := 0) (zi_addp1 set) _ rfl) ?_
      refine xB.run oX5_makePolynomial 1 (s := (32, [some (.ref 2048), some (.int (zI size)), some (.int (zI (set + 1))), none], [], [r0, r1, zH y4 zL2 0, r3, r4, r5, r6, r7, r8, r9])) rfl ?_
      exact ih (set + 1) y4 H K
set_option maxRecDepth 20000 in
theorem l_X5_makePolynomial_58 (r0 : List va_E) (r1 : List va_E) (r3 : List va_E) (r4 : List va_E) (r5 : List va_E) (r6 : List va_E) (r7 : List va_E) (r8 : List va_E) (r9 : List va_E) (size : Int) (set : Int) {r : Option Value} {hp1 : xH} : ∀ (uN : Nat) (k : Int) (s2 : zZ) {uX : Int × zZ}, d_X5_makePolynomial_58 size set uN k s2 = some uX → (xBody MX5_makePolynomial 2 83 [some (.ref 2048), some (.int (zI size)), some (.int (zI set)), some (.int (zI uX.1))] [] ([r0, r1, zH uX.2 zL2 0, r3, r4, r5, r6, r7, r8, r9]) r hp1) → xBody MX5_makePolynomial 2 58 [some (.ref 2048), some (.int (zI size)), some (.int (zI set)), some (.int (zI k))] [] ([r0, r1, zH s2 zL2 0, r3, r4, r5, r6, r7, r8, r9]) r hp1 := by
  intro uN
  induction uN with
  | zero => intro k s2 uX H K; cases H
  | succ uN ih =>
    intro k s2 uX H K
    unfold d_X5_makePolynomial_58 at H
    refine xB.run oX5_makePolynomial 2 (s := (60, [some (.ref 2048), some (.int (zI size)), some (.int (zI set)), some (.int (zI k))], [.int (zI size), .int (zI k)], [r0, r1, zH s2 zL2 0, r3, r4, r5, r6, r7, r8, r9])) rfl ?_
    obtain ⟨g14, H⟩ := zgd H
    have H := zif H
    refine xB.brE oX5_makePolynomial (P := size < k) rfl (zc_gt (a := k) (b := size) g14) (fun h10 => ?_) (fun h10 => ?_)
    · have H := H.1 h10
      obtain rfl := Option.some.inj H
      exact K
    · have H := H.2 h10
      refine xB.run oX5_makePolynomial 6 (s := (73, [some (.ref 2048), some (.int (zI size)), some (.int (zI set)), some (.int (zI k))], [.int (zI set), .ref 2060, .int (zI k), .ref 2077], [r0, r1, zH s2 zL2 0, r3, r4, r5, r6, r7, r8, r9])) rfl ?_
      obtain ⟨g13, H⟩ := zgd H
      refine zB.aaldG oX5_makePolynomial (g := 2) (p := 12) (N := 16) (c := 4) (g2 := 2) (p2 := 13) rfl rfl (by decide) rfl rfl (by decide) (by decide) g13 ?_
      refine xB.run oX5_makePolynomial 1 (s := (75, [some (.ref 2048), some (.int (zI size)), some (.int (zI set)), some (.int (zI k))], [.int (zI k), .ref (1024 * 2 + (13 + set.toNat)), .int (zI k), .ref 2077], [r0, r1, zH s2 zL2 0, r3, r4, r5, r6, r7, r8, r9])) rfl ?_
      obtain ⟨g12, H⟩ := zgd H
      refine zB.lald oX5_makePolynomial (g := 2) (p := 13 + set.toNat) (N := 5) (i := k) rfl rfl (by omega) rfl (zg_2_13 _ (by omega)) (by decide) g12.2 ?_
      obtain ⟨g11, H⟩ := zgd H
      refine zB.last oX5_makePolynomial (g := 2) (p := 29) (N := 5) (i := k) (hp1 := [r0, r1, zH (upz s2 29 k.toNat (s2 (13 + set.toNat) k.toNat)) zL2 0, r3, r4, r5, r6, r7, r8, r9]) rfl rfl (by decide) (by decide) rfl rfl (by decide) g11 rfl ?_
      refine zB.inc oX5_makePolynomial rfl (lv2 := [some (.ref 2048), some (.int (zI size)), some (.int (zI set)), some (.int (zI (k + 1)))]) (zi_inc (a := 0) (zi_addp1 k) _ rfl) ?_
      refine xB.run oX5_makePolynomial 1 (s := (58, [some (.ref 2048), some (.int (zI size)), some (.int (zI set)), some (.int (zI (k + 1)))], [], [r0, r1, zH (upz s2 29 k.toNat (s2 (13 + set.toNat) k.toNat)) zL2 0, r3, r4, r5, r6, r7, r8, r9])) rfl ?_
      exact ih (k + 1) (upz s2 29 k.toNat (s2 (13 + set.toNat) k.toNat)) H K
set_option maxRecDepth 20000 in
theorem t_X5_makePolynomial (r0 : List va_E) (r1 : List va_E) (s2 : zZ) (r3 : List va_E) (r4 : List va_E) (r5 : List va_E) (r6 : List va_E) (r7 : List va_E) (r8 : List va_E) (r9 : List va_E) {rr : zZ} (H : d_X5_makePolynomial s2 = some rr) : xC MX5_makePolynomial 2 [.ref 2048] ([r0, r1, zH s2 zL2 0, r3, r4, r5, r6, r7, r8, r9]) (none) ([r0, r1, zH rr zL2 0, r3, r4, r5, r6, r7, r8, r9]) := by
  refine ⟨Nat.le_of_ble_eq_true rfl, ?_⟩
  show xBody MX5_makePolynomial 2 0 [some (.ref 2048), none, none, none] [] ([r0, r1, zH s2 zL2 0, r3, r4, r5, r6, r7, r8, r9]) _ _
  unfold d_X5_makePolynomial at H
  refine xB.run oX5_makePolynomial 3 (s := (5, [some (.ref 2048), none, none, none], [.int (zI 1), .int (zI (s2 0 0))], [r0, r1, zH s2 zL2 0, r3, r4, r5, r6, r7, r8, r9])) rfl ?_
  refine zB.opi oX5_makePolynomial rfl (zi_sub (s2 0 0) 1) ?_
  refine xB.run oX5_makePolynomial 2 (s := (8, [some (.ref 2048), some (.int (zI ((s2 0 0) - 1))), none, none], [.ref 2048], [r0, r1, zH s2 zL2 0, r3, r4, r5, r6, r7, r8, r9])) rfl ?_
  obtain ⟨y1, e2, H⟩ := zbd H
  refine xB.call oX5_makePolynomial (M2 := MX5_fillTables) rfl rfl ((t_X5_fillTables r0 r1 s2 r3 r4 r5 r6 r7 r8 r9  e2).deep (by decide : 1 ≤ 1)) ?_
  show xBody MX5_makePolynomial 2 11 [some (.ref 2048), some (.int (zI ((s2 0 0) - 1))), none, none] [] ([r0, r1, zH y1 zL2 0, r3, r4, r5, r6, r7, r8, r9]) _ _
  refine xB.run oX5_makePolynomial 3 (s := (16, [some (.ref 2048), some (.int (zI ((s2 0 0) - 1))), none, none], [.int (zI 0), .ref 2060], [r0, r1, zH y1 zL2 0, r3, r4, r5, r6, r7, r8, r9])) rfl ?_
  refine zB.aaldG oX5_makePolynomial (g := 2) (p := 12) (N := 16) (c := 4) (g2 := 2) (p2 := 13) rfl rfl (by decide) rfl rfl (by decide) (by decide) (by decide) ?_
  show xBody _ _ _ _ (.ref 2061 :: _) _ _ _
  refine xB.run oX5_makePolynomial 1 (s := (18, [some (.ref 2048), some (.int (zI ((s2 0 0) - 1))), none, none], [.long (zJ 0), .ref 2061], [r0, r1, zH y1 zL2 0, r3, r4, r5, r6, r7, r8, r9])) rfl ?_
  refine xB.call oX5_makePolynomial (M2 := MJ7_fill_d0a16) rfl rfl ((zfillL (hp := [r0, r1, zH y1 zL2 0, r3, r4, r5, r6, r7, r8, r9]) (g := 2) (p := 13) (N := 5) (L := zL2) 0 rfl (by decide) (by decide) rfl rfl (by decide)).deep (Nat.zero_le 1)) ?_
  show xBody MX5_makePolynomial 2 21 [some (.ref 2048), some (.int (zI ((s2 0 0) - 1))), none, none] [] ([r0, r1, zH (zfl y1 13 5 0) zL2 0, r3, r4, r5, r6, r7, r8, r9]) _ _
  refine xB.run oX5_makePolynomial 3 (s := (26, [some (.ref 2048), some (.int (zI ((s2 0 0) - 1))), none, none], [.int (zI 0), .ref 2060], [r0, r1, zH (zfl y1 13 5 0) zL2 0, r3, r4, r5, r6, r7, r8, r9])) rfl ?_
  refine zB.aaldG oX5_makePolynomial (g := 2) (p := 12) (N := 16) (c := 4) (g2 := 2) (p2 := 13) rfl rfl (by decide) rfl rfl (by decide) (by decide) (by decide) ?_
  show xBody _ _ _ _ (.ref 2061 :: _) _ _ _
  refine xB.run oX5_makePolynomial 2 (s := (29, [some (.ref 2048), some (.int (zI ((s2 0 0) - 1))), none, none], [.long (zJ 1), .int (zI 0), .ref 2061], [r0, r1, zH (zfl y1 13 5 0) zL2 0, r3, r4, r5, r6, r7, r8, r9])) rfl ?_
  refine zB.last oX5_makePolynomial (g := 2) (p := 13) (N := 5) (i := 0) (hp1 := [r0, r1, zH (upz (zfl y1 13 5 0) 13 0 1) zL2 0, r3, r4, r5, r6, r7, r8, r9]) rfl rfl (by decide) (by decide) rfl rfl (by decide) (by decide) rfl ?_
  refine xB.run oX5_makePolynomial 2 (s := (32, [some (.ref 2048), some (.int (zI ((s2 0 0) - 1))), some (.int (zI 1)), none], [], [r0, r1, zH (upz (zfl y1 13 5 0) 13 0 1) zL2 0, r3, r4, r5, r6, r7, r8, r9])) rfl ?_
  obtain ⟨y8, e9, H⟩ := zbd H
  refine l_X5_makePolynomial_32 r0 r1 r3 r4 r5 r6 r7 r8 r9 ((s2 0 0) - 1) _ 1 (upz (zfl y1 13 5 0) 13 0 1) e9 ?_
  refine xB.run oX5_makePolynomial 2 (s := (52, [some (.ref 2048), some (.int (zI ((s2 0 0) - 1))), some (.int (zI y8.1)), none], [.int (zI ((s2 0 0) - 1)), .int (zI 1)], [r0, r1, zH y8.2 zL2 0, r3, r4, r5, r6, r7, r8, r9])) rfl ?_
  obtain ⟨g17, H⟩ := zgd H
  refine zB.opi oX5_makePolynomial (y := (2 : Int) ^ ((s2 0 0) - 1).toNat) rfl (zi_shl1 (c := (s2 0 0) - 1) g17) ?_
  refine xB.run oX5_makePolynomial 1 (s := (54, [some (.ref 2048), some (.int (zI ((s2 0 0) - 1))), some (.int (zI y8.1)), none], [.int (zI 1), .int (zI ((2 : Int) ^ ((s2 0 0) - 1).toNat))], [r0, r1, zH y8.2 zL2 0, r3, r4, r5, r6, r7, r8, r9])) rfl ?_
  refine zB.opi oX5_makePolynomial rfl (zi_sub ((2 : Int) ^ ((s2 0 0) - 1).toNat) 1) ?_
  refine xB.run oX5_makePolynomial 3 (s := (58, [some (.ref 2048), some (.int (zI ((s2 0 0) - 1))), some (.int (zI (((2 : Int) ^ ((s2 0 0) - 1).toNat) - 1))), some (.int (zI 0))], [], [r0, r1, zH y8.2 zL2 0, r3, r4, r5, r6, r7, r8, r9])) rfl ?_
  obtain ⟨y15, e16, H⟩ := zbd H
  refine l_X5_makePolynomial_58 r0 r1 r3 r4 r5 r6 r7 r8 r9 ((s2 0 0) - 1) (((2 : Int) ^ ((s2 0 0) - 1).toNat) - 1) _ 0 y8.2 e16 ?_
  obtain rfl := Option.some.inj H
  exact xB.ret oX5_makePolynomial (r1 := none) rfl rfl rfl
def d_X5_begin (s2 : zZ) (nl : Int) : Option (Int × zZ) := (d_J9_min_7cf53 nl 5).bind fun y1 => (d_J9_max_7cf53 2 y1).bind fun y3 => (d_X5_makePolynomial (zfl (upz s2 0 0 y3) 1 5 1)).bind fun y5 => some ((y5 0 0) - 1, y5)
set_option maxRecDepth 20000 in
theorem t_X5_begin (r0 : List va_E) (r1 : List va_E) (s2 : zZ) (r3 : List va_E) (r4 : List va_E) (r5 : List va_E) (r6 : List va_E) (r7 : List va_E) (r8 : List va_E) (r9 : List va_E) (nl : Int) {rr : Int × zZ} (H : d_X5_begin s2 nl = some rr) : xC MX5_begin 3 [.ref 2048, .int (zI nl)] ([r0, r1, zH s2 zL2 0, r3, r4, r5, r6, r7, r8, r9]) (some (.int (zI rr.1))) ([r0, r1, zH rr.2 zL2 0, r3, r4, r5, r6, r7, r8, r9]) := by
  refine ⟨Nat.le_of_ble_eq_true rfl, ?_⟩
  show xBody MX5_begin 3 0 [some (.ref 2048), some (.int (zI nl))] [] ([r0, r1, zH s2 zL2 0, r3, r4, r5, r6, r7, r8, r9]) _ _
  unfold d_X5_begin at H
  refine xB.run oX5_begin 4 (s := (4, [some (.ref 2048), some (.int (zI nl))], [.int (zI 5), .int (zI nl), .int (zI 2), .ref 2048], [r0, r1, zH s2 zL2 0, r3, r4, r5, r6, r7, r8, r9])) rfl ?_
  obtain ⟨y1, e2, H⟩ := zbd H
  refine xB.call oX5_begin (M2 := MJ9_min_7cf53) rfl rfl ((t_J9_min_7cf53 r0 r1 (zH s2 zL2 0) r3 r4 r5 r6 r7 r8 r9 nl 5 e2).deep (by decide : 0 ≤ 2)) ?_
  show xBody MX5_begin 3 7 [some (.ref 2048), some (.int (zI nl))] [.int (zI y1), .int (zI 2), .ref 2048] ([r0, r1, zH s2 zL2 0, r3, r4, r5, r6, r7, r8, r9]) _ _
  obtain ⟨y3, e4, H⟩ := zbd H
  refine xB.call oX5_begin (M2 := MJ9_max_7cf53) rfl rfl ((t_J9_max_7cf53 r0 r1 (zH s2 zL2 0) r3 r4 r5 r6 r7 r8 r9 2 y1 e4).deep (by decide : 0 ≤ 2)) ?_
  show xBody MX5_begin 3 10 [some (.ref 2048), some (.int (zI nl))] [.int (zI y3), .ref 2048] ([r0, r1, zH s2 zL2 0, r3, r4, r5, r6, r7, r8, r9]) _ _
  refine zB.putI oX5_begin (g := 2) (p := 0) (c := 5) (k := 0) (y := 0) (hp1 := [r0, r1, zH (upz s2 0 0 y3) zL2 0, r3, r4, r5, r6, r7, r8, r9]) rfl rfl (by decide) (by decide) rfl rfl rfl rfl rfl rfl ?_
  refine xB.run oX5_begin 3 (s := (18, [some (.ref 2048), some (.int (zI nl))], [.int (zI 1), .ref 2049], [r0, r1, zH (upz s2 0 0 y3) zL2 0, r3, r4, r5, r6, r7, r8, r9])) rfl ?_
  refine xB.call oX5_begin (M2 := MJ7_fill_53178) rfl rfl ((zfillI (hp := [r0, r1, zH (upz s2 0 0 y3) zL2 0, r3, r4, r5, r6, r7, r8, r9]) (g := 2) (p := 1) (N := 5) (L := zL2) 1 rfl (by decide) (by decide) rfl rfl (by decide)).deep (Nat.zero_le 2)) ?_
  show xBody MX5_begin 3 21 [some (.ref 2048), some (.int (zI nl))] [] ([r0, r1, zH (zfl (upz s2 0 0 y3) 1 5 1) zL2 0, r3, r4, r5, r6, r7, r8, r9]) _ _
  refine xB.run oX5_begin 1 (s := (22, [some (.ref 2048), some (.int (zI nl))], [.ref 2048], [r0, r1, zH (zfl (upz s2 0 0 y3) 1 5 1) zL2 0, r3, r4, r5, r6, r7, r8, r9])) rfl ?_
  obtain ⟨y5, e6, H⟩ := zbd H
  refine xB.call oX5_begin (M2 := MX5_makePolynomial) rfl rfl ((t_X5_makePolynomial r0 r1 (zfl (upz s2 0 0 y3) 1 5 1) r3 r4 r5 r6 r7 r8 r9  e6).deep (by decide : 2 ≤ 2)) ?_
  show xBody MX5_begin 3 25 [some (.ref 2048), some (.int (zI nl))] [] ([r0, r1, zH y5 zL2 0, r3, r4, r5, r6, r7, r8, r9]) _ _
  refine xB.run oX5_begin 3 (s := (30, [some (.ref 2048), some (.int (zI nl))], [.int (zI 1), .int (zI (y5 0 0))], [r0, r1, zH y5 zL2 0, r3, r4, r5, r6, r7, r8, r9])) rfl ?_
  refine zB.opi oX5_begin rfl (zi_sub (y5 0 0) 1) ?_
  obtain rfl := Option.some.inj H
  exact xB.ret oX5_begin (r1 := some (.int (zI ((y5 0 0) - 1)))) rfl rfl rfl
def d_X5_changeSpring (s2 : zZ) (j : Int) (k : Int) : Option (Int × zZ) := (d_X5_isJoint s2 j).bind fun y1 => if (zr y1) then (if y1 ≠ 0 then (if (0 ≤ j ∧ j < 5) then (if (0 ≤ j ∧ j < 5) then ((d_X5_makePolynomial (upz s2 1 j.toNat k)).bind fun y4 => some (s2 1 j.toNat, y4)) else none) else none) else some ((-1), s2)) else none
set_option maxRecDepth 20000 in
theorem t_X5_changeSpring (r0 : List va_E) (r1 : List va_E) (s2 : zZ) (r3 : List va_E) (r4 : List va_E) (r5 : List va_E) (r6 : List va_E) (r7 : List va_E) (r8 : List va_E) (r9 : List va_E) (j : Int) (k : Int) {rr : Int × zZ} (H : d_X5_changeSpring s2 j k = some rr) : xC MX5_changeSpring 3 [.ref 2048, .int (zI j), .int (zI k)] ([r0, r1, zH s2 zL2 0, r3, r4, r5, r6, r7, r8, r9]) (some (.int (zI rr.1))) ([r0, r1, zH rr.2 zL2 0, r3, r4, r5, r6, r7, r8, r9]) := by
  refine ⟨Nat.le_of_ble_eq_true rfl, ?_⟩
  show xBody MX5_changeSpring 3 0 [some (.ref 2048), some (.int (zI j)), some (.int (zI k)), none] [] ([r0, r1, zH s2 zL2 0, r3, r4, r5, r6, r7, r8, r9]) _ _
  unfold d_X5_changeSpring at H
  refine xB.run oX5_changeSpring 2 (s := (2, [some (.ref 2048), some (.int (zI j)), some (.int (zI k)), none], [.int (zI j), .ref 2048], [r0, r1, zH s2 zL2 0, r3, r4, r5, r6, r7, r8, r9])) rfl ?_
  obtain ⟨y1, e2, H⟩ := zbd H
  refine xB.call oX5_changeSpring (M2 := MX5_isJoint) rfl rfl ((t_X5_isJoint r0 r1 s2 r3 r4 r5 r6 r7 r8 r9 j e2).deep (by decide : 0 ≤ 2)) ?_
  show xBody MX5_changeSpring 3 5 [some (.ref 2048), some (.int (zI j)), some (.int (zI k)), none] [.int (zI y1)] ([r0, r1, zH s2 zL2 0, r3, r4, r5, r6, r7, r8, r9]) _ _
  obtain ⟨g8, H⟩ := zgd H
  have H := zif H
  refine xB.brE oX5_changeSpring (P := y1 ≠ 0) rfl (zc_ne (a := y1) (b := 0) ⟨g8, by decide⟩) (fun h3 => ?_) (fun h3 => ?_)
  · have H := H.1 h3
    refine xB.run oX5_changeSpring 3 (s := (15, [some (.ref 2048), some (.int (zI j)), some (.int (zI k)), none], [.int (zI j), .ref 2049], [r0, r1, zH s2 zL2 0, r3, r4, r5, r6, r7, r8, r9])) rfl ?_
    obtain ⟨g7, H⟩ := zgd H
    refine zB.iald oX5_changeSpring (g := 2) (p := 1) (N := 5) (i := j) rfl rfl (by decide) rfl rfl (by decide) g7 ?_
    refine xB.run oX5_changeSpring 5 (s := (23, [some (.ref 2048), some (.int (zI j)), some (.int (zI k)), some (.int (zI (s2 1 j.toNat)))], [.int (zI k), .int (zI j), .ref 2049], [r0, r1, zH s2 zL2 0, r3, r4, r5, r6, r7, r8, r9])) rfl ?_
    obtain ⟨g6, H⟩ := zgd H
    refine zB.iast oX5_changeSpring (g := 2) (p := 1) (N := 5) (i := j) (hp1 := [r0, r1, zH (upz s2 1 j.toNat k) zL2 0, r3, r4, r5, r6, r7, r8, r9]) rfl rfl (by decide) (by decide) rfl rfl (by decide) g6 rfl ?_
    refine xB.run oX5_changeSpring 1 (s := (25, [some (.ref 2048), some (.int (zI j)), some (.int (zI k)), some (.int (zI (s2 1 j.toNat)))], [.ref 2048], [r0, r1, zH (upz s2 1 j.toNat k) zL2 0, r3, r4, r5, r6, r7, r8, r9])) rfl ?_
    obtain ⟨y4, e5, H⟩ := zbd H
    refine xB.call oX5_changeSpring (M2 := MX5_makePolynomial) rfl rfl ((t_X5_makePolynomial r0 r1 (upz s2 1 j.toNat k) r3 r4 r5 r6 r7 r8 r9  e5).deep (by decide : 2 ≤ 2)) ?_
    show xBody MX5_changeSpring 3 28 [some (.ref 2048), some (.int (zI j)), some (.int (zI k)), some (.int (zI (s2 1 j.toNat)))] [] ([r0, r1, zH y4 zL2 0, r3, r4, r5, r6, r7, r8, r9]) _ _
    refine xB.run oX5_changeSpring 1 (s := (29, [some (.ref 2048), some (.int (zI j)), some (.int (zI k)), some (.int (zI (s2 1 j.toNat)))], [.int (zI (s2 1 j.toNat))], [r0, r1, zH y4 zL2 0, r3, r4, r5, r6, r7, r8, r9])) rfl ?_
    obtain rfl := Option.some.inj H
    exact xB.ret oX5_changeSpring (r1 := some (.int (zI (s2 1 j.toNat)))) rfl rfl rfl
  · have H := H.2 h3
    refine xB.run oX5_changeSpring 1 (s := (9, [some (.ref 2048), some (.int (zI j)), some (.int (zI k)), none], [.int (zI (-1))], [r0, r1, zH s2 zL2 0, r3, r4, r5, r6, r7, r8, r9])) rfl ?_
    obtain rfl := Option.some.inj H
    exact xB.ret oX5_changeSpring (r1 := some (.int (zI (-1)))) rfl rfl rfl
def d_X5_shiftTo_13 (a : Int) (b : Int) (dg : Int) : Nat → Int → Int → zZ → Option (Int × Int × zZ)
  | 0, _, _, _ => none
  | uN + 1, pw, k, s2 => if (zr k) then (if k < 0 then some (pw, k, s2) else (if (0 ≤ k ∧ k < 5) then (if (0 ≤ k ∧ k < 5) then (if zr b then (d_X5_shiftTo_13 a b dg uN (pw * b) (k + (-1)) (upz s2 30 k.toNat ((s2 29 k.toNat) * pw))) else none) else none) else none)) else none
def d_X5_shiftTo_62 (a : Int) (b : Int) (dg : Int) (pw : Int) (k : Int) : Nat → Int → zZ → Option (Int × zZ)
  | 0, _, _ => none
  | uN + 1, v7, s2 => if (zr v7 ∧ zr k) then (if v7 < k then some (v7, s2) else (if (0 ≤ v7 ∧ v7 < 5) then (if zr a then (if (0 ≤ (v7 + 1) ∧ (v7 + 1) < 5) then (if (0 ≤ v7 ∧ v7 < 5) then (d_X5_shiftTo_62 a b dg pw k uN (v7 + (-1)) (upz s2 30 v7.toNat ((s2 30 v7.toNat) + (a * (s2 30 (v7 + 1).toNat))))) else none) else none) else none) else none)) else none
def d_X5_shiftTo_51 (a : Int) (b : Int) (dg : Int) (pw : Int) : Nat → Int → zZ → Option (Int × zZ)
  | 0, _, _ => none
  | uN + 1, k, s2 => if (zr k ∧ zr dg) then (if dg ≤ k then some (k, s2) else ((d_X5_shiftTo_62 a b dg pw k zF (dg - 1) s2).bind fun y15 => d_X5_shiftTo_51 a b dg pw uN (k + 1) y15.2)) else none
def d_X5_shiftTo (s2 : zZ) (a : Int) (b : Int) : Option (zZ) := (d_X5_shiftTo_13 a b ((s2 0 0) - 1) zF 1 ((s2 0 0) - 1) s2).bind fun y6 => (d_X5_shiftTo_51 a b ((s2 0 0) - 1) y6.1 zF 0 y6.2.2).bind fun y18 => some y18.2
set_option maxRecDepth 20000 in
theorem l_X5_shiftTo_13 (r0 : List va_E) (r1 : List va_E) (r3 : List va_E) (r4 : List va_E) (r5 : List va_E) (r6 : List va_E) (r7 : List va_E) (r8 : List va_E) (r9 : List va_E) (a : Int) (b : Int) (dg : Int) {r : Option Value} {hp1 : xH} : ∀ (uN : Nat) (pw : Int) (k : Int) (s2 : zZ) {uX : Int × Int × zZ}, d_X5_shiftTo_13 a b dg uN pw k s2 = some uX → (xBody MX5_shiftTo 0 48 [some (.ref 2048), some (.int (zI a)), some (.int (zI b)), some (.int (zI dg)), some (.long (zJ uX.1)), none, some (.int (zI uX.2.1)), none] [] ([r0, r1, zH uX.2.2 zL2 0, r3, r4, r5, r6, r7, r8, r9]) r hp1) → xBody MX5_shiftTo 0 13 [some (.ref 2048), some (.int (zI a)), some (.int (zI b)), some (.int (zI dg)), some (.long (zJ pw)), none, some (.int (zI k)), none] [] ([r0, r1, zH s2 zL2 0, r3, r4, r5, r6, r7, r8, r9]) r hp1 := by
  intro uN
  induction uN with
  | zero => intro pw k s2 uX H K; cases H
  | succ uN ih =>
    intro pw k s2 uX H K
    unfold d_X5_shiftTo_13 at H
    refine xB.run oX5_shiftTo 1 (s := (15, [some (.ref 2048), some (.int (zI a)), some (.int (zI b)), some (.int (zI dg)), some (.long (zJ pw)), none, some (.int (zI k)), none], [.int (zI k)], [r0, r1, zH s2 zL2 0, r3, r4, r5, r6, r7, r8, r9])) rfl ?_
    obtain ⟨g5, H⟩ := zgd H
    have H := zif H
    refine xB.brE oX5_shiftTo (P := k < 0) rfl (zc_lt (a := k) (b := 0) ⟨g5, by decide⟩) (fun h1 => ?_) (fun h1 => ?_)
    · have H := H.1 h1
      obtain rfl := Option.some.inj H
      exact K
    · have H := H.2 h1
      refine xB.run oX5_shiftTo 6 (s := (30, [some (.ref 2048), some (.int (zI a)), some (.int (zI b)), some (.int (zI dg)), some (.long (zJ pw)), none, some (.int (zI k)), none], [.int (zI k), .ref 2077, .int (zI k), .ref 2078], [r0, r1, zH s2 zL2 0, r3, r4, r5, r6, r7, r8, r9])) rfl ?_
      obtain ⟨g4, H⟩ := zgd H
      refine zB.lald oX5_shiftTo (g := 2) (p := 29) (N := 5) (i := k) rfl rfl (by decide) rfl rfl (by decide) g4 ?_
      refine xB.run oX5_shiftTo 1 (s := (33, [some (.ref 2048), some (.int (zI a)), some (.int (zI b)), some (.int (zI dg)), some (.long (zJ pw)), none, some (.int (zI k)), none], [.long (zJ pw), .long (zJ (s2 29 k.toNat)), .int (zI k), .ref 2078], [r0, r1, zH s2 zL2 0, r3, r4, r5, r6, r7, r8, r9])) rfl ?_
      refine zB.opl oX5_shiftTo rfl (zj_mul (s2 29 k.toNat) pw) ?_
      obtain ⟨g3, H⟩ := zgd H
      refine zB.last oX5_shiftTo (g := 2) (p := 30) (N := 5) (i := k) (hp1 := [r0, r1, zH (upz s2 30 k.toNat ((s2 29 k.toNat) * pw)) zL2 0, r3, r4, r5, r6, r7, r8, r9]) rfl rfl (by decide) (by decide) rfl rfl (by decide) g3 rfl ?_
      refine xB.run oX5_shiftTo 2 (s := (38, [some (.ref 2048), some (.int (zI a)), some (.int (zI b)), some (.int (zI dg)), some (.long (zJ pw)), none, some (.int (zI k)), none], [.int (zI b), .long (zJ pw)], [r0, r1, zH (upz s2 30 k.toNat ((s2 29 k.toNat) * pw)) zL2 0, r3, r4, r5, r6, r7, r8, r9])) rfl ?_
      obtain ⟨g2, H⟩ := zgd H
      refine zB.opl oX5_shiftTo rfl (zi_i2l g2) ?_
      refine zB.opl oX5_shiftTo rfl (zj_mul pw b) ?_
      refine xB.run oX5_shiftTo 1 (s := (42, [some (.ref 2048), some (.int (zI a)), some (.int (zI b)), some (.int (zI dg)), some (.long (zJ (pw * b))), none, some (.int (zI k)), none], [], [r0, r1, zH (upz s2 30 k.toNat ((s2 29 k.toNat) * pw)) zL2 0, r3, r4, r5, r6, r7, r8, r9])) rfl ?_
      refine zB.inc oX5_shiftTo rfl (lv2 := [some (.ref 2048), some (.int (zI a)), some (.int (zI b)), some (.int (zI dg)), some (.long (zJ (pw * b))), none, some (.int (zI (k + (-1)))), none]) (zi_inc (a := 0) (zi_addm1 k) _ rfl) ?_
      refine xB.run oX5_shiftTo 1 (s := (13, [some (.ref 2048), some (.int (zI a)), some (.int (zI b)), some (.int (zI dg)), some (.long (zJ (pw * b))), none, some (.int (zI (k + (-1)))), none], [], [r0, r1, zH (upz s2 30 k.toNat ((s2 29 k.toNat) * pw)) zL2 0, r3, r4, r5, r6, r7, r8, r9])) rfl ?_
      exact ih (pw * b) (k + (-1)) (upz s2 30 k.toNat ((s2 29 k.toNat) * pw)) H K
set_option maxRecDepth 20000 in
theorem l_X5_shiftTo_62 (r0 : List va_E) (r1 : List va_E) (r3 : List va_E) (r4 : List va_E) (r5 : List va_E) (r6 : List va_E) (r7 : List va_E) (r8 : List va_E) (r9 : List va_E) (a : Int) (b : Int) (dg : Int) (pw : Int) (k : Int) {r : Option Value} {hp1 : xH} : ∀ (uN : Nat) (v7 : Int) (s2 : zZ) {uX : Int × zZ}, d_X5_shiftTo_62 a b dg pw k uN v7 s2 = some uX → (xBody MX5_shiftTo 0 97 [some (.ref 2048), some (.int (zI a)), some (.int (zI b)), some (.int (zI dg)), some (.long (zJ pw)), none, some (.int (zI k)), some (.int (zI uX.1))] [] ([r0, r1, zH uX.2 zL2 0, r3, r4, r5, r6, r7, r8, r9]) r hp1) → xBody MX5_shiftTo 0 62 [some (.ref 2048), some (.int (zI a)), some (.int (zI b)), some (.int (zI dg)), some (.long (zJ pw)), none, some (.int (zI k)), some (.int (zI v7))] [] ([r0, r1, zH s2 zL2 0, r3, r4, r5, r6, r7, r8, r9]) r hp1 := by
  intro uN
  induction uN with
  | zero => intro v7 s2 uX H K; cases H
  | succ uN ih =>
    intro v7 s2 uX H K
    unfold d_X5_shiftTo_62 at H
    refine xB.run oX5_shiftTo 2 (s := (66, [some (.ref 2048), some (.int (zI a)), some (.int (zI b)), some (.int (zI dg)), some (.long (zJ pw)), none, some (.int (zI k)), some (.int (zI v7))], [.int (zI k), .int (zI v7)], [r0, r1, zH s2 zL2 0, r3, r4, r5, r6, r7, r8, r9])) rfl ?_
    obtain ⟨g14, H⟩ := zgd H
    have H := zif H
    refine xB.brE oX5_shiftTo (P := v7 < k) rfl (zc_lt (a := v7) (b := k) g14) (fun h9 => ?_) (fun h9 => ?_)
    · have H := H.1 h9
      obtain rfl := Option.some.inj H
      exact K
    · have H := H.2 h9
      refine xB.run oX5_shiftTo 4 (s := (76, [some (.ref 2048), some (.int (zI a)), some (.int (zI b)), some (.int (zI dg)), some (.long (zJ pw)), none, some (.int (zI k)), some (.int (zI v7))], [.int (zI v7), .ref 2078, .int (zI v7), .ref 2078], [r0, r1, zH s2 zL2 0, r3, r4, r5, r6, r7, r8, r9])) rfl ?_
      obtain ⟨g13, H⟩ := zgd H
      refine zB.lald oX5_shiftTo (g := 2) (p := 30) (N := 5) (i := v7) rfl rfl (by decide) rfl rfl (by decide) g13 ?_
      refine xB.run oX5_shiftTo 1 (s := (78, [some (.ref 2048), some (.int (zI a)), some (.int (zI b)), some (.int (zI dg)), some (.long (zJ pw)), none, some (.int (zI k)), some (.int (zI v7))], [.int (zI a), .long (zJ (s2 30 v7.toNat)), .int (zI v7), .ref 2078], [r0, r1, zH s2 zL2 0, r3, r4, r5, r6, r7, r8, r9])) rfl ?_
      obtain ⟨g12, H⟩ := zgd H
      refine zB.opl oX5_shiftTo rfl (zi_i2l g12) ?_
      refine xB.run oX5_shiftTo 4 (s := (86, [some (.ref 2048), some (.int (zI a)), some (.int (zI b)), some (.int (zI dg)), some (.long (zJ pw)), none, some (.int (zI k)), some (.int (zI v7))], [.int (zI 1), .int (zI v7), .ref 2078, .long (zJ a), .long (zJ (s2 30 v7.toNat)), .int (zI v7), .ref 2078], [r0, r1, zH s2 zL2 0, r3, r4, r5, r6, r7, r8, r9])) rfl ?_
      refine zB.opi oX5_shiftTo rfl (zi_add v7 1) ?_
      obtain ⟨g11, H⟩ := zgd H
      refine zB.lald oX5_shiftTo (g := 2) (p := 30) (N := 5) (i := v7 + 1) rfl rfl (by decide) rfl rfl (by decide) g11 ?_
      refine zB.opl oX5_shiftTo rfl (zj_mul a (s2 30 (v7 + 1).toNat)) ?_
      refine zB.opl oX5_shiftTo rfl (zj_add (s2 30 v7.toNat) (a * (s2 30 (v7 + 1).toNat))) ?_
      obtain ⟨g10, H⟩ := zgd H
      refine zB.last oX5_shiftTo (g := 2) (p := 30) (N := 5) (i := v7) (hp1 := [r0, r1, zH (upz s2 30 v7.toNat ((s2 30 v7.toNat) + (a * (s2 30 (v7 + 1).toNat)))) zL2 0, r3, r4, r5, r6, r7, r8, r9]) rfl rfl (by decide) (by decide) rfl rfl (by decide) g10 rfl ?_
      refine zB.inc oX5_shiftTo rfl (lv2 := [some (.ref 2048), some (.int (zI a)), some (.int (zI b)), some (.int (zI dg)), some (.long (zJ pw)), none, some (.int (zI k)), some (.int (zI (v7 + (-1))))]) (zi_inc (a := 0) (zi_addm1 v7) _ rfl) ?_
      refine xB.run oX5_shiftTo 1 (s := (62, [some (.ref 2048), some (.int (zI a)), some (.int (zI b)), some (.int (zI dg)), some (.long (zJ pw)), none, some (.int (zI k)), some (.int (zI (v7 + (-1))))], [], [r0, r1, zH (upz s2 30 v7.toNat ((s2 30 v7.toNat) + (a * (s2 30 (v7 + 1).toNat)))) zL2 0, r3, r4, r5, r6, r7, r8, r9])) rfl ?_
      exact ih (v7 + (-1)) (upz s2 30 v7.toNat ((s2 30 v7.toNat) + (a * (s2 30 (v7 + 1).toNat)))) H K
set_option maxRecDepth 20000 in
theorem l_X5_shiftTo_51 (r0 : List va_E) (r1 : List va_E) (r3 : List va_E) (r4 : List va_E) (r5 : List va_E) (r6 : List va_E) (r7 : List va_E) (r8 : List va_E) (r9 : List va_E) (a : Int) (b : Int) (dg : Int) (pw : Int) {r : Option Value} {hp1 : xH} : ∀ (uN : Nat) (k : Int) (s2 : zZ) {uX : Int × zZ}, d_X5_shiftTo_51 a b dg pw uN k s2 = some uX → (xBody MX5_shiftTo 0 103 [some (.ref 2048), some (.int (zI a)), some (.int (zI b)), some (.int (zI dg)), some (.long (zJ pw)), none, some (.int (zI uX.1)), none] [] ([r0, r1, zH uX.2 zL2 0, r3, r4, r5, r6, r7, r8, r9]) r hp1) → xBody MX5_shiftTo 0 51 [some (.ref 2048), some (.int (zI a)), some (.int (zI b)), some (.int (zI dg)), some (.long (zJ pw)), none, some (.int (zI k)), none] [] ([r0, r1, zH s2 zL2 0, r3, r4, r5, r6, r7, r8, r9]) r hp1 := by
  intro uN
  induction uN with
  | zero => intro k s2 uX H K; cases H
  | succ uN ih =>
    intro k s2 uX H K
    unfold d_X5_shiftTo_51 at H
    refine xB.run oX5_shiftTo 2 (s := (54, [some (.ref 2048), some (.int (zI a)), some (.int (zI b)), some (.int (zI dg)), some (.long (zJ pw)), none, some (.int (zI k)), none], [.int (zI dg), .int (zI k)], [r0, r1, zH s2 zL2 0, r3, r4, r5, r6, r7, r8, r9])) rfl ?_
    obtain ⟨g17, H⟩ := zgd H
    have H := zif H
    refine xB.brE oX5_shiftTo (P := dg ≤ k) rfl (zc_ge (a := k) (b := dg) g17) (fun h8 => ?_) (fun h8 => ?_)
    · have H := H.1 h8
      obtain rfl := Option.some.inj H
      exact K
    · have H := H.2 h8
      refine xB.run oX5_shiftTo 2 (s := (59, [some (.ref 2048), some (.int (zI a)), some (.int (zI b)), some (.int (zI dg)), some (.long (zJ pw)), none, some (.int (zI k)), none], [.int (zI 1), .int (zI dg)], [r0, r1, zH s2 zL2 0, r3, r4, r5, r6, r7, r8, r9])) rfl ?_
      refine zB.opi oX5_shiftTo rfl (zi_sub dg 1) ?_
      refine xB.run oX5_shiftTo 1 (s := (62, [some (.ref 2048), some (.int (zI a)), some (.int (zI b)), some (.int (zI dg)), some (.long (zJ pw)), none, some (.int (zI k)), some (.int (zI (dg - 1)))], [], [r0, r1, zH s2 zL2 0, r3, r4, r5, r6, r7, r8, r9])) rfl ?_
      obtain ⟨y15, e16, H⟩ := zbd H
      refine l_X5_shiftTo_62 r0 r1 r3 r4 r5 r6 r7 r8 r9 a b dg pw k _ (dg - 1) s2 e16 ?_
      refine zB.inc oX5_shiftTo rfl (lv2 := [some (.ref 2048), some (.int (zI a)), some (.int (zI b)), some (.int (zI dg)), some (.long (zJ pw)), none, some (.int (zI (k + 1))), some (.int (zI y15.1))]) (zi_inc (a := 0) (zi_addp1 k) _ rfl) ?_
      refine xB.run oX5_shiftTo 1 (s := (51, [some (.ref 2048), some (.int (zI a)), some (.int (zI b)), some (.int (zI dg)), some (.long (zJ pw)), none, some (.int (zI (k + 1))), some (.int (zI y15.1))], [], [r0, r1, zH y15.2 zL2 0, r3, r4, r5, r6, r7, r8, r9])) rfl ?_
      refine xB.forget (lv1 := [some (.ref 2048), some (.int (zI a)), some (.int (zI b)), some (.int (zI dg)), some (.long (zJ pw)), none, some (.int (zI (k + 1))), none]) (xle_same (xle_same (xle_same (xle_same (xle_same (xle_same (xle_same (xle_none (xle_nil))))))))) ?_
      exact ih (k + 1) y15.2 H K
set_option maxRecDepth 20000 in
theorem t_X5_shiftTo (r0 : List va_E) (r1 : List va_E) (s2 : zZ) (r3 : List va_E) (r4 : List va_E) (r5 : List va_E) (r6 : List va_E) (r7 : List va_E) (r8 : List va_E) (r9 : List va_E) (a : Int) (b : Int) {rr : zZ} (H : d_X5_shiftTo s2 a b = some rr) : xC MX5_shiftTo 0 [.ref 2048, .int (zI a), .int (zI b)] ([r0, r1, zH s2 zL2 0, r3, r4, r5, r6, r7, r8, r9]) (none) ([r0, r1, zH rr zL2 0, r3, r4, r5, r6, r7, r8, r9]) := by
  refine ⟨Nat.le_of_ble_eq_true rfl, ?_⟩
  show xBody MX5_shiftTo 0 0 [some (.ref 2048), some (.int (zI a)), some (.int (zI b)), none, none, none, none, none] [] ([r0, r1, zH s2 zL2 0, r3, r4, r5, r6, r7, r8, r9]) _ _
  unfold d_X5_shiftTo at H
  refine xB.run oX5_shiftTo 3 (s := (5, [some (.ref 2048), some (.int (zI a)), some (.int (zI b)), none, none, none, none, none], [.int (zI 1), .int (zI (s2 0 0))], [r0, r1, zH s2 zL2 0, r3, r4, r5, r6, r7, r8, r9])) rfl ?_
  refine zB.opi oX5_shiftTo rfl (zi_sub (s2 0 0) 1) ?_
  refine xB.run oX5_shiftTo 5 (s := (13, [some (.ref 2048), some (.int (zI a)), some (.int (zI b)), some (.int (zI ((s2 0 0) - 1))), some (.long (zJ 1)), none, some (.int (zI ((s2 0 0) - 1))), none], [], [r0, r1, zH s2 zL2 0, r3, r4, r5, r6, r7, r8, r9])) rfl ?_
  obtain ⟨y6, e7, H⟩ := zbd H
  refine l_X5_shiftTo_13 r0 r1 r3 r4 r5 r6 r7 r8 r9 a b ((s2 0 0) - 1) _ 1 ((s2 0 0) - 1) s2 e7 ?_
  refine xB.run oX5_shiftTo 2 (s := (51, [some (.ref 2048), some (.int (zI a)), some (.int (zI b)), some (.int (zI ((s2 0 0) - 1))), some (.long (zJ y6.1)), none, some (.int (zI 0)), none], [], [r0, r1, zH y6.2.2 zL2 0, r3, r4, r5, r6, r7, r8, r9])) rfl ?_
  obtain ⟨y18, e19, H⟩ := zbd H
  refine l_X5_shiftTo_51 r0 r1 r3 r4 r5 r6 r7 r8 r9 a b ((s2 0 0) - 1) y6.1 _ 0 y6.2.2 e19 ?_
  obtain rfl := Option.some.inj H
  exact xB.ret oX5_shiftTo (r1 := none) rfl rfl rfl
def d_X5_foldsBelow_14 (s2 : zZ) (a : Int) (b : Int) : Nat → Int → Int → Int → Option (Int × Int × Int)
  | 0, _, _, _ => none
  | uN + 1, ch, bef, k => if (zr k ∧ zr (s2 0 0)) then (if (s2 0 0) ≤ k then some (ch, bef, k) else (if (zr (k % 2)) then (if (k % 2) ≠ 0 then (if (0 ≤ k ∧ k < 5) then ((d_J13_compare_74951 (-(s2 30 k.toNat)) 0).bind fun y5 => if (zr y5) then (if y5 = 0 then (d_X5_foldsBelow_14 s2 a b uN ch bef (k + 1)) else (if (zr (bef * y5)) then (if (0 : Int) ≤ (bef * y5) then (d_X5_foldsBelow_14 s2 a b uN (ch + 0) y5 (k + 1)) else (d_X5_foldsBelow_14 s2 a b uN (ch + 1) y5 (k + 1))) else none)) else none) else none) else (if (0 ≤ k ∧ k < 5) then ((d_J13_compare_74951 (s2 30 k.toNat) 0).bind fun y12 => if (zr y12) then (if y12 = 0 then (d_X5_foldsBelow_14 s2 a b uN ch bef (k + 1)) else (if (zr (bef * y12)) then (if (0 : Int) ≤ (bef * y12) then (d_X5_foldsBelow_14 s2 a b uN (ch + 0) y12 (k + 1)) else (d_X5_foldsBelow_14 s2 a b uN (ch + 1) y12 (k + 1))) else none)) else none) else none)) else none)) else none
def d_X5_foldsBelow (s2 : zZ) (a : Int) (b : Int) : Option (Int × zZ) := (d_X5_shiftTo s2 a b).bind fun y1 => (d_X5_foldsBelow_14 y1 a b zF 0 0 0).bind fun y21 => some (y21.1, y1)
set_option maxRecDepth 20000 in
theorem l_X5_foldsBelow_14 (r0 : List va_E) (r1 : List va_E) (s2 : zZ) (r3 : List va_E) (r4 : List va_E) (r5 : List va_E) (r6 : List va_E) (r7 : List va_E) (r8 : List va_E) (r9 : List va_E) (a : Int) (b : Int) {r : Option Value} {hp1 : xH} : ∀ (uN : Nat) (ch : Int) (bef : Int) (k : Int) {uX : Int × Int × Int}, d_X5_foldsBelow_14 s2 a b uN ch bef k = some uX → (xBody MX5_foldsBelow 1 85 [some (.ref 2048), some (.int (zI a)), some (.int (zI b)), some (.int (zI uX.1)), some (.int (zI uX.2.1)), some (.int (zI uX.2.2)), none] [] ([r0, r1, zH s2 zL2 0, r3, r4, r5, r6, r7, r8, r9]) r hp1) → xBody MX5_foldsBelow 1 14 [some (.ref 2048), some (.int (zI a)), some (.int (zI b)), some (.int (zI ch)), some (.int (zI bef)), some (.int (zI k)), none] [] ([r0, r1, zH s2 zL2 0, r3, r4, r5, r6, r7, r8, r9]) r hp1 := by
  intro uN
  induction uN with
  | zero => intro ch bef k uX H K; cases H
  | succ uN ih =>
    intro ch bef k uX H K
    unfold d_X5_foldsBelow_14 at H
    refine xB.run oX5_foldsBelow 3 (s := (20, [some (.ref 2048), some (.int (zI a)), some (.int (zI b)), some (.int (zI ch)), some (.int (zI bef)), some (.int (zI k)), none], [.int (zI (s2 0 0)), .int (zI k)], [r0, r1, zH s2 zL2 0, r3, r4, r5, r6, r7, r8, r9])) rfl ?_
    obtain ⟨g20, H⟩ := zgd H
    have H := zif H
    refine xB.brE oX5_foldsBelow (P := (s2 0 0) ≤ k) rfl (zc_ge (a := k) (b := s2 0 0) g20) (fun h3 => ?_) (fun h3 => ?_)
    · have H := H.1 h3
      obtain rfl := Option.some.inj H
      exact K
    · have H := H.2 h3
      refine xB.run oX5_foldsBelow 2 (s := (26, [some (.ref 2048), some (.int (zI a)), some (.int (zI b)), some (.int (zI ch)), some (.int (zI bef)), some (.int (zI k)), none], [.int (zI 1), .int (zI k)], [r0, r1, zH s2 zL2 0, r3, r4, r5, r6, r7, r8, r9])) rfl ?_
      refine zB.opi oX5_foldsBelow rfl (zi_and1 k) ?_
      obtain ⟨g19, H⟩ := zgd H
      have H := zif H
      refine xB.brE oX5_foldsBelow (P := (k % 2) ≠ 0) rfl (zc_ne (a := k % 2) (b := 0) ⟨g19, by decide⟩) (fun h4 => ?_) (fun h4 => ?_)
      · have H := H.1 h4
        refine xB.run oX5_foldsBelow 3 (s := (46, [some (.ref 2048), some (.int (zI a)), some (.int (zI b)), some (.int (zI ch)), some (.int (zI bef)), some (.int (zI k)), none], [.int (zI k), .ref 2078], [r0, r1, zH s2 zL2 0, r3, r4, r5, r6, r7, r8, r9])) rfl ?_
        obtain ⟨g11, H⟩ := zgd H
        refine zB.lald oX5_foldsBelow (g := 2) (p := 30) (N := 5) (i := k) rfl rfl (by decide) rfl rfl (by decide) g11 ?_
        refine zB.opl oX5_foldsBelow rfl (zj_neg (s2 30 k.toNat)) ?_
        refine xB.run oX5_foldsBelow 1 (s := (49, [some (.ref 2048), some (.int (zI a)), some (.int (zI b)), some (.int (zI ch)), some (.int (zI bef)), some (.int (zI k)), none], [.long (zJ 0), .long (zJ (-(s2 30 k.toNat)))], [r0, r1, zH s2 zL2 0, r3, r4, r5, r6, r7, r8, r9])) rfl ?_
        obtain ⟨y5, e6, H⟩ := zbd H
        refine xB.call oX5_foldsBelow (M2 := MJ13_compare_74951) rfl rfl ((t_J13_compare_74951 r0 r1 (zH s2 zL2 0) r3 r4 r5 r6 r7 r8 r9 (-(s2 30 k.toNat)) 0 e6).deep (by decide : 0 ≤ 0)) ?_
        show xBody MX5_foldsBelow 1 52 [some (.ref 2048), some (.int (zI a)), some (.int (zI b)), some (.int (zI ch)), some (.int (zI bef)), some (.int (zI k)), none] [.int (zI y5)] ([r0, r1, zH s2 zL2 0, r3, r4, r5, r6, r7, r8, r9]) _ _
        refine xB.run oX5_foldsBelow 2 (s := (56, [some (.ref 2048), some (.int (zI a)), some (.int (zI b)), some (.int (zI ch)), some (.int (zI bef)), some (.int (zI k)), some (.int (zI y5))], [.int (zI y5)], [r0, r1, zH s2 zL2 0, r3, r4, r5, r6, r7, r8, r9])) rfl ?_
        obtain ⟨g10, H⟩ := zgd H
        have H := zif H
        refine xB.brE oX5_foldsBelow (P := y5 = 0) rfl (zc_eq (a := y5) (b := 0) ⟨g10, by decide⟩) (fun h7 => ?_) (fun h7 => ?_)
        · have H := H.1 h7
          refine zB.inc oX5_foldsBelow rfl (lv2 := [some (.ref 2048), some (.int (zI a)), some (.int (zI b)), some (.int (zI ch)), some (.int (zI bef)), some (.int (zI (k + 1))), some (.int (zI y5))]) (zi_inc (a := 0) (zi_addp1 k) _ rfl) ?_
          refine xB.run oX5_foldsBelow 1 (s := (14, [some (.ref 2048), some (.int (zI a)), some (.int (zI b)), some (.int (zI ch)), some (.int (zI bef)), some (.int (zI (k + 1))), some (.int (zI y5))], [], [r0, r1, zH s2 zL2 0, r3, r4, r5, r6, r7, r8, r9])) rfl ?_
          refine xB.forget (lv1 := [some (.ref 2048), some (.int (zI a)), some (.int (zI b)), some (.int (zI ch)), some (.int (zI bef)), some (.int (zI (k + 1))), none]) (xle_same (xle_same (xle_same (xle_same (xle_same (xle_same (xle_none (xle_nil)))))))) ?_
          exact ih ch bef (k + 1) H K
        · have H := H.2 h7
          refine xB.run oX5_foldsBelow 3 (s := (64, [some (.ref 2048), some (.int (zI a)), some (.int (zI b)), some (.int (zI ch)), some (.int (zI bef)), some (.int (zI k)), some (.int (zI y5))], [.int (zI y5), .int (zI bef), .int (zI ch)], [r0, r1, zH s2 zL2 0, r3, r4, r5, r6, r7, r8, r9])) rfl ?_
          refine zB.opi oX5_foldsBelow rfl (zi_mul bef y5) ?_
          obtain ⟨g9, H⟩ := zgd H
          have H := zif H
          refine xB.brE oX5_foldsBelow (P := (0 : Int) ≤ (bef * y5)) rfl (zc_ge (a := bef * y5) (b := 0) ⟨g9, by decide⟩) (fun h8 => ?_) (fun h8 => ?_)
          · have H := H.1 h8
            refine xB.run oX5_foldsBelow 1 (s := (73, [some (.ref 2048), some (.int (zI a)), some (.int (zI b)), some (.int (zI ch)), some (.int (zI bef)), some (.int (zI k)), some (.int (zI y5))], [.int (zI 0), .int (zI ch)], [r0, r1, zH s2 zL2 0, r3, r4, r5, r6, r7, r8, r9])) rfl ?_
            refine zB.opi oX5_foldsBelow rfl (zi_add ch 0) ?_
            refine xB.run oX5_foldsBelow 3 (s := (79, [some (.ref 2048), some (.int (zI a)), some (.int (zI b)), some (.int (zI (ch + 0))), some (.int (zI y5)), some (.int (zI k)), some (.int (zI y5))], [], [r0, r1, zH s2 zL2 0, r3, r4, r5, r6, r7, r8, r9])) rfl ?_
            refine zB.inc oX5_foldsBelow rfl (lv2 := [some (.ref 2048), some (.int (zI a)), some (.int (zI b)), some (.int (zI (ch + 0))), some (.int (zI y5)), some (.int (zI (k + 1))), some (.int (zI y5))]) (zi_inc (a := 0) (zi_addp1 k) _ rfl) ?_
            refine xB.run oX5_foldsBelow 1 (s := (14, [some (.ref 2048), some (.int (zI a)), some (.int (zI b)), some (.int (zI (ch + 0))), some (.int (zI y5)), some (.int (zI (k + 1))), some (.int (zI y5))], [], [r0, r1, zH s2 zL2 0, r3, r4, r5, r6, r7, r8, r9])) rfl ?_
            refine xB.forget (lv1 := [some (.ref 2048), some (.int (zI a)), some (.int (zI b)), some (.int (zI (ch + 0))), some (.int (zI y5)), some (.int (zI (k + 1))), none]) (xle_same (xle_same (xle_same (xle_same (xle_same (xle_same (xle_none (xle_nil)))))))) ?_
            exact ih (ch + 0) y5 (k + 1) H K
          · have H := H.2 h8
            refine xB.run oX5_foldsBelow 2 (s := (73, [some (.ref 2048), some (.int (zI a)), some (.int (zI b)), some (.int (zI ch)), some (.int (zI bef)), some (.int (zI k)), some (.int (zI y5))], [.int (zI 1), .int (zI ch)], [r0, r1, zH s2 zL2 0, r3, r4, r5, r6, r7, r8, r9])) rfl ?_
            refine zB.opi oX5_foldsBelow rfl (zi_add ch 1) ?_
            refine xB.run oX5_foldsBelow 3 (s := (79, [some (.ref 2048), some (.int (zI a)), some (.int (zI b)), some (.int (zI (ch + 1))), some (.int (zI y5)), some (.int (zI k)), some (.int (zI y5))], [], [r0, r1, zH s2 zL2 0, r3, r4, r5, r6, r7, r8, r9])) rfl ?_
            refine zB.inc oX5_foldsBelow rfl (lv2 := [some (.ref 2048), some (.int (zI a)), some (.int (zI b)), some (.int (zI (ch + 1))), some (.int (zI y5)), some (.int (zI (k + 1))), some (.int (zI y5))]) (zi_inc (a := 0) (zi_addp1 k) _ rfl) ?_
            refine xB.run oX5_foldsBelow 1 (s := (14, [some (.ref 2048), some (.int (zI a)), some (.int (zI b)), some (.int (zI (ch + 1))), some (.int (zI y5)), some (.int (zI (k + 1))), some (.int (zI y5))], [], [r0, r1, zH s2 zL2 0, r3, r4, r5, r6, r7, r8, r9])) rfl ?_
            refine xB.forget (lv1 := [some (.ref 2048), some (.int (zI a)), some (.int (zI b)), some (.int (zI (ch + 1))), some (.int (zI y5)), some (.int (zI (k + 1))), none]) (xle_same (xle_same (xle_same (xle_same (xle_same (xle_same (xle_none (xle_nil)))))))) ?_
            exact ih (ch + 1) y5 (k + 1) H K
      · have H := H.2 h4
        refine xB.run oX5_foldsBelow 3 (s := (36, [some (.ref 2048), some (.int (zI a)), some (.int (zI b)), some (.int (zI ch)), some (.int (zI bef)), some (.int (zI k)), none], [.int (zI k), .ref 2078], [r0, r1, zH s2 zL2 0, r3, r4, r5, r6, r7, r8, r9])) rfl ?_
        obtain ⟨g18, H⟩ := zgd H
        refine zB.lald oX5_foldsBelow (g := 2) (p := 30) (N := 5) (i := k) rfl rfl (by decide) rfl rfl (by decide) g18 ?_
        refine xB.run oX5_foldsBelow 2 (s := (49, [some (.ref 2048), some (.int (zI a)), some (.int (zI b)), some (.int (zI ch)), some (.int (zI bef)), some (.int (zI k)), none], [.long (zJ 0), .long (zJ (s2 30 k.toNat))], [r0, r1, zH s2 zL2 0, r3, r4, r5, r6, r7, r8, r9])) rfl ?_
        obtain ⟨y12, e13, H⟩ := zbd H
        refine xB.call oX5_foldsBelow (M2 := MJ13_compare_74951) rfl rfl ((t_J13_compare_74951 r0 r1 (zH s2 zL2 0) r3 r4 r5 r6 r7 r8 r9 (s2 30 k.toNat) 0 e13).deep (by decide : 0 ≤ 0)) ?_
        show xBody MX5_foldsBelow 1 52 [some (.ref 2048), some (.int (zI a)), some (.int (zI b)), some (.int (zI ch)), some (.int (zI bef)), some (.int (zI k)), none] [.int (zI y12)] ([r0, r1, zH s2 zL2 0, r3, r4, r5, r6, r7, r8, r9]) _ _
        refine xB.run oX5_foldsBelow 2 (s := (56, [some (.ref 2048), some (.int (zI a)), some (.int (zI b)), some (.int (zI ch)), some (.int (zI bef)), some (.int (zI k)), some (.int (zI y12))], [.int (zI y12)], [r0, r1, zH s2 zL2 0, r3, r4, r5, r6, r7, r8, r9])) rfl ?_
        obtain ⟨g17, H⟩ := zgd H
        have H := zif H
        refine xB.brE oX5_foldsBelow (P := y12 = 0) rfl (zc_eq (a := y12) (b := 0) ⟨g17, by decide⟩) (fun h14 => ?_) (fun h14 => ?_)
        · have H := H.1 h14
          refine zB.inc oX5_foldsBelow rfl (lv2 := [some (.ref 2048), some (.int (zI a)), some (.int (zI b)), some (.int (zI ch)), some (.int (zI bef)), some (.int (zI (k + 1))), some (.int (zI y12))]) (zi_inc (a := 0) (zi_addp1 k) _ rfl) ?_
          refine xB.run oX5_foldsBelow 1 (s := (14, [some (.ref 2048), some (.int (zI a)), some (.int (zI b)), some (.int (zI ch)), some (.int (zI bef)), some (.int (zI (k + 1))), some (.int (zI y12))], [], [r0, r1, zH s2 zL2 0, r3, r4, r5, r6, r7, r8, r9])) rfl ?_
          refine xB.forget (lv1 := [some (.ref 2048), some (.int (zI a)), some (.int (zI b)), some (.int (zI ch)), some (.int (zI bef)), some (.int (zI (k + 1))), none]) (xle_same (xle_same (xle_same (xle_same (xle_same (xle_same (xle_none (xle_nil)))))))) ?_
          exact ih ch bef (k + 1) H K
        · have H := H.2 h14
          refine xB.run oX5_foldsBelow 3 (s := (64, [some (.ref 2048), some (.int (zI a)), some (.int (zI b)), some (.int (zI ch)), some (.int (zI bef)), some (.int (zI k)), some (.int (zI y12))], [.int (zI y12), .int (zI bef), .int (zI ch)], [r0, r1, zH s2 zL2 0, r3, r4, r5, r6, r7, r8, r9])) rfl ?_
          refine zB.opi oX5_foldsBelow rfl (zi_mul bef y12) ?_
          obtain ⟨g16, H⟩ := zgd H
          have H := zif H
          refine xB.brE oX5_foldsBelow (P := (0 : Int) ≤ (bef * y12)) rfl (zc_ge (a := bef * y12) (b := 0) ⟨g16, by decide⟩) (fun h15 => ?_) (fun h15 => ?_)
          · have H := H.1 h15
            refine xB.run oX5_foldsBelow 1 (s := (73, [some (.ref 2048), some (.int (zI a)), some (.int (zI b)), some (.int (zI ch)), some (.int (zI bef)), some (.int (zI k)), some (.int (zI y12))], [.int (zI 0), .int (zI ch)], [r0, r1, zH s2 zL2 0, r3, r4, r5, r6, r7, r8, r9])) rfl ?_
            refine zB.opi oX5_foldsBelow rfl (zi_add ch 0) ?_
            refine xB.run oX5_foldsBelow 3 (s := (79, [some (.ref 2048), some (.int (zI a)), some (.int (zI b)), some (.int (zI (ch + 0))), some (.int (zI y12)), some (.int (zI k)), some (.int (zI y12))], [], [r0, r1, zH s2 zL2 0, r3, r4, r5, r6, r7, r8, r9])) rfl ?_
            refine zB.inc oX5_foldsBelow rfl (lv2 := [some (.ref 2048), some (.int (zI a)), some (.int (zI b)), some (.int (zI (ch + 0))), some (.int (zI y12)), some (.int (zI (k + 1))), some (.int (zI y12))]) (zi_inc (a := 0) (zi_addp1 k) _ rfl) ?_
            refine xB.run oX5_foldsBelow 1 (s := (14, [some (.ref 2048), some (.int (zI a)), some (.int (zI b)), some (.int (zI (ch + 0))), some (.int (zI y12)), some (.int (zI (k + 1))), some (.int (zI y12))], [], [r0, r1, zH s2 zL2 0, r3, r4, r5, r6, r7, r8, r9])) rfl ?_
            refine xB.forget (lv1 := [some (.ref 2048), some (.int (zI a)), some (.int (zI b)), some (.int (zI (ch + 0))), some (.int (zI y12)), some (.int (zI (k + 1))), none]) (xle_same (xle_same (xle_same (xle_same (xle_same (xle_same (xle_none (xle_nil)))))))) ?_
            exact ih (ch + 0) y12 (k + 1) H K
          · have H := H.2 h15
            refine xB.run oX5_foldsBelow 2 (s := (73, [some (.ref 2048), some (.int (zI a)), some (.int (zI b)), some (.int (zI ch)), some (.int (zI bef)), some (.int (zI k)), some (.int (zI y12))], [.int (zI 1), .int (zI ch)], [r0, r1, zH s2 zL2 0, r3, r4, r5, r6, r7, r8, r9])) rfl ?_
            refine zB.opi oX5_foldsBelow rfl (zi_add ch 1) ?_
            refine xB.run oX5_foldsBelow 3 (s := (79, [some (.ref 2048), some (.int (zI a)), some (.int (zI b)), some (.int (zI (ch + 1))), some (.int (zI y12)), some (.int (zI k)), some (.int (zI y12))], [], [r0, r1, zH s2 zL2 0, r3, r4, r5, r6, r7, r8, r9])) rfl ?_
            refine zB.inc oX5_foldsBelow rfl (lv2 := [some (.ref 2048), some (.int (zI a)), some (.int (zI b)), some (.int (zI (ch + 1))), some (.int (zI y12)), some (.int (zI (k + 1))), some (.int (zI y12))]) (zi_inc (a := 0) (zi_addp1 k) _ rfl) ?_
            refine xB.run oX5_foldsBelow 1 (s := (14, [some (.ref 2048), some (.int (zI a)), some (.int (zI b)), some (.int (zI (ch + 1))), some (.int (zI y12)), some (.int (zI (k + 1))), some (.int (zI y12))], [], [r0, r1, zH s2 zL2 0, r3, r4, r5, r6, r7, r8, r9])) rfl ?_
            refine xB.forget (lv1 := [some (.ref 2048), some (.int (zI a)), some (.int (zI b)), some (.int (zI (ch + 1))), some (.int (zI y12)), some (.int (zI (k + 1))), none]) (xle_same (xle_same (xle_same (xle_same (xle_same (xle_same (xle_none (xle_nil)))))))) ?_
            exact ih (ch + 1) y12 (k + 1) H K
set_option maxRecDepth 20000 in
theorem t_X5_foldsBelow (r0 : List va_E) (r1 : List va_E) (s2 : zZ) (r3 : List va_E) (r4 : List va_E) (r5 : List va_E) (r6 : List va_E) (r7 : List va_E) (r8 : List va_E) (r9 : List va_E) (a : Int) (b : Int) {rr : Int × zZ} (H : d_X5_foldsBelow s2 a b = some rr) : xC MX5_foldsBelow 1 [.ref 2048, .int (zI a), .int (zI b)] ([r0, r1, zH s2 zL2 0, r3, r4, r5, r6, r7, r8, r9]) (some (.int (zI rr.1))) ([r0, r1, zH rr.2 zL2 0, r3, r4, r5, r6, r7, r8, r9]) := by
  refine ⟨Nat.le_of_ble_eq_true rfl, ?_⟩
  show xBody MX5_foldsBelow 1 0 [some (.ref 2048), some (.int (zI a)), some (.int (zI b)), none, none, none, none] [] ([r0, r1, zH s2 zL2 0, r3, r4, r5, r6, r7, r8, r9]) _ _
  unfold d_X5_foldsBelow at H
  refine xB.run oX5_foldsBelow 3 (s := (3, [some (.ref 2048), some (.int (zI a)), some (.int (zI b)), none, none, none, none], [.int (zI b), .int (zI a), .ref 2048], [r0, r1, zH s2 zL2 0, r3, r4, r5, r6, r7, r8, r9])) rfl ?_
  obtain ⟨y1, e2, H⟩ := zbd H
  refine xB.call oX5_foldsBelow (M2 := MX5_shiftTo) rfl rfl ((t_X5_shiftTo r0 r1 s2 r3 r4 r5 r6 r7 r8 r9 a b e2).deep (by decide : 0 ≤ 0)) ?_
  show xBody MX5_foldsBelow 1 6 [some (.ref 2048), some (.int (zI a)), some (.int (zI b)), none, none, none, none] [] ([r0, r1, zH y1 zL2 0, r3, r4, r5, r6, r7, r8, r9]) _ _
  refine xB.run oX5_foldsBelow 6 (s := (14, [some (.ref 2048), some (.int (zI a)), some (.int (zI b)), some (.int (zI 0)), some (.int (zI 0)), some (.int (zI 0)), none], [], [r0, r1, zH y1 zL2 0, r3, r4, r5, r6, r7, r8, r9])) rfl ?_
  obtain ⟨y21, e22, H⟩ := zbd H
  refine l_X5_foldsBelow_14 r0 r1 y1 r3 r4 r5 r6 r7 r8 r9 a b _ 0 0 0 e22 ?_
  refine xB.run oX5_foldsBelow 1 (s := (86, [some (.ref 2048), some (.int (zI a)), some (.int (zI b)), some (.int (zI y21.1)), some (.int (zI y21.2.1)), some (.int (zI y21.2.2)), none], [.int (zI y21.1)], [r0, r1, zH y1 zL2 0, r3, r4, r5, r6, r7, r8, r9])) rfl ?_
  obtain rfl := Option.some.inj H
  exact xB.ret oX5_foldsBelow (r1 := some (.int (zI y21.1))) rfl rfl rfl
def d_X5_foldsAt_8 (s2 : zZ) (a : Int) (b : Int) : Nat → Int → Option (Int)
  | 0, _ => none
  | uN + 1, ti => if (zr ti ∧ zr ((s2 0 0) - 1)) then (if ((s2 0 0) - 1) ≤ ti then some ti else (if (0 ≤ ti ∧ ti < 5) then (if (zrl (s2 30 ti.toNat)) then (if (s2 30 ti.toNat) ≠ 0 then some ti else (d_X5_foldsAt_8 s2 a b uN (ti + 1))) else none) else none)) else none
def d_X5_foldsAt (s2 : zZ) (a : Int) (b : Int) : Option (Int × zZ) := (d_X5_shiftTo s2 a b).bind fun y1 => (d_X5_foldsAt_8 y1 a b zF 0).bind fun y8 => some (y8, y1)
set_option maxRecDepth 20000 in
theorem l_X5_foldsAt_8 (r0 : List va_E) (r1 : List va_E) (s2 : zZ) (r3 : List va_E) (r4 : List va_E) (r5 : List va_E) (r6 : List va_E) (r7 : List va_E) (r8 : List va_E) (r9 : List va_E) (a : Int) (b : Int) {r : Option Value} {hp1 : xH} : ∀ (uN : Nat) (ti : Int) {uX : Int}, d_X5_foldsAt_8 s2 a b uN ti = some uX → (xBody MX5_foldsAt 1 35 [some (.ref 2048), some (.int (zI a)), some (.int (zI b)), some (.int (zI uX))] [] ([r0, r1, zH s2 zL2 0, r3, r4, r5, r6, r7, r8, r9]) r hp1) → xBody MX5_foldsAt 1 8 [some (.ref 2048), some (.int (zI a)), some (.int (zI b)), some (.int (zI ti))] [] ([r0, r1, zH s2 zL2 0, r3, r4, r5, r6, r7, r8, r9]) r hp1 := by
  intro uN
  induction uN with
  | zero => intro ti uX H K; cases H
  | succ uN ih =>
    intro ti uX H K
    unfold d_X5_foldsAt_8 at H
    refine xB.run oX5_foldsAt 4 (s := (14, [some (.ref 2048), some (.int (zI a)), some (.int (zI b)), some (.int (zI ti))], [.int (zI 1), .int (zI (s2 0 0)), .int (zI ti)], [r0, r1, zH s2 zL2 0, r3, r4, r5, r6, r7, r8, r9])) rfl ?_
    refine zB.opi oX5_foldsAt rfl (zi_sub (s2 0 0) 1) ?_
    obtain ⟨g7, H⟩ := zgd H
    have H := zif H
    refine xB.brE oX5_foldsAt (P := ((s2 0 0) - 1) ≤ ti) rfl (zc_ge (a := ti) (b := (s2 0 0) - 1) g7) (fun h3 => ?_) (fun h3 => ?_)
    · have H := H.1 h3
      obtain rfl := Option.some.inj H
      exact K
    · have H := H.2 h3
      refine xB.run oX5_foldsAt 3 (s := (23, [some (.ref 2048), some (.int (zI a)), some (.int (zI b)), some (.int (zI ti))], [.int (zI ti), .ref 2078], [r0, r1, zH s2 zL2 0, r3, r4, r5, r6, r7, r8, r9])) rfl ?_
      obtain ⟨g6, H⟩ := zgd H
      refine zB.lald oX5_foldsAt (g := 2) (p := 30) (N := 5) (i := ti) rfl rfl (by decide) rfl rfl (by decide) g6 ?_
      refine xB.run oX5_foldsAt 2 (s := (26, [some (.ref 2048), some (.int (zI a)), some (.int (zI b)), some (.int (zI ti))], [.int (lg_cmp (zJ (s2 30 ti.toNat)) (zJ 0))], [r0, r1, zH s2 zL2 0, r3, r4, r5, r6, r7, r8, r9])) rfl ?_
      obtain ⟨g5, H⟩ := zgd H
      have H := zif H
      refine xB.brE oX5_foldsAt (P := (s2 30 ti.toNat) ≠ 0) rfl (zl_ne (a := s2 30 ti.toNat) (b := 0) ⟨g5, by decide⟩) (fun h4 => ?_) (fun h4 => ?_)
      · have H := H.1 h4
        obtain rfl := Option.some.inj H
        exact K
      · have H := H.2 h4
        refine zB.inc oX5_foldsAt rfl (lv2 := [some (.ref 2048), some (.int (zI a)), some (.int (zI b)), some (.int (zI (ti + 1)))]) (zi_inc (a := 0) (zi_addp1 ti) _ rfl) ?_
        refine xB.run oX5_foldsAt 1 (s := (8, [some (.ref 2048), some (.int (zI a)), some (.int (zI b)), some (.int (zI (ti + 1)))], [], [r0, r1, zH s2 zL2 0, r3, r4, r5, r6, r7, r8, r9])) rfl ?_
        exact ih (ti + 1) H K
set_option maxRecDepth 20000 in
theorem t_X5_foldsAt (r0 : List va_E) (r1 : List va_E) (s2 : zZ) (r3 : List va_E) (r4 : List va_E) (r5 : List va_E) (r6 : List va_E) (r7 : List va_E) (r8 : List va_E) (r9 : List va_E) (a : Int) (b : Int) {rr : Int × zZ} (H : d_X5_foldsAt s2 a b = some rr) : xC MX5_foldsAt 1 [.ref 2048, .int (zI a), .int (zI b)] ([r0, r1, zH s2 zL2 0, r3, r4, r5, r6, r7, r8, r9]) (some (.int (zI rr.1))) ([r0, r1, zH rr.2 zL2 0, r3, r4, r5, r6, r7, r8, r9]) := by
  refine ⟨Nat.le_of_ble_eq_true rfl, ?_⟩
  show xBody MX5_foldsAt 1 0 [some (.ref 2048), some (.int (zI a)), some (.int (zI b)), none] [] ([r0, r1, zH s2 zL2 0, r3, r4, r5, r6, r7, r8, r9]) _ _
  unfold d_X5_foldsAt at H
  refine xB.run oX5_foldsAt 3 (s := (3, [some (.ref 2048), some (.int (zI a)), some (.int (zI b)), none], [.int (zI b), .int (zI a), .ref 2048], [r0, r1, zH s2 zL2 0, r3, r4, r5, r6, r7, r8, r9])) rfl ?_
  obtain ⟨y1, e2, H⟩ := zbd H
  refine xB.call oX5_foldsAt (M2 := MX5_shiftTo) rfl rfl ((t_X5_shiftTo r0 r1 s2 r3 r4 r5 r6 r7 r8 r9 a b e2).deep (by decide : 0 ≤ 0)) ?_
  show xBody MX5_foldsAt 1 6 [some (.ref 2048), some (.int (zI a)), some (.int (zI b)), none] [] ([r0, r1, zH y1 zL2 0, r3, r4, r5, r6, r7, r8, r9]) _ _
  refine xB.run oX5_foldsAt 2 (s := (8, [some (.ref 2048), some (.int (zI a)), some (.int (zI b)), some (.int (zI 0))], [], [r0, r1, zH y1 zL2 0, r3, r4, r5, r6, r7, r8, r9])) rfl ?_
  obtain ⟨y8, e9, H⟩ := zbd H
  refine l_X5_foldsAt_8 r0 r1 y1 r3 r4 r5 r6 r7 r8 r9 a b _ 0 e9 ?_
  refine xB.run oX5_foldsAt 1 (s := (36, [some (.ref 2048), some (.int (zI a)), some (.int (zI b)), some (.int (zI y8))], [.int (zI y8)], [r0, r1, zH y1 zL2 0, r3, r4, r5, r6, r7, r8, r9])) rfl ?_
  obtain rfl := Option.some.inj H
  exact xB.ret oX5_foldsAt (r1 := some (.int (zI y8))) rfl rfl rfl
def d_X5_greatestWithoutFold_9 (b : Int) : Nat → Int → Int → Int → zZ → Option (Int × Int × Int × zZ)
  | 0, _, _, _, _ => none
  | uN + 1, wo, be, step, s2 => if (zr step) then (if (20 : Int) ≤ step then some (wo, be, step, s2) else (if (zr (be - wo)) then (if (be - wo) ≤ 1 then some (wo, be, step, s2) else (if (0 ≤ (wo + be) ∧ zr (wo + be)) then ((d_X5_foldsBelow s2 ((wo + be) / 2) b).bind fun y3 => if (zr y3.1) then (if y3.1 ≠ 0 then (d_X5_greatestWithoutFold_9 b uN wo ((wo + be) / 2) (step + 1) y3.2) else (d_X5_greatestWithoutFold_9 b uN ((wo + be) / 2) be (step + 1) y3.2)) else none) else none)) else none)) else none
def d_X5_greatestWithoutFold (s2 : zZ) (b : Int) : Option (Int × zZ) := (d_X5_greatestWithoutFold_9 b zF 0 1000 0 s2).bind fun y10 => some (y10.1, y10.2.2.2)
set_option maxRecDepth 20000 in
theorem l_X5_greatestWithoutFold_9 (r0 : List va_E) (r1 : List va_E) (r3 : List va_E) (r4 : List va_E) (r5 : List va_E) (r6 : List va_E) (r7 : List va_E) (r8 : List va_E) (r9 : List va_E) (b : Int) {r : Option Value} {hp1 : xH} : ∀ (uN : Nat) (wo : Int) (be : Int) (step : Int) (s2 : zZ) {uX : Int × Int × Int × zZ}, d_X5_greatestWithoutFold_9 b uN wo be step s2 = some uX → (xBody MX5_greatestWithoutFold 2 55 [some (.ref 2048), some (.int (zI b)), some (.int (zI uX.1)), some (.int (zI uX.2.1)), some (.int (zI uX.2.2.1)), none] [] ([r0, r1, zH uX.2.2.2 zL2 0, r3, r4, r5, r6, r7, r8, r9]) r hp1) → xBody MX5_greatestWithoutFold 2 9 [some (.ref 2048), some (.int (zI b)), some (.int (zI wo)), some (.int (zI be)), some (.int (zI step)), none] [] ([r0, r1, zH s2 zL2 0, r3, r4, r5, r6, r7, r8, r9]) r hp1 := by
  intro uN
  induction uN with
  | zero => intro wo be step s2 uX H K; cases H
  | succ uN ih =>
    intro wo be step s2 uX H K
    unfold d_X5_greatestWithoutFold_9 at H
    refine xB.run oX5_greatestWithoutFold 2 (s := (13, [some (.ref 2048), some (.int (zI b)), some (.int (zI wo)), some (.int (zI be)), some (.int (zI step)), none], [.int (zI 20), .int (zI step)], [r0, r1, zH s2 zL2 0, r3, r4, r5, r6, r7, r8, r9])) rfl ?_
    obtain ⟨g9, H⟩ := zgd H
    have H := zif H
    refine xB.brE oX5_greatestWithoutFold (P := (20 : Int) ≤ step) rfl (zc_ge (a := step) (b := 20) ⟨g9, by decide⟩) (fun h1 => ?_) (fun h1 => ?_)
    · have H := H.1 h1
      obtain rfl := Option.some.inj H
      exact K
    · have H := H.2 h1
      refine xB.run oX5_greatestWithoutFold 2 (s := (18, [some (.ref 2048), some (.int (zI b)), some (.int (zI wo)), some (.int (zI be)), some (.int (zI step)), none], [.int (zI wo), .int (zI be)], [r0, r1, zH s2 zL2 0, r3, r4, r5, r6, r7, r8, r9])) rfl ?_
      refine zB.opi oX5_greatestWithoutFold rfl (zi_sub be wo) ?_
      refine xB.run oX5_greatestWithoutFold 1 (s := (20, [some (.ref 2048), some (.int (zI b)), some (.int (zI wo)), some (.int (zI be)), some (.int (zI step)), none], [.int (zI 1), .int (zI (be - wo))], [r0, r1, zH s2 zL2 0, r3, r4, r5, r6, r7, r8, r9])) rfl ?_
      obtain ⟨g8, H⟩ := zgd H
      have H := zif H
      refine xB.brE oX5_greatestWithoutFold (P := (be - wo) ≤ 1) rfl (zc_le (a := be - wo) (b := 1) ⟨g8, by decide⟩) (fun h2 => ?_) (fun h2 => ?_)
      · have H := H.1 h2
        obtain rfl := Option.some.inj H
        exact K
      · have H := H.2 h2
        refine xB.run oX5_greatestWithoutFold 2 (s := (25, [some (.ref 2048), some (.int (zI b)), some (.int (zI wo)), some (.int (zI be)), some (.int (zI step)), none], [.int (zI be), .int (zI wo)], [r0, r1, zH s2 zL2 0, r3, r4, r5, r6, r7, r8, r9])) rfl ?_
        refine zB.opi oX5_greatestWithoutFold rfl (zi_add wo be) ?_
        refine xB.run oX5_greatestWithoutFold 1 (s := (27, [some (.ref 2048), some (.int (zI b)), some (.int (zI wo)), some (.int (zI be)), some (.int (zI step)), none], [.int (zI 2), .int (zI (wo + be))], [r0, r1, zH s2 zL2 0, r3, r4, r5, r6, r7, r8, r9])) rfl ?_
        obtain ⟨g7, H⟩ := zgd H
        refine zB.divi oX5_greatestWithoutFold (b := 2) rfl (zi_divp g7 (by decide)) rfl (by decide) ?_
        refine xB.run oX5_greatestWithoutFold 4 (s := (34, [some (.ref 2048), some (.int (zI b)), some (.int (zI wo)), some (.int (zI be)), some (.int (zI step)), some (.int (zI ((wo + be) / 2)))], [.int (zI b), .int (zI ((wo + be) / 2)), .ref 2048], [r0, r1, zH s2 zL2 0, r3, r4, r5, r6, r7, r8, r9])) rfl ?_
        obtain ⟨y3, e4, H⟩ := zbd H
        refine xB.call oX5_greatestWithoutFold (M2 := MX5_foldsBelow) rfl rfl ((t_X5_foldsBelow r0 r1 s2 r3 r4 r5 r6 r7 r8 r9 ((wo + be) / 2) b e4).deep (by decide : 1 ≤ 1)) ?_
        show xBody MX5_greatestWithoutFold 2 37 [some (.ref 2048), some (.int (zI b)), some (.int (zI wo)), some (.int (zI be)), some (.int (zI step)), some (.int (zI ((wo + be) / 2)))] [.int (zI y3.1)] ([r0, r1, zH y3.2 zL2 0, r3, r4, r5, r6, r7, r8, r9]) _ _
        obtain ⟨g6, H⟩ := zgd H
        have H := zif H
        refine xB.brE oX5_greatestWithoutFold (P := y3.1 ≠ 0) rfl (zc_ne (a := y3.1) (b := 0) ⟨g6, by decide⟩) (fun h5 => ?_) (fun h5 => ?_)
        · have H := H.1 h5
          refine xB.run oX5_greatestWithoutFold 2 (s := (49, [some (.ref 2048), some (.int (zI b)), some (.int (zI wo)), some (.int (zI ((wo + be) / 2))), some (.int (zI step)), some (.int (zI ((wo + be) / 2)))], [], [r0, r1, zH y3.2 zL2 0, r3, r4, r5, r6, r7, r8, r9])) rfl ?_
          refine zB.inc oX5_greatestWithoutFold rfl (lv2 := [some (.ref 2048), some (.int (zI b)), some (.int (zI wo)), some (.int (zI ((wo + be) / 2))), some (.int (zI (step + 1))), some (.int (zI ((wo + be) / 2)))]) (zi_inc (a := 0) (zi_addp1 step) _ rfl) ?_
          refine xB.run oX5_greatestWithoutFold 1 (s := (9, [some (.ref 2048), some (.int (zI b)), some (.int (zI wo)), some (.int (zI ((wo + be) / 2))), some (.int (zI (step + 1))), some (.int (zI ((wo + be) / 2)))], [], [r0, r1, zH y3.2 zL2 0, r3, r4, r5, r6, r7, r8, r9])) rfl ?_
          refine xB.forget (lv1 := [some (.ref 2048), some (.int (zI b)), some (.int (zI wo)), some (.int (zI ((wo + be) / 2))), some (.int (zI (step + 1))), none]) (xle_same (xle_same (xle_same (xle_same (xle_same (xle_none (xle_nil))))))) ?_
          exact ih wo ((wo + be) / 2) (step + 1) y3.2 H K
        · have H := H.2 h5
          refine xB.run oX5_greatestWithoutFold 3 (s := (49, [some (.ref 2048), some (.int (zI b)), some (.int (zI ((wo + be) / 2))), some (.int (zI be)), some (.int (zI step)), some (.int (zI ((wo + be) / 2)))], [], [r0, r1, zH y3.2 zL2 0, r3, r4, r5, r6, r7, r8, r9])) rfl ?_
          refine zB.inc oX5_greatestWithoutFold rfl (lv2 := [some (.ref 2048), some (.int (zI b)), some (.int (zI ((wo + be) / 2))), some (.int (zI be)), some (.int (zI (step + 1))), some (.int (zI ((wo + be) / 2)))]) (zi_inc (a := 0) (zi_addp1 step) _ rfl) ?_
          refine xB.run oX5_greatestWithoutFold 1 (s := (9, [some (.ref 2048), some (.int (zI b)), some (.int (zI ((wo + be) / 2))), some (.int (zI be)), some (.int (zI (step + 1))), some (.int (zI ((wo + be) / 2)))], [], [r0, r1, zH y3.2 zL2 0, r3, r4, r5, r6, r7, r8, r9])) rfl ?_
          refine xB.forget (lv1 := [some (.ref 2048), some (.int (zI b)), some (.int (zI ((wo + be) / 2))), some (.int (zI be)), some (.int (zI (step + 1))), none]) (xle_same (xle_same (xle_same (xle_same (xle_same (xle_none (xle_nil))))))) ?_
          exact ih ((wo + be) / 2) be (step + 1) y3.2 H K
set_option maxRecDepth 20000 in
theorem t_X5_greatestWithoutFold (r0 : List va_E) (r1 : List va_E) (s2 : zZ) (r3 : List va_E) (r4 : List va_E) (r5 : List va_E) (r6 : List va_E) (r7 : List va_E) (r8 : List va_E) (r9 : List va_E) (b : Int) {rr : Int × zZ} (H : d_X5_greatestWithoutFold s2 b = some rr) : xC MX5_greatestWithoutFold 2 [.ref 2048, .int (zI b)] ([r0, r1, zH s2 zL2 0, r3, r4, r5, r6, r7, r8, r9]) (some (.int (zI rr.1))) ([r0, r1, zH rr.2 zL2 0, r3, r4, r5, r6, r7, r8, r9]) := by
  refine ⟨Nat.le_of_ble_eq_true rfl, ?_⟩
  show xBody MX5_greatestWithoutFold 2 0 [some (.ref 2048), some (.int (zI b)), none, none, none, none] [] ([r0, r1, zH s2 zL2 0, r3, r4, r5, r6, r7, r8, r9]) _ _
  unfold d_X5_greatestWithoutFold at H
  refine xB.run oX5_greatestWithoutFold 6 (s := (9, [some (.ref 2048), some (.int (zI b)), some (.int (zI 0)), some (.int (zI 1000)), some (.int (zI 0)), none], [], [r0, r1, zH s2 zL2 0, r3, r4, r5, r6, r7, r8, r9])) rfl ?_
  obtain ⟨y10, e11, H⟩ := zbd H
  refine l_X5_greatestWithoutFold_9 r0 r1 r3 r4 r5 r6 r7 r8 r9 b _ 0 1000 0 s2 e11 ?_
  refine xB.run oX5_greatestWithoutFold 1 (s := (56, [some (.ref 2048), some (.int (zI b)), some (.int (zI y10.1)), some (.int (zI y10.2.1)), some (.int (zI y10.2.2.1)), none], [.int (zI y10.1)], [r0, r1, zH y10.2.2.2 zL2 0, r3, r4, r5, r6, r7, r8, r9])) rfl ?_
  obtain rfl := Option.some.inj H
  exact xB.ret oX5_greatestWithoutFold (r1 := some (.int (zI y10.1))) rfl rfl rfl
