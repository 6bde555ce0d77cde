/-! 29.zn -/
def d_J9_max_7cf53 (x : Int) (y : Int) : Option (Int) := if (zr x ∧ zr y) then (if x < y then some y else some x) else none
set_option maxRecDepth 20000 in
theorem t_J9_max_7cf53 (r0 : List va_E) (r1 : List va_E) (r2 : List va_E) (r3 : List va_E) (r4 : List va_E) (r5 : List va_E) (r6 : List va_E) (r7 : List va_E) (r8 : List va_E) (r9 : List va_E) (x : Int) (y : Int) {rr : Int} (H : d_J9_max_7cf53 x y = some rr) : xC MJ9_max_7cf53 0 [.int (zI x), .int (zI y)] ([r0, r1, r2, r3, r4, r5, r6, r7, r8, r9]) (some (.int (zI rr))) ([r0, r1, r2, r3, r4, r5, r6, r7, r8, r9]) := by
  refine ⟨Nat.le_of_ble_eq_true rfl, ?_⟩
  show xBody MJ9_max_7cf53 0 0 [some (.int (zI x)), some (.int (zI y))] [] ([r0, r1, r2, r3, r4, r5, r6, r7, r8, r9]) _ _
  unfold d_J9_max_7cf53 at H
  refine xB.run oJ9_max_7cf53 2 (s := (2, [some (.int (zI x)), some (.int (zI y))], [.int (zI y), .int (zI x)], [r0, r1, r2, r3, r4, r5, r6, r7, r8, r9])) rfl ?_
  obtain ⟨g2, H⟩ := zgd H
  have H := zif H
  refine xB.brE oJ9_max_7cf53 (P := x < y) rfl (zc_lt (a := x) (b := y) g2) (fun h1 => ?_) (fun h1 => ?_)
  · have H := H.1 h1
    refine xB.run oJ9_max_7cf53 1 (s := (10, [some (.int (zI x)), some (.int (zI y))], [.int (zI y)], [r0, r1, r2, r3, r4, r5, r6, r7, r8, r9])) rfl ?_
    obtain rfl := Option.some.inj H
    exact xB.ret oJ9_max_7cf53 (r1 := some (.int (zI y))) rfl rfl rfl
  · have H := H.2 h1
    refine xB.run oJ9_max_7cf53 2 (s := (10, [some (.int (zI x)), some (.int (zI y))], [.int (zI x)], [r0, r1, r2, r3, r4, r5, r6, r7, r8, r9])) rfl ?_
    obtain rfl := Option.some.inj H
    exact xB.ret oJ9_max_7cf53 (r1 := some (.int (zI x))) rfl rfl rfl
def d_J9_min_7cf53 (x : Int) (y : Int) : Option (Int) := if (zr x ∧ zr y) then (if y < x then some y else some x) else none
set_option maxRecDepth 20000 in
theorem t_J9_min_7cf53 (r0 : List va_E) (r1 : List va_E) (r2 : List va_E) (r3 : List va_E) (r4 : List va_E) (r5 : List va_E) (r6 : List va_E) (r7 : List va_E) (r8 : List va_E) (r9 : List va_E) (x : Int) (y : Int) {rr : Int} (H : d_J9_min_7cf53 x y = some rr) : xC MJ9_min_7cf53 0 [.int (zI x), .int (zI y)] ([r0, r1, r2, r3, r4, r5, r6, r7, r8, r9]) (some (.int (zI rr))) ([r0, r1, r2, r3, r4, r5, r6, r7, r8, r9]) := by
  refine ⟨Nat.le_of_ble_eq_true rfl, ?_⟩
  show xBody MJ9_min_7cf53 0 0 [some (.int (zI x)), some (.int (zI y))] [] ([r0, r1, r2, r3, r4, r5, r6, r7, r8, r9]) _ _
  unfold d_J9_min_7cf53 at H
  refine xB.run oJ9_min_7cf53 2 (s := (2, [some (.int (zI x)), some (.int (zI y))], [.int (zI y), .int (zI x)], [r0, r1, r2, r3, r4, r5, r6, r7, r8, r9])) rfl ?_
  obtain ⟨g2, H⟩ := zgd H
  have H := zif H
  refine xB.brE oJ9_min_7cf53 (P := y < x) rfl (zc_gt (a := x) (b := y) g2) (fun h1 => ?_) (fun h1 => ?_)
  · have H := H.1 h1
    refine xB.run oJ9_min_7cf53 1 (s := (10, [some (.int (zI x)), some (.int (zI y))], [.int (zI y)], [r0, r1, r2, r3, r4, r5, r6, r7, r8, r9])) rfl ?_
    obtain rfl := Option.some.inj H
    exact xB.ret oJ9_min_7cf53 (r1 := some (.int (zI y))) rfl rfl rfl
  · have H := H.2 h1
    refine xB.run oJ9_min_7cf53 2 (s := (10, [some (.int (zI x)), some (.int (zI y))], [.int (zI x)], [r0, r1, r2, r3, r4, r5, r6, r7, r8, r9])) rfl ?_
    obtain rfl := Option.some.inj H
    exact xB.ret oJ9_min_7cf53 (r1 := some (.int (zI x))) rfl rfl rfl
def d_J9_abs_067f4 (x : Int) : Option (Int) := if (zrl x) then (if (0 : Int) ≤ x then some x else some (-x)) else none
set_option maxRecDepth 20000 in
theorem t_J9_abs_067f4 (r0 : List va_E) (r1 : List va_E) (r2 : List va_E) (r3 : List va_E) (r4 : List va_E) (r5 : List va_E) (r6 : List va_E) (r7 : List va_E) (r8 : List va_E) (r9 : List va_E) (x : Int) {rr : Int} (H : d_J9_abs_067f4 x = some rr) : xC MJ9_abs_067f4 0 [.long (zJ x)] ([r0, r1, r2, r3, r4, r5, r6, r7, r8, r9]) (some (.long (zJ rr))) ([r0, r1, r2, r3, r4, r5, r6, r7, r8, r9]) := by
  refine ⟨Nat.le_of_ble_eq_true rfl, ?_⟩
  show xBody MJ9_abs_067f4 0 0 [some (.long (zJ x)), none] [] ([r0, r1, r2, r3, r4, r5, r6, r7, r8, r9]) _ _
  unfold d_J9_abs_067f4 at H
  refine xB.run oJ9_abs_067f4 3 (s := (3, [some (.long (zJ x)), none], [.int (lg_cmp (zJ x) (zJ 0))], [r0, r1, r2, r3, r4, r5, r6, r7, r8, r9])) rfl ?_
  obtain ⟨g2, H⟩ := zgd H
  have H := zif H
  refine xB.brE oJ9_abs_067f4 (P := (0 : Int) ≤ x) rfl (zl_ge (a := x) (b := 0) ⟨g2, by decide⟩) (fun h1 => ?_) (fun h1 => ?_)
  · have H := H.1 h1
    refine xB.run oJ9_abs_067f4 1 (s := (12, [some (.long (zJ x)), none], [.long (zJ x)], [r0, r1, r2, r3, r4, r5, r6, r7, r8, r9])) rfl ?_
    obtain rfl := Option.some.inj H
    exact xB.ret oJ9_abs_067f4 (r1 := some (.long (zJ x))) rfl rfl rfl
  · have H := H.2 h1
    refine xB.run oJ9_abs_067f4 1 (s := (7, [some (.long (zJ x)), none], [.long (zJ x)], [r0, r1, r2, r3, r4, r5, r6, r7, r8, r9])) rfl ?_
    refine zB.opl oJ9_abs_067f4 rfl (zj_neg x) ?_
    refine xB.run oJ9_abs_067f4 1 (s := (12, [some (.long (zJ x)), none], [.long (zJ (-x))], [r0, r1, r2, r3, r4, r5, r6, r7, r8, r9])) rfl ?_
    obtain rfl := Option.some.inj H
    exact xB.ret oJ9_abs_067f4 (r1 := some (.long (zJ (-x)))) rfl rfl rfl
def d_J13_compare_74951 (x : Int) (y : Int) : Option (Int) := if (zrl x ∧ zrl y) then (if y ≤ x then (if (zrl x ∧ zrl y) then (if x ≠ y then some 1 else some 0) else none) else some (-1)) else none
set_option maxRecDepth 20000 in
theorem t_J13_compare_74951 (r0 : List va_E) (r1 : List va_E) (r2 : List va_E) (r3 : List va_E) (r4 : List va_E) (r5 : List va_E) (r6 : List va_E) (r7 : List va_E) (r8 : List va_E) (r9 : List va_E) (x : Int) (y : Int) {rr : Int} (H : d_J13_compare_74951 x y = some rr) : xC MJ13_compare_74951 0 [.long (zJ x), .long (zJ y)] ([r0, r1, r2, r3, r4, r5, r6, r7, r8, r9]) (some (.int (zI rr))) ([r0, r1, r2, r3, r4, r5, r6, r7, r8, r9]) := by
  refine ⟨Nat.le_of_ble_eq_true rfl, ?_⟩
  show xBody MJ13_compare_74951 0 0 [some (.long (zJ x)), none, some (.long (zJ y)), none] [] ([r0, r1, r2, r3, r4, r5, r6, r7, r8, r9]) _ _
  unfold d_J13_compare_74951 at H
  refine xB.run oJ13_compare_74951 3 (s := (3, [some (.long (zJ x)), none, some (.long (zJ y)), none], [.int (lg_cmp (zJ x) (zJ y))], [r0, r1, r2, r3, r4, r5, r6, r7, r8, r9])) rfl ?_
  obtain ⟨g4, H⟩ := zgd H
  have H := zif H
  refine xB.brE oJ13_compare_74951 (P := y ≤ x) rfl (zl_ge (a := x) (b := y) g4) (fun h1 => ?_) (fun h1 => ?_)
  · have H := H.1 h1
    refine xB.run oJ13_compare_74951 3 (s := (13, [some (.long (zJ x)), none, some (.long (zJ y)), none], [.int (lg_cmp (zJ x) (zJ y))], [r0, r1, r2, r3, r4, r5, r6, r7, r8, r9])) rfl ?_
    obtain ⟨g3, H⟩ := zgd H
    have H := zif H
    refine xB.brE oJ13_compare_74951 (P := x ≠ y) rfl (zl_ne (a := x) (b := y) g3) (fun h2 => ?_) (fun h2 => ?_)
    · have H := H.1 h2
      refine xB.run oJ13_compare_74951 1 (s := (21, [some (.long (zJ x)), none, some (.long (zJ y)), none], [.int (zI 1)], [r0, r1, r2, r3, r4, r5, r6, r7, r8, r9])) rfl ?_
      obtain rfl := Option.some.inj H
      exact xB.ret oJ13_compare_74951 (r1 := some (.int (zI 1))) rfl rfl rfl
    · have H := H.2 h2
      refine xB.run oJ13_compare_74951 2 (s := (21, [some (.long (zJ x)), none, some (.long (zJ y)), none], [.int (zI 0)], [r0, r1, r2, r3, r4, r5, r6, r7, r8, r9])) rfl ?_
      obtain rfl := Option.some.inj H
      exact xB.ret oJ13_compare_74951 (r1 := some (.int (zI 0))) rfl rfl rfl
  · have H := H.2 h1
    refine xB.run oJ13_compare_74951 2 (s := (21, [some (.long (zJ x)), none, some (.long (zJ y)), none], [.int (zI (-1))], [r0, r1, r2, r3, r4, r5, r6, r7, r8, r9])) rfl ?_
    obtain rfl := Option.some.inj H
    exact xB.ret oJ13_compare_74951 (r1 := some (.int (zI (-1)))) rfl rfl rfl
def d_X12_within (v : Int) (lo : Int) (hi : Int) : Option (Int) := if (zrl v ∧ zrl lo) then (if v < lo then some 0 else (if (zrl v ∧ zrl hi) then (if hi < v then some 0 else some 1) else none)) else none
set_option maxRecDepth 20000 in
theorem t_X12_within (r0 : List va_E) (r1 : List va_E) (r2 : List va_E) (r3 : List va_E) (r4 : List va_E) (r5 : List va_E) (r6 : List va_E) (r7 : List va_E) (r8 : List va_E) (r9 : List va_E) (v : Int) (lo : Int) (hi : Int) {rr : Int} (H : d_X12_within v lo hi = some rr) : xC MX12_within 0 [.long (zJ v), .long (zJ lo), .long (zJ hi)] ([r0, r1, r2, r3, r4, r5, r6, r7, r8, r9]) (some (.int (zI rr))) ([r0, r1, r2, r3, r4, r5, r6, r7, r8, r9]) := by
  refine ⟨Nat.le_of_ble_eq_true rfl, ?_⟩
  show xBody MX12_within 0 0 [some (.long (zJ v)), none, some (.long (zJ lo)), none, some (.long (zJ hi)), none] [] ([r0, r1, r2, r3, r4, r5, r6, r7, r8, r9]) _ _
  unfold d_X12_within at H
  refine xB.run oX12_within 3 (s := (3, [some (.long (zJ v)), none, some (.long (zJ lo)), none, some (.long (zJ hi)), none], [.int (lg_cmp (zJ v) (zJ lo))], [r0, r1, r2, r3, r4, r5, r6, r7, r8, r9])) rfl ?_
  obtain ⟨g4, H⟩ := zgd H
  have H := zif H
  refine xB.brE oX12_within (P := v < lo) rfl (zl_lt (a := v) (b := lo) g4) (fun h1 => ?_) (fun h1 => ?_)
  · have H := H.1 h1
    refine xB.run oX12_within 1 (s := (18, [some (.long (zJ v)), none, some (.long (zJ lo)), none, some (.long (zJ hi)), none], [.int (zI 0)], [r0, r1, r2, r3, r4, r5, r6, r7, r8, r9])) rfl ?_
    obtain rfl := Option.some.inj H
    exact xB.ret oX12_within (r1 := some (.int (zI 0))) rfl rfl rfl
  · have H := H.2 h1
    refine xB.run oX12_within 3 (s := (10, [some (.long (zJ v)), none, some (.long (zJ lo)), none, some (.long (zJ hi)), none], [.int (lg_cmp (zJ v) (zJ hi))], [r0, r1, r2, r3, r4, r5, r6, r7, r8, r9])) rfl ?_
    obtain ⟨g3, H⟩ := zgd H
    have H := zif H
    refine xB.brE oX12_within (P := hi < v) rfl (zl_gt (a := v) (b := hi) g3) (fun h2 => ?_) (fun h2 => ?_)
    · have H := H.1 h2
      refine xB.run oX12_within 1 (s := (18, [some (.long (zJ v)), none, some (.long (zJ lo)), none, some (.long (zJ hi)), none], [.int (zI 0)], [r0, r1, r2, r3, r4, r5, r6, r7, r8, r9])) rfl ?_
      obtain rfl := Option.some.inj H
      exact xB.ret oX12_within (r1 := some (.int (zI 0))) rfl rfl rfl
    · have H := H.2 h2
      refine xB.run oX12_within 2 (s := (18, [some (.long (zJ v)), none, some (.long (zJ lo)), none, some (.long (zJ hi)), none], [.int (zI 1)], [r0, r1, r2, r3, r4, r5, r6, r7, r8, r9])) rfl ?_
      obtain rfl := Option.some.inj H
      exact xB.ret oX12_within (r1 := some (.int (zI 1))) rfl rfl rfl
def d_X12_size (v : Int) : Option (Int) := if (zrl v) then (if (0 : Int) ≤ v then some v else some (-v)) else none
set_option maxRecDepth 20000 in
theorem t_X12_size (r0 : List va_E) (r1 : List va_E) (r2 : List va_E) (r3 : List va_E) (r4 : List va_E) (r5 : List va_E) (r6 : List va_E) (r7 : List va_E) (r8 : List va_E) (r9 : List va_E) (v : Int) {rr : Int} (H : d_X12_size v = some rr) : xC MX12_size 0 [.long (zJ v)] ([r0, r1, r2, r3, r4, r5, r6, r7, r8, r9]) (some (.long (zJ rr))) ([r0, r1, r2, r3, r4, r5, r6, r7, r8, r9]) := by
  refine ⟨Nat.le_of_ble_eq_true rfl, ?_⟩
  show xBody MX12_size 0 0 [some (.long (zJ v)), none] [] ([r0, r1, r2, r3, r4, r5, r6, r7, r8, r9]) _ _
  unfold d_X12_size at H
  refine xB.run oX12_size 3 (s := (3, [some (.long (zJ v)), none], [.int (lg_cmp (zJ v) (zJ 0))], [r0, r1, r2, r3, r4, r5, r6, r7, r8, r9])) rfl ?_
  obtain ⟨g2, H⟩ := zgd H
  have H := zif H
  refine xB.brE oX12_size (P := (0 : Int) ≤ v) rfl (zl_ge (a := v) (b := 0) ⟨g2, by decide⟩) (fun h1 => ?_) (fun h1 => ?_)
  · have H := H.1 h1
    refine xB.run oX12_size 1 (s := (12, [some (.long (zJ v)), none], [.long (zJ v)], [r0, r1, r2, r3, r4, r5, r6, r7, r8, r9])) rfl ?_
    obtain rfl := Option.some.inj H
    exact xB.ret oX12_size (r1 := some (.long (zJ v))) rfl rfl rfl
  · have H := H.2 h1
    refine xB.run oX12_size 1 (s := (7, [some (.long (zJ v)), none], [.long (zJ v)], [r0, r1, r2, r3, r4, r5, r6, r7, r8, r9])) rfl ?_
    refine zB.opl oX12_size rfl (zj_neg v) ?_
    refine xB.run oX12_size 1 (s := (12, [some (.long (zJ v)), none], [.long (zJ (-v))], [r0, r1, r2, r3, r4, r5, r6, r7, r8, r9])) rfl ?_
    obtain rfl := Option.some.inj H
    exact xB.ret oX12_size (r1 := some (.long (zJ (-v)))) rfl rfl rfl
def d_X12_common_12 (a : Int) (b : Int) : Nat → Int → Int → Option (Int × Int)
  | 0, _, _ => none
  | uN + 1, x, y => if (zrl y) then (if y = 0 then some (x, y) else (if (zrl x ∧ y ≠ 0 ∧ zrl y) then (d_X12_common_12 a b uN y (x.tmod y)) else none)) else none
def d_X12_common (a : Int) (b : Int) : Option (Int) := (d_X12_size a).bind fun y1 => (d_X12_size b).bind fun y3 => (d_X12_common_12 a b zF y1 y3).bind fun y8 => some y8.1
set_option maxRecDepth 20000 in
theorem l_X12_common_12 (r0 : List va_E) (r1 : List va_E) (r2 : List va_E) (r3 : List va_E) (r4 : List va_E) (r5 : List va_E) (r6 : List va_E) (r7 : List va_E) (r8 : List va_E) (r9 : List va_E) (a : Int) (b : Int) {r : Option Value} {hp1 : xH} : ∀ (uN : Nat) (x : Int) (y : Int) {uX : Int × Int}, d_X12_common_12 a b uN x y = some uX → (xBody MX12_common 1 37 [some (.long (zJ a)), none, some (.long (zJ b)), none, some (.long (zJ uX.1)), none, some (.long (zJ uX.2)), none, none, none] [] ([r0, r1, r2, r3, r4, r5, r6, r7, r8, r9]) r hp1) → xBody MX12_common 1 12 [some (.long (zJ a)), none, some (.long (zJ b)), none, some (.long (zJ x)), none, some (.long (zJ y)), none, none, none] [] ([r0, r1, r2, r3, r4, r5, r6, r7, r8, r9]) r hp1 := by
  intro uN
  induction uN with
  | zero => intro x y uX H K; cases H
  | succ uN ih =>
    intro x y uX H K
    unfold d_X12_common_12 at H
    refine xB.run oX12_common 3 (s := (16, [some (.long (zJ a)), none, some (.long (zJ b)), none, some (.long (zJ x)), none, some (.long (zJ y)), none, none, none], [.int (lg_cmp (zJ y) (zJ 0))], [r0, r1, r2, r3, r4, r5, r6, r7, r8, r9])) rfl ?_
    obtain ⟨g7, H⟩ := zgd H
    have H := zif H
    refine xB.brE oX12_common (P := y = 0) rfl (zl_eq (a := y) (b := 0) ⟨g7, by decide⟩) (fun h5 => ?_) (fun h5 => ?_)
    · have H := H.1 h5
      obtain rfl := Option.some.inj H
      exact K
    · have H := H.2 h5
      refine xB.run oX12_common 2 (s := (23, [some (.long (zJ a)), none, some (.long (zJ b)), none, some (.long (zJ x)), none, some (.long (zJ y)), none, none, none], [.long (zJ y), .long (zJ x)], [r0, r1, r2, r3, r4, r5, r6, r7, r8, r9])) rfl ?_
      obtain ⟨g6, H⟩ := zgd H
      refine zB.divl oX12_common (b := y) rfl (zj_rem ⟨g6.1, g6.2.2⟩) rfl g6.2 ?_
      refine xB.run oX12_common 6 (s := (12, [some (.long (zJ a)), none, some (.long (zJ b)), none, some (.long (zJ y)), none, some (.long (zJ (x.tmod y))), none, some (.long (zJ (x.tmod y))), none], [], [r0, r1, r2, r3, r4, r5, r6, r7, r8, r9])) rfl ?_
      refine xB.forget (lv1 := [some (.long (zJ a)), none, some (.long (zJ b)), none, some (.long (zJ y)), none, some (.long (zJ (x.tmod y))), none, none, none]) (xle_same (xle_same (xle_same (xle_same (xle_same (xle_same (xle_same (xle_same (xle_none (xle_same (xle_nil))))))))))) ?_
      exact ih y (x.tmod y) H K
set_option maxRecDepth 20000 in
theorem t_X12_common (r0 : List va_E) (r1 : List va_E) (r2 : List va_E) (r3 : List va_E) (r4 : List va_E) (r5 : List va_E) (r6 : List va_E) (r7 : List va_E) (r8 : List va_E) (r9 : List va_E) (a : Int) (b : Int) {rr : Int} (H : d_X12_common a b = some rr) : xC MX12_common 1 [.long (zJ a), .long (zJ b)] ([r0, r1, r2, r3, r4, r5, r6, r7, r8, r9]) (some (.long (zJ rr))) ([r0, r1, r2, r3, r4, r5, r6, r7, r8, r9]) := by
  refine ⟨Nat.le_of_ble_eq_true rfl, ?_⟩
  show xBody MX12_common 1 0 [some (.long (zJ a)), none, some (.long (zJ b)), none, none, none, none, none, none, none] [] ([r0, r1, r2, r3, r4, r5, r6, r7, r8, r9]) _ _
  unfold d_X12_common at H
  refine xB.run oX12_common 1 (s := (1, [some (.long (zJ a)), none, some (.long (zJ b)), none, none, none, none, none, none, none], [.long (zJ a)], [r0, r1, r2, r3, r4, r5, r6, r7, r8, r9])) rfl ?_
  obtain ⟨y1, e2, H⟩ := zbd H
  refine xB.call oX12_common (M2 := MX12_size) rfl rfl ((t_X12_size r0 r1 r2 r3 r4 r5 r6 r7 r8 r9 a e2).deep (by decide : 0 ≤ 0)) ?_
  show xBody MX12_common 1 4 [some (.long (zJ a)), none, some (.long (zJ b)), none, none, none, none, none, none, none] [.long (zJ y1)] ([r0, r1, r2, r3, r4, r5, r6, r7, r8, r9]) _ _
  refine xB.run oX12_common 2 (s := (7, [some (.long (zJ a)), none, some (.long (zJ b)), none, some (.long (zJ y1)), none, none, none, none, none], [.long (zJ b)], [r0, r1, r2, r3, r4, r5, r6, r7, r8, r9])) rfl ?_
  obtain ⟨y3, e4, H⟩ := zbd H
  refine xB.call oX12_common (M2 := MX12_size) rfl rfl ((t_X12_size r0 r1 r2 r3 r4 r5 r6 r7 r8 r9 b e4).deep (by decide : 0 ≤ 0)) ?_
  show xBody MX12_common 1 10 [some (.long (zJ a)), none, some (.long (zJ b)), none, some (.long (zJ y1)), none, none, none, none, none] [.long (zJ y3)] ([r0, r1, r2, r3, r4, r5, r6, r7, r8, r9]) _ _
  refine xB.run oX12_common 1 (s := (12, [some (.long (zJ a)), none, some (.long (zJ b)), none, some (.long (zJ y1)), none, some (.long (zJ y3)), none, none, none], [], [r0, r1, r2, r3, r4, r5, r6, r7, r8, r9])) rfl ?_
  obtain ⟨y8, e9, H⟩ := zbd H
  refine l_X12_common_12 r0 r1 r2 r3 r4 r5 r6 r7 r8 r9 a b _ y1 y3 e9 ?_
  refine xB.run oX12_common 1 (s := (39, [some (.long (zJ a)), none, some (.long (zJ b)), none, some (.long (zJ y8.1)), none, some (.long (zJ y8.2)), none, none, none], [.long (zJ y8.1)], [r0, r1, r2, r3, r4, r5, r6, r7, r8, r9])) rfl ?_
  obtain rfl := Option.some.inj H
  exact xB.ret oX12_common (r1 := some (.long (zJ y8.1))) rfl rfl rfl
def d_X12_part (up : Int) (dn : Int) (wh : Int) : Option (Int) := (d_X12_common up dn).bind fun y1 => if (zrl dn) then (if (0 : Int) ≤ dn then (if (zr wh) then (if wh ≠ 0 then (if (zrl dn ∧ y1 ≠ 0 ∧ zrl y1) then some (dn.tdiv y1) else none) else (if (zrl up ∧ y1 ≠ 0 ∧ zrl y1) then some (up.tdiv y1) else none)) else none) else (if (zr wh) then (if wh ≠ 0 then (if (zrl dn ∧ (-y1) ≠ 0 ∧ zrl (-y1)) then some (dn.tdiv (-y1)) else none) else (if (zrl up ∧ (-y1) ≠ 0 ∧ zrl (-y1)) then some (up.tdiv (-y1)) else none)) else none)) else none
set_option maxRecDepth 20000 in
theorem t_X12_part (r0 : List va_E) (r1 : List va_E) (r2 : List va_E) (r3 : List va_E) (r4 : List va_E) (r5 : List va_E) (r6 : List va_E) (r7 : List va_E) (r8 : List va_E) (r9 : List va_E) (up : Int) (dn : Int) (wh : Int) {rr : Int} (H : d_X12_part up dn wh = some rr) : xC MX12_part 2 [.long (zJ up), .long (zJ dn), .int (zI wh)] ([r0, r1, r2, r3, r4, r5, r6, r7, r8, r9]) (some (.long (zJ rr))) ([r0, r1, r2, r3, r4, r5, r6, r7, r8, r9]) := by
  refine ⟨Nat.le_of_ble_eq_true rfl, ?_⟩
  show xBody MX12_part 2 0 [some (.long (zJ up)), none, some (.long (zJ dn)), none, some (.int (zI wh)), none, none] [] ([r0, r1, r2, r3, r4, r5, r6, r7, r8, r9]) _ _
  unfold d_X12_part at H
  refine xB.run oX12_part 2 (s := (2, [some (.long (zJ up)), none, some (.long (zJ dn)), none, some (.int (zI wh)), none, none], [.long (zJ dn), .long (zJ up)], [r0, r1, r2, r3, r4, r5, r6, r7, r8, r9])) rfl ?_
  obtain ⟨y1, e2, H⟩ := zbd H
  refine xB.call oX12_part (M2 := MX12_common) rfl rfl ((t_X12_common r0 r1 r2 r3 r4 r5 r6 r7 r8 r9 up dn e2).deep (by decide : 1 ≤ 1)) ?_
  show xBody MX12_part 2 5 [some (.long (zJ up)), none, some (.long (zJ dn)), none, some (.int (zI wh)), none, none] [.long (zJ y1)] ([r0, r1, r2, r3, r4, r5, r6, r7, r8, r9]) _ _
  refine xB.run oX12_part 4 (s := (10, [some (.long (zJ up)), none, some (.long (zJ dn)), none, some (.int (zI wh)), some (.long (zJ y1)), none], [.int (lg_cmp (zJ dn) (zJ 0))], [r0, r1, r2, r3, r4, r5, r6, r7, r8, r9])) rfl ?_
  obtain ⟨g12, H⟩ := zgd H
  have H := zif H
  refine xB.brE oX12_part (P := (0 : Int) ≤ dn) rfl (zl_ge (a := dn) (b := 0) ⟨g12, by decide⟩) (fun h3 => ?_) (fun h3 => ?_)
  · have H := H.1 h3
    refine xB.run oX12_part 3 (s := (25, [some (.long (zJ up)), none, some (.long (zJ dn)), none, some (.int (zI wh)), some (.long (zJ y1)), none], [.int (zI wh)], [r0, r1, r2, r3, r4, r5, r6, r7, r8, r9])) rfl ?_
    obtain ⟨g7, H⟩ := zgd H
    have H := zif H
    refine xB.brE oX12_part (P := wh ≠ 0) rfl (zc_ne (a := wh) (b := 0) ⟨g7, by decide⟩) (fun h4 => ?_) (fun h4 => ?_)
    · have H := H.1 h4
      refine xB.run oX12_part 2 (s := (38, [some (.long (zJ up)), none, some (.long (zJ dn)), none, some (.int (zI wh)), some (.long (zJ y1)), none], [.long (zJ y1), .long (zJ dn)], [r0, r1, r2, r3, r4, r5, r6, r7, r8, r9])) rfl ?_
      obtain ⟨g5, H⟩ := zgd H
      refine zB.divl oX12_part (b := y1) rfl (zj_div ⟨g5.1, g5.2.2⟩) rfl g5.2 ?_
      obtain rfl := Option.some.inj H
      exact xB.ret oX12_part (r1 := some (.long (zJ (dn.tdiv y1)))) rfl rfl rfl
    · have H := H.2 h4
      refine xB.run oX12_part 2 (s := (31, [some (.long (zJ up)), none, some (.long (zJ dn)), none, some (.int (zI wh)), some (.long (zJ y1)), none], [.long (zJ y1), .long (zJ up)], [r0, r1, r2, r3, r4, r5, r6, r7, r8, r9])) rfl ?_
      obtain ⟨g6, H⟩ := zgd H
      refine zB.divl oX12_part (b := y1) rfl (zj_div ⟨g6.1, g6.2.2⟩) rfl g6.2 ?_
      refine xB.run oX12_part 1 (s := (39, [some (.long (zJ up)), none, some (.long (zJ dn)), none, some (.int (zI wh)), some (.long (zJ y1)), none], [.long (zJ (up.tdiv y1))], [r0, r1, r2, r3, r4, r5, r6, r7, r8, r9])) rfl ?_
      obtain rfl := Option.some.inj H
      exact xB.ret oX12_part (r1 := some (.long (zJ (up.tdiv y1)))) rfl rfl rfl
  · have H := H.2 h3
    refine xB.run oX12_part 1 (s := (15, [some (.long (zJ up)), none, some (.long (zJ dn)), none, some (.int (zI wh)), some (.long (zJ y1)), none], [.long (zJ y1)], [r0, r1, r2, r3, r4, r5, r6, r7, r8, r9])) rfl ?_
    refine zB.opl oX12_part rfl (zj_neg y1) ?_
    refine xB.run oX12_part 3 (s := (25, [some (.long (zJ up)), none, some (.long (zJ dn)), none, some (.int (zI wh)), some (.long (zJ (-y1))), none], [.int (zI wh)], [r0, r1, r2, r3, r4, r5, r6, r7, r8, r9])) rfl ?_
    obtain ⟨g11, H⟩ := zgd H
    have H := zif H
    refine xB.brE oX12_part (P := wh ≠ 0) rfl (zc_ne (a := wh) (b := 0) ⟨g11, by decide⟩) (fun h8 => ?_) (fun h8 => ?_)
    · have H := H.1 h8
      refine xB.run oX12_part 2 (s := (38, [some (.long (zJ up)), none, some (.long (zJ dn)), none, some (.int (zI wh)), some (.long (zJ (-y1))), none], [.long (zJ (-y1)), .long (zJ dn)], [r0, r1, r2, r3, r4, r5, r6, r7, r8, r9])) rfl ?_
      obtain ⟨g9, H⟩ := zgd H
      refine zB.divl oX12_part (b := -y1) rfl (zj_div ⟨g9.1, g9.2.2⟩) rfl g9.2 ?_
      obtain rfl := Option.some.inj H
      exact xB.ret oX12_part (r1 := some (.long (zJ (dn.tdiv (-y1))))) rfl rfl rfl
    · have H := H.2 h8
      refine xB.run oX12_part 2 (s := (31, [some (.long (zJ up)), none, some (.long (zJ dn)), none, some (.int (zI wh)), some (.long (zJ (-y1))), none], [.long (zJ (-y1)), .long (zJ up)], [r0, r1, r2, r3, r4, r5, r6, r7, r8, r9])) rfl ?_
      obtain ⟨g10, H⟩ := zgd H
      refine zB.divl oX12_part (b := -y1) rfl (zj_div ⟨g10.1, g10.2.2⟩) rfl g10.2 ?_
      refine xB.run oX12_part 1 (s := (39, [some (.long (zJ up)), none, some (.long (zJ dn)), none, some (.int (zI wh)), some (.long (zJ (-y1))), none], [.long (zJ (up.tdiv (-y1)))], [r0, r1, r2, r3, r4, r5, r6, r7, r8, r9])) rfl ?_
      obtain rfl := Option.some.inj H
      exact xB.ret oX12_part (r1 := some (.long (zJ (up.tdiv (-y1))))) rfl rfl rfl
def d_X12_isSheet (k : Int) : Option (Int) := if zr k then ((d_X12_within k 0 3).bind fun y1 => if (y1 = 0 ∨ y1 = 1) then some y1 else none) else none
set_option maxRecDepth 20000 in
theorem t_X12_isSheet (r0 : List va_E) (r1 : List va_E) (r2 : List va_E) (r3 : List va_E) (r4 : List va_E) (r5 : List va_E) (r6 : List va_E) (r7 : List va_E) (r8 : List va_E) (r9 : List va_E) (k : Int) {rr : Int} (H : d_X12_isSheet k = some rr) : xC MX12_isSheet 1 [.int (zI k)] ([r0, r1, r2, r3, r4, r5, r6, r7, r8, r9]) (some (.int (zI rr))) ([r0, r1, r2, r3, r4, r5, r6, r7, r8, r9]) := by
  refine ⟨Nat.le_of_ble_eq_true rfl, ?_⟩
  show xBody MX12_isSheet 1 0 [some (.int (zI k))] [] ([r0, r1, r2, r3, r4, r5, r6, r7, r8, r9]) _ _
  unfold d_X12_isSheet at H
  refine xB.run oX12_isSheet 1 (s := (1, [some (.int (zI k))], [.int (zI k)], [r0, r1, r2, r3, r4, r5, r6, r7, r8, r9])) rfl ?_
  obtain ⟨g4, H⟩ := zgd H
  refine zB.opl oX12_isSheet rfl (zi_i2l g4) ?_
  refine xB.run oX12_isSheet 2 (s := (6, [some (.int (zI k))], [.long (zJ 3), .long (zJ 0), .long (zJ k)], [r0, r1, r2, r3, r4, r5, r6, r7, r8, r9])) rfl ?_
  obtain ⟨y1, e2, H⟩ := zbd H
  refine xB.call oX12_isSheet (M2 := MX12_within) rfl rfl ((t_X12_within r0 r1 r2 r3 r4 r5 r6 r7 r8 r9 k 0 3 e2).deep (by decide : 0 ≤ 0)) ?_
  show xBody MX12_isSheet 1 9 [some (.int (zI k))] [.int (zI y1)] ([r0, r1, r2, r3, r4, r5, r6, r7, r8, r9]) _ _
  obtain ⟨g3, H⟩ := zgd H
  obtain rfl := Option.some.inj H
  exact zB.retb oX12_isSheet rfl g3
def d_X12_isLane (k : Int) : Option (Int) := if zr k then ((d_X12_within k 0 2).bind fun y1 => if (y1 = 0 ∨ y1 = 1) then some y1 else none) else none
set_option maxRecDepth 20000 in
theorem t_X12_isLane (r0 : List va_E) (r1 : List va_E) (r2 : List va_E) (r3 : List va_E) (r4 : List va_E) (r5 : List va_E) (r6 : List va_E) (r7 : List va_E) (r8 : List va_E) (r9 : List va_E) (k : Int) {rr : Int} (H : d_X12_isLane k = some rr) : xC MX12_isLane 1 [.int (zI k)] ([r0, r1, r2, r3, r4, r5, r6, r7, r8, r9]) (some (.int (zI rr))) ([r0, r1, r2, r3, r4, r5, r6, r7, r8, r9]) := by
  refine ⟨Nat.le_of_ble_eq_true rfl, ?_⟩
  show xBody MX12_isLane 1 0 [some (.int (zI k))] [] ([r0, r1, r2, r3, r4, r5, r6, r7, r8, r9]) _ _
  unfold d_X12_isLane at H
  refine xB.run oX12_isLane 1 (s := (1, [some (.int (zI k))], [.int (zI k)], [r0, r1, r2, r3, r4, r5, r6, r7, r8, r9])) rfl ?_
  obtain ⟨g4, H⟩ := zgd H
  refine zB.opl oX12_isLane rfl (zi_i2l g4) ?_
  refine xB.run oX12_isLane 2 (s := (6, [some (.int (zI k))], [.long (zJ 2), .long (zJ 0), .long (zJ k)], [r0, r1, r2, r3, r4, r5, r6, r7, r8, r9])) rfl ?_
  obtain ⟨y1, e2, H⟩ := zbd H
  refine xB.call oX12_isLane (M2 := MX12_within) rfl rfl ((t_X12_within r0 r1 r2 r3 r4 r5 r6 r7 r8 r9 k 0 2 e2).deep (by decide : 0 ≤ 0)) ?_
  show xBody MX12_isLane 1 9 [some (.int (zI k))] [.int (zI y1)] ([r0, r1, r2, r3, r4, r5, r6, r7, r8, r9]) _ _
  obtain ⟨g3, H⟩ := zgd H
  obtain rfl := Option.some.inj H
  exact zB.retb oX12_isLane rfl g3
def d_X12_isShare (a : Int) (b : Int) : Option (Int) := if zr a then ((d_X12_within a 0 999).bind fun y1 => if (zr y1) then (if y1 = 0 then some 0 else (if zr b then ((d_X12_within b 1 99).bind fun y4 => if (zr y4) then (if y4 = 0 then some 0 else some 1) else none) else none)) else none) else none
set_option maxRecDepth 20000 in
theorem t_X12_isShare (r0 : List va_E) (r1 : List va_E) (r2 : List va_E) (r3 : List va_E) (r4 : List va_E) (r5 : List va_E) (r6 : List va_E) (r7 : List va_E) (r8 : List va_E) (r9 : List va_E) (a : Int) (b : Int) {rr : Int} (H : d_X12_isShare a b = some rr) : xC MX12_isShare 1 [.int (zI a), .int (zI b)] ([r0, r1, r2, r3, r4, r5, r6, r7, r8, r9]) (some (.int (zI rr))) ([r0, r1, r2, r3, r4, r5, r6, r7, r8, r9]) := by
  refine ⟨Nat.le_of_ble_eq_true rfl, ?_⟩
  show xBody MX12_isShare 1 0 [some (.int (zI a)), some (.int (zI b))] [] ([r0, r1, r2, r3, r4, r5, r6, r7, r8, r9]) _ _
  unfold d_X12_isShare at H
  refine xB.run oX12_isShare 1 (s := (1, [some (.int (zI a)), some (.int (zI b))], [.int (zI a)], [r0, r1, r2, r3, r4, r5, r6, r7, r8, r9])) rfl ?_
  obtain ⟨g10, H⟩ := zgd H
  refine zB.opl oX12_isShare rfl (zi_i2l g10) ?_
  refine xB.run oX12_isShare 2 (s := (6, [some (.int (zI a)), some (.int (zI b))], [.long (zJ 999), .long (zJ 0), .long (zJ a)], [r0, r1, r2, r3, r4, r5, r6, r7, r8, r9])) rfl ?_
  obtain ⟨y1, e2, H⟩ := zbd H
  refine xB.call oX12_isShare (M2 := MX12_within) rfl rfl ((t_X12_within r0 r1 r2 r3 r4 r5 r6 r7 r8 r9 a 0 999 e2).deep (by decide : 0 ≤ 0)) ?_
  show xBody MX12_isShare 1 9 [some (.int (zI a)), some (.int (zI b))] [.int (zI y1)] ([r0, r1, r2, r3, r4, r5, r6, r7, r8, r9]) _ _
  obtain ⟨g9, H⟩ := zgd H
  have H := zif H
  refine xB.brE oX12_isShare (P := y1 = 0) rfl (zc_eq (a := y1) (b := 0) ⟨g9, by decide⟩) (fun h3 => ?_) (fun h3 => ?_)
  · have H := H.1 h3
    refine xB.run oX12_isShare 1 (s := (29, [some (.int (zI a)), some (.int (zI b))], [.int (zI 0)], [r0, r1, r2, r3, r4, r5, r6, r7, r8, r9])) rfl ?_
    obtain rfl := Option.some.inj H
    exact xB.ret oX12_isShare (r1 := some (.int (zI 0))) rfl rfl rfl
  · have H := H.2 h3
    refine xB.run oX12_isShare 1 (s := (13, [some (.int (zI a)), some (.int (zI b))], [.int (zI b)], [r0, r1, r2, r3, r4, r5, r6, r7, r8, r9])) rfl ?_
    obtain ⟨g8, H⟩ := zgd H
    refine zB.opl oX12_isShare rfl (zi_i2l g8) ?_
    refine xB.run oX12_isShare 2 (s := (18, [some (.int (zI a)), some (.int (zI b))], [.long (zJ 99), .long (zJ 1), .long (zJ b)], [r0, r1, r2, r3, r4, r5, r6, r7, r8, r9])) rfl ?_
    obtain ⟨y4, e5, H⟩ := zbd H
    refine xB.call oX12_isShare (M2 := MX12_within) rfl rfl ((t_X12_within r0 r1 r2 r3 r4 r5 r6 r7 r8 r9 b 1 99 e5).deep (by decide : 0 ≤ 0)) ?_
    show xBody MX12_isShare 1 21 [some (.int (zI a)), some (.int (zI b))] [.int (zI y4)] ([r0, r1, r2, r3, r4, r5, r6, r7, r8, r9]) _ _
    obtain ⟨g7, H⟩ := zgd H
    have H := zif H
    refine xB.brE oX12_isShare (P := y4 = 0) rfl (zc_eq (a := y4) (b := 0) ⟨g7, by decide⟩) (fun h6 => ?_) (fun h6 => ?_)
    · have H := H.1 h6
      refine xB.run oX12_isShare 1 (s := (29, [some (.int (zI a)), some (.int (zI b))], [.int (zI 0)], [r0, r1, r2, r3, r4, r5, r6, r7, r8, r9])) rfl ?_
      obtain rfl := Option.some.inj H
      exact xB.ret oX12_isShare (r1 := some (.int (zI 0))) rfl rfl rfl
    · have H := H.2 h6
      refine xB.run oX12_isShare 2 (s := (29, [some (.int (zI a)), some (.int (zI b))], [.int (zI 1)], [r0, r1, r2, r3, r4, r5, r6, r7, r8, r9])) rfl ?_
      obtain rfl := Option.some.inj H
      exact xB.ret oX12_isShare (r1 := some (.int (zI 1))) rfl rfl rfl
def d_X12_isCase (c : Int) : Option (Int) := if zr c then ((d_X12_within c 0 5).bind fun y1 => if (y1 = 0 ∨ y1 = 1) then some y1 else none) else none
set_option maxRecDepth 20000 in
theorem t_X12_isCase (r0 : List va_E) (r1 : List va_E) (r2 : List va_E) (r3 : List va_E) (r4 : List va_E) (r5 : List va_E) (r6 : List va_E) (r7 : List va_E) (r8 : List va_E) (r9 : List va_E) (c : Int) {rr : Int} (H : d_X12_isCase c = some rr) : xC MX12_isCase 1 [.int (zI c)] ([r0, r1, r2, r3, r4, r5, r6, r7, r8, r9]) (some (.int (zI rr))) ([r0, r1, r2, r3, r4, r5, r6, r7, r8, r9]) := by
  refine ⟨Nat.le_of_ble_eq_true rfl, ?_⟩
  show xBody MX12_isCase 1 0 [some (.int (zI c))] [] ([r0, r1, r2, r3, r4, r5, r6, r7, r8, r9]) _ _
  unfold d_X12_isCase at H
  refine xB.run oX12_isCase 1 (s := (1, [some (.int (zI c))], [.int (zI c)], [r0, r1, r2, r3, r4, r5, r6, r7, r8, r9])) rfl ?_
  obtain ⟨g4, H⟩ := zgd H
  refine zB.opl oX12_isCase rfl (zi_i2l g4) ?_
  refine xB.run oX12_isCase 2 (s := (6, [some (.int (zI c))], [.long (zJ 5), .long (zJ 0), .long (zJ c)], [r0, r1, r2, r3, r4, r5, r6, r7, r8, r9])) rfl ?_
  obtain ⟨y1, e2, H⟩ := zbd H
  refine xB.call oX12_isCase (M2 := MX12_within) rfl rfl ((t_X12_within r0 r1 r2 r3 r4 r5 r6 r7 r8 r9 c 0 5 e2).deep (by decide : 0 ≤ 0)) ?_
  show xBody MX12_isCase 1 9 [some (.int (zI c))] [.int (zI y1)] ([r0, r1, r2, r3, r4, r5, r6, r7, r8, r9]) _ _
  obtain ⟨g3, H⟩ := zgd H
  obtain rfl := Option.some.inj H
  exact zB.retb oX12_isCase rfl g3
def d_X12_bend (j : Int) (y : Int) : Option (Int) := if (zr y ∧ zr j) then (if y ≠ j then (if (zr y ∧ zr (j - 1)) then (if y = (j - 1) then some 1 else (if (zr y ∧ zr (j + 1)) then (if y ≠ (j + 1) then some 0 else some 1) else none)) else none) else some (-2)) else none
set_option maxRecDepth 20000 in
theorem t_X12_bend (r0 : List va_E) (r1 : List va_E) (r2 : List va_E) (r3 : List va_E) (r4 : List va_E) (r5 : List va_E) (r6 : List va_E) (r7 : List va_E) (r8 : List va_E) (r9 : List va_E) (j : Int) (y : Int) {rr : Int} (H : d_X12_bend j y = some rr) : xC MX12_bend 0 [.int (zI j), .int (zI y)] ([r0, r1, r2, r3, r4, r5, r6, r7, r8, r9]) (some (.long (zJ rr))) ([r0, r1, r2, r3, r4, r5, r6, r7, r8, r9]) := by
  refine ⟨Nat.le_of_ble_eq_true rfl, ?_⟩
  show xBody MX12_bend 0 0 [some (.int (zI j)), some (.int (zI y))] [] ([r0, r1, r2, r3, r4, r5, r6, r7, r8, r9]) _ _
  unfold d_X12_bend at H
  refine xB.run oX12_bend 2 (s := (2, [some (.int (zI j)), some (.int (zI y))], [.int (zI j), .int (zI y)], [r0, r1, r2, r3, r4, r5, r6, r7, r8, r9])) rfl ?_
  obtain ⟨g6, H⟩ := zgd H
  have H := zif H
  refine xB.brE oX12_bend (P := y ≠ j) rfl (zc_ne (a := y) (b := j) g6) (fun h1 => ?_) (fun h1 => ?_)
  · have H := H.1 h1
    refine xB.run oX12_bend 3 (s := (14, [some (.int (zI j)), some (.int (zI y))], [.int (zI 1), .int (zI j), .int (zI y)], [r0, r1, r2, r3, r4, r5, r6, r7, r8, r9])) rfl ?_
    refine zB.opi oX12_bend rfl (zi_sub j 1) ?_
    obtain ⟨g5, H⟩ := zgd H
    have H := zif H
    refine xB.brE oX12_bend (P := y = (j - 1)) rfl (zc_eq (a := y) (b := j - 1) g5) (fun h2 => ?_) (fun h2 => ?_)
    · have H := H.1 h2
      refine xB.run oX12_bend 2 (s := (30, [some (.int (zI j)), some (.int (zI y))], [.long (zJ 1)], [r0, r1, r2, r3, r4, r5, r6, r7, r8, r9])) rfl ?_
      obtain rfl := Option.some.inj H
      exact xB.ret oX12_bend (r1 := some (.long (zJ 1))) rfl rfl rfl
    · have H := H.2 h2
      refine xB.run oX12_bend 3 (s := (21, [some (.int (zI j)), some (.int (zI y))], [.int (zI 1), .int (zI j), .int (zI y)], [r0, r1, r2, r3, r4, r5, r6, r7, r8, r9])) rfl ?_
      refine zB.opi oX12_bend rfl (zi_add j 1) ?_
      obtain ⟨g4, H⟩ := zgd H
      have H := zif H
      refine xB.brE oX12_bend (P := y ≠ (j + 1)) rfl (zc_ne (a := y) (b := j + 1) g4) (fun h3 => ?_) (fun h3 => ?_)
      · have H := H.1 h3
        refine xB.run oX12_bend 1 (s := (30, [some (.int (zI j)), some (.int (zI y))], [.long (zJ 0)], [r0, r1, r2, r3, r4, r5, r6, r7, r8, r9])) rfl ?_
        obtain rfl := Option.some.inj H
        exact xB.ret oX12_bend (r1 := some (.long (zJ 0))) rfl rfl rfl
      · have H := H.2 h3
        refine xB.run oX12_bend 2 (s := (30, [some (.int (zI j)), some (.int (zI y))], [.long (zJ 1)], [r0, r1, r2, r3, r4, r5, r6, r7, r8, r9])) rfl ?_
        obtain rfl := Option.some.inj H
        exact xB.ret oX12_bend (r1 := some (.long (zJ 1))) rfl rfl rfl
  · have H := H.2 h1
    refine xB.run oX12_bend 2 (s := (30, [some (.int (zI j)), some (.int (zI y))], [.long (zJ (-2))], [r0, r1, r2, r3, r4, r5, r6, r7, r8, r9])) rfl ?_
    obtain rfl := Option.some.inj H
    exact xB.ret oX12_bend (r1 := some (.long (zJ (-2)))) rfl rfl rfl
def d_X12_isRim (a : Int) : Option (Int) := if (0 ≤ a ∧ zr a) then (if (zr (a / 10)) then (if (a / 10) = 0 then some 1 else (if (0 ≤ a ∧ zr a) then (if (zr (a / 10)) then (if (a / 10) = 9 then some 1 else (if (0 ≤ a ∧ zr a) then (if (zr (a % 10)) then (if (a % 10) = 0 then some 1 else (if (0 ≤ a ∧ zr a) then (if (zr (a % 10)) then (if (a % 10) ≠ 9 then some 0 else some 1) else none) else none)) else none) else none)) else none) else none)) else none) else none
set_option maxRecDepth 20000 in
theorem t_X12_isRim (r0 : List va_E) (r1 : List va_E) (r2 : List va_E) (r3 : List va_E) (r4 : List va_E) (r5 : List va_E) (r6 : List va_E) (r7 : List va_E) (r8 : List va_E) (r9 : List va_E) (a : Int) {rr : Int} (H : d_X12_isRim a = some rr) : xC MX12_isRim 0 [.int (zI a)] ([r0, r1, r2, r3, r4, r5, r6, r7, r8, r9]) (some (.int (zI rr))) ([r0, r1, r2, r3, r4, r5, r6, r7, r8, r9]) := by
  refine ⟨Nat.le_of_ble_eq_true rfl, ?_⟩
  show xBody MX12_isRim 0 0 [some (.int (zI a))] [] ([r0, r1, r2, r3, r4, r5, r6, r7, r8, r9]) _ _
  unfold d_X12_isRim at H
  refine xB.run oX12_isRim 2 (s := (3, [some (.int (zI a))], [.int (zI 10), .int (zI a)], [r0, r1, r2, r3, r4, r5, r6, r7, r8, r9])) rfl ?_
  obtain ⟨g12, H⟩ := zgd H
  refine zB.divi oX12_isRim (b := 10) rfl (zi_divp g12 (by decide)) rfl (by decide) ?_
  obtain ⟨g11, H⟩ := zgd H
  have H := zif H
  refine xB.brE oX12_isRim (P := (a / 10) = 0) rfl (zc_eq (a := a / 10) (b := 0) ⟨g11, by decide⟩) (fun h1 => ?_) (fun h1 => ?_)
  · have H := H.1 h1
    refine xB.run oX12_isRim 2 (s := (37, [some (.int (zI a))], [.int (zI 1)], [r0, r1, r2, r3, r4, r5, r6, r7, r8, r9])) rfl ?_
    obtain rfl := Option.some.inj H
    exact xB.ret oX12_isRim (r1 := some (.int (zI 1))) rfl rfl rfl
  · have H := H.2 h1
    refine xB.run oX12_isRim 2 (s := (10, [some (.int (zI a))], [.int (zI 10), .int (zI a)], [r0, r1, r2, r3, r4, r5, r6, r7, r8, r9])) rfl ?_
    obtain ⟨g10, H⟩ := zgd H
    refine zB.divi oX12_isRim (b := 10) rfl (zi_divp g10 (by decide)) rfl (by decide) ?_
    refine xB.run oX12_isRim 1 (s := (13, [some (.int (zI a))], [.int (zI 9), .int (zI (a / 10))], [r0, r1, r2, r3, r4, r5, r6, r7, r8, r9])) rfl ?_
    obtain ⟨g9, H⟩ := zgd H
    have H := zif H
    refine xB.brE oX12_isRim (P := (a / 10) = 9) rfl (zc_eq (a := a / 10) (b := 9) ⟨g9, by decide⟩) (fun h2 => ?_) (fun h2 => ?_)
    · have H := H.1 h2
      refine xB.run oX12_isRim 2 (s := (37, [some (.int (zI a))], [.int (zI 1)], [r0, r1, r2, r3, r4, r5, r6, r7, r8, r9])) rfl ?_
      obtain rfl := Option.some.inj H
      exact xB.ret oX12_isRim (r1 := some (.int (zI 1))) rfl rfl rfl
    · have H := H.2 h2
      refine xB.run oX12_isRim 2 (s := (19, [some (.int (zI a))], [.int (zI 10), .int (zI a)], [r0, r1, r2, r3, r4, r5, r6, r7, r8, r9])) rfl ?_
      obtain ⟨g8, H⟩ := zgd H
      refine zB.divi oX12_isRim (b := 10) rfl (zi_remp g8 (by decide)) rfl (by decide) ?_
      obtain ⟨g7, H⟩ := zgd H
      have H := zif H
      refine xB.brE oX12_isRim (P := (a % 10) = 0) rfl (zc_eq (a := a % 10) (b := 0) ⟨g7, by decide⟩) (fun h3 => ?_) (fun h3 => ?_)
      · have H := H.1 h3
        refine xB.run oX12_isRim 2 (s := (37, [some (.int (zI a))], [.int (zI 1)], [r0, r1, r2, r3, r4, r5, r6, r7, r8, r9])) rfl ?_
        obtain rfl := Option.some.inj H
        exact xB.ret oX12_isRim (r1 := some (.int (zI 1))) rfl rfl rfl
      · have H := H.2 h3
        refine xB.run oX12_isRim 2 (s := (26, [some (.int (zI a))], [.int (zI 10), .int (zI a)], [r0, r1, r2, r3, r4, r5, r6, r7, r8, r9])) rfl ?_
        obtain ⟨g6, H⟩ := zgd H
        refine zB.divi oX12_isRim (b := 10) rfl (zi_remp g6 (by decide)) rfl (by decide) ?_
        refine xB.run oX12_isRim 1 (s := (29, [some (.int (zI a))], [.int (zI 9), .int (zI (a % 10))], [r0, r1, r2, r3, r4, r5, r6, r7, r8, r9])) rfl ?_
        obtain ⟨g5, H⟩ := zgd H
        have H := zif H
        refine xB.brE oX12_isRim (P := (a % 10) ≠ 9) rfl (zc_ne (a := a % 10) (b := 9) ⟨g5, by decide⟩) (fun h4 => ?_) (fun h4 => ?_)
        · have H := H.1 h4
          refine xB.run oX12_isRim 1 (s := (37, [some (.int (zI a))], [.int (zI 0)], [r0, r1, r2, r3, r4, r5, r6, r7, r8, r9])) rfl ?_
          obtain rfl := Option.some.inj H
          exact xB.ret oX12_isRim (r1 := some (.int (zI 0))) rfl rfl rfl
        · have H := H.2 h4
          refine xB.run oX12_isRim 2 (s := (37, [some (.int (zI a))], [.int (zI 1)], [r0, r1, r2, r3, r4, r5, r6, r7, r8, r9])) rfl ?_
          obtain rfl := Option.some.inj H
          exact xB.ret oX12_isRim (r1 := some (.int (zI 1))) rfl rfl rfl
def d_X12_root_8 (a : Int) (b : Int) : Nat → Int → Int → Option (Int × Int)
  | 0, _, _ => none
  | uN + 1, rt, stp => if (zrl stp) then (if stp ≤ 0 then some (rt, stp) else (if (zrl (((rt + stp) * (rt + stp)) * b) ∧ zrl a) then (if a < (((rt + stp) * (rt + stp)) * b) then (if (0 ≤ stp ∧ zrl stp) then (d_X12_root_8 a b uN rt (stp / 2)) else none) else (if (0 ≤ stp ∧ zrl stp) then (d_X12_root_8 a b uN (rt + stp) (stp / 2)) else none)) else none)) else none
def d_X12_root (a : Int) (b : Int) : Option (Int) := (d_X12_root_8 a b zF 0 4194304).bind fun y7 => some y7.1
set_option maxRecDepth 20000 in
theorem l_X12_root_8 (r0 : List va_E) (r1 : List va_E) (r2 : List va_E) (r3 : List va_E) (r4 : List va_E) (r5 : List va_E) (r6 : List va_E) (r7 : List va_E) (r8 : List va_E) (r9 : List va_E) (a : Int) (b : Int) {r : Option Value} {hp1 : xH} : ∀ (uN : Nat) (rt : Int) (stp : Int) {uX : Int × Int}, d_X12_root_8 a b uN rt stp = some uX → (xBody MX12_root 0 51 [some (.long (zJ a)), none, some (.long (zJ b)), none, some (.long (zJ uX.1)), none, some (.long (zJ uX.2)), none] [] ([r0, r1, r2, r3, r4, r5, r6, r7, r8, r9]) r hp1) → xBody MX12_root 0 8 [some (.long (zJ a)), none, some (.long (zJ b)), none, some (.long (zJ rt)), none, some (.long (zJ stp)), none] [] ([r0, r1, r2, r3, r4, r5, r6, r7, r8, r9]) r hp1 := by
  intro uN
  induction uN with
  | zero => intro rt stp uX H K; cases H
  | succ uN ih =>
    intro rt stp uX H K
    unfold d_X12_root_8 at H
    refine xB.run oX12_root 3 (s := (12, [some (.long (zJ a)), none, some (.long (zJ b)), none, some (.long (zJ rt)), none, some (.long (zJ stp)), none], [.int (lg_cmp (zJ stp) (zJ 0))], [r0, r1, r2, r3, r4, r5, r6, r7, r8, r9])) rfl ?_
    obtain ⟨g6, H⟩ := zgd H
    have H := zif H
    refine xB.brE oX12_root (P := stp ≤ 0) rfl (zl_le (a := stp) (b := 0) ⟨g6, by decide⟩) (fun h1 => ?_) (fun h1 => ?_)
    · have H := H.1 h1
      obtain rfl := Option.some.inj H
      exact K
    · have H := H.2 h1
      refine xB.run oX12_root 2 (s := (19, [some (.long (zJ a)), none, some (.long (zJ b)), none, some (.long (zJ rt)), none, some (.long (zJ stp)), none], [.long (zJ stp), .long (zJ rt)], [r0, r1, r2, r3, r4, r5, r6, r7, r8, r9])) rfl ?_
      refine zB.opl oX12_root rfl (zj_add rt stp) ?_
      refine xB.run oX12_root 2 (s := (24, [some (.long (zJ a)), none, some (.long (zJ b)), none, some (.long (zJ rt)), none, some (.long (zJ stp)), none], [.long (zJ stp), .long (zJ rt), .long (zJ (rt + stp))], [r0, r1, r2, r3, r4, r5, r6, r7, r8, r9])) rfl ?_
      refine zB.opl oX12_root rfl (zj_add rt stp) ?_
      refine zB.opl oX12_root rfl (zj_mul (rt + stp) (rt + stp)) ?_
      refine xB.run oX12_root 1 (s := (27, [some (.long (zJ a)), none, some (.long (zJ b)), none, some (.long (zJ rt)), none, some (.long (zJ stp)), none], [.long (zJ b), .long (zJ ((rt + stp) * (rt + stp)))], [r0, r1, r2, r3, r4, r5, r6, r7, r8, r9])) rfl ?_
      refine zB.opl oX12_root rfl (zj_mul ((rt + stp) * (rt + stp)) b) ?_
      refine xB.run oX12_root 2 (s := (30, [some (.long (zJ a)), none, some (.long (zJ b)), none, some (.long (zJ rt)), none, some (.long (zJ stp)), none], [.int (lg_cmp (zJ (((rt + stp) * (rt + stp)) * b)) (zJ a))], [r0, r1, r2, r3, r4, r5, r6, r7, r8, r9])) rfl ?_
      obtain ⟨g5, H⟩ := zgd H
      have H := zif H
      refine xB.brE oX12_root (P := a < (((rt + stp) * (rt + stp)) * b)) rfl (zl_gt (a := ((rt + stp) * (rt + stp)) * b) (b := a) g5) (fun h2 => ?_) (fun h2 => ?_)
      · have H := H.1 h2
        refine xB.run oX12_root 2 (s := (45, [some (.long (zJ a)), none, some (.long (zJ b)), none, some (.long (zJ rt)), none, some (.long (zJ stp)), none], [.long (zJ 2), .long (zJ stp)], [r0, r1, r2, r3, r4, r5, r6, r7, r8, r9])) rfl ?_
        obtain ⟨g3, H⟩ := zgd H
        refine zB.divl oX12_root (b := 2) rfl (zj_divp g3 (by decide)) rfl (by decide) ?_
        refine xB.run oX12_root 2 (s := (8, [some (.long (zJ a)), none, some (.long (zJ b)), none, some (.long (zJ rt)), none, some (.long (zJ (stp / 2))), none], [], [r0, r1, r2, r3, r4, r5, r6, r7, r8, r9])) rfl ?_
        exact ih rt (stp / 2) H K
      · have H := H.2 h2
        refine xB.run oX12_root 2 (s := (37, [some (.long (zJ a)), none, some (.long (zJ b)), none, some (.long (zJ rt)), none, some (.long (zJ stp)), none], [.long (zJ stp), .long (zJ rt)], [r0, r1, r2, r3, r4, r5, r6, r7, r8, r9])) rfl ?_
        refine zB.opl oX12_root rfl (zj_add rt stp) ?_
        refine xB.run oX12_root 3 (s := (45, [some (.long (zJ a)), none, some (.long (zJ b)), none, some (.long (zJ (rt + stp))), none, some (.long (zJ stp)), none], [.long (zJ 2), .long (zJ stp)], [r0, r1, r2, r3, r4, r5, r6, r7, r8, r9])) rfl ?_
        obtain ⟨g4, H⟩ := zgd H
        refine zB.divl oX12_root (b := 2) rfl (zj_divp g4 (by decide)) rfl (by decide) ?_
        refine xB.run oX12_root 2 (s := (8, [some (.long (zJ a)), none, some (.long (zJ b)), none, some (.long (zJ (rt + stp))), none, some (.long (zJ (stp / 2))), none], [], [r0, r1, r2, r3, r4, r5, r6, r7, r8, r9])) rfl ?_
        exact ih (rt + stp) (stp / 2) H K
set_option maxRecDepth 20000 in
theorem t_X12_root (r0 : List va_E) (r1 : List va_E) (r2 : List va_E) (r3 : List va_E) (r4 : List va_E) (r5 : List va_E) (r6 : List va_E) (r7 : List va_E) (r8 : List va_E) (r9 : List va_E) (a : Int) (b : Int) {rr : Int} (H : d_X12_root a b = some rr) : xC MX12_root 0 [.long (zJ a), .long (zJ b)] ([r0, r1, r2, r3, r4, r5, r6, r7, r8, r9]) (some (.int (zI rr))) ([r0, r1, r2, r3, r4, r5, r6, r7, r8, r9]) := by
  refine ⟨Nat.le_of_ble_eq_true rfl, ?_⟩
  show xBody MX12_root 0 0 [some (.long (zJ a)), none, some (.long (zJ b)), none, none, none, none, none] [] ([r0, r1, r2, r3, r4, r5, r6, r7, r8, r9]) _ _
  unfold d_X12_root at H
  refine xB.run oX12_root 4 (s := (8, [some (.long (zJ a)), none, some (.long (zJ b)), none, some (.long (zJ 0)), none, some (.long (zJ 4194304)), none], [], [r0, r1, r2, r3, r4, r5, r6, r7, r8, r9])) rfl ?_
  obtain ⟨y7, e8, H⟩ := zbd H
  refine l_X12_root_8 r0 r1 r2 r3 r4 r5 r6 r7 r8 r9 a b _ 0 4194304 e8 ?_
  refine xB.run oX12_root 1 (s := (53, [some (.long (zJ a)), none, some (.long (zJ b)), none, some (.long (zJ y7.1)), none, some (.long (zJ y7.2)), none], [.long (zJ y7.1)], [r0, r1, r2, r3, r4, r5, r6, r7, r8, r9])) rfl ?_
  refine zB.opi oX12_root rfl (zj_l2i y7.1) ?_
  obtain rfl := Option.some.inj H
  exact xB.ret oX12_root (r1 := some (.int (zI y7.1))) rfl rfl rfl
def d_X12_bitsOf_4 (set : Int) : Nat → Int → Int → Option (Int × Int)
  | 0, _, _ => none
  | uN + 1, cn, k => if (zr k) then (if (16 : Int) ≤ k then some (cn, k) else (if (zr set ∧ (0 ≤ k ∧ k < 32)) then (d_X12_bitsOf_4 set uN (cn + ((set / (2 : Int) ^ k.toNat) % 2)) (k + 1)) else none)) else none
def d_X12_bitsOf (set : Int) : Option (Int) := (d_X12_bitsOf_4 set zF 0 0).bind fun y4 => some y4.1
set_option maxRecDepth 20000 in
theorem l_X12_bitsOf_4 (r0 : List va_E) (r1 : List va_E) (r2 : List va_E) (r3 : List va_E) (r4 : List va_E) (r5 : List va_E) (r6 : List va_E) (r7 : List va_E) (r8 : List va_E) (r9 : List va_E) (set : Int) {r : Option Value} {hp1 : xH} : ∀ (uN : Nat) (cn : Int) (k : Int) {uX : Int × Int}, d_X12_bitsOf_4 set uN cn k = some uX → (xBody MX12_bitsOf 0 24 [some (.int (zI set)), some (.int (zI uX.1)), some (.int (zI uX.2))] [] ([r0, r1, r2, r3, r4, r5, r6, r7, r8, r9]) r hp1) → xBody MX12_bitsOf 0 4 [some (.int (zI set)), some (.int (zI cn)), some (.int (zI k))] [] ([r0, r1, r2, r3, r4, r5, r6, r7, r8, r9]) r hp1 := by
  intro uN
  induction uN with
  | zero => intro cn k uX H K; cases H
  | succ uN ih =>
    intro cn k uX H K
    unfold d_X12_bitsOf_4 at H
    refine xB.run oX12_bitsOf 2 (s := (7, [some (.int (zI set)), some (.int (zI cn)), some (.int (zI k))], [.int (zI 16), .int (zI k)], [r0, r1, r2, r3, r4, r5, r6, r7, r8, r9])) rfl ?_
    obtain ⟨g3, H⟩ := zgd H
    have H := zif H
    refine xB.brE oX12_bitsOf (P := (16 : Int) ≤ k) rfl (zc_ge (a := k) (b := 16) ⟨g3, by decide⟩) (fun h1 => ?_) (fun h1 => ?_)
    · have H := H.1 h1
      obtain rfl := Option.some.inj H
      exact K
    · have H := H.2 h1
      refine xB.run oX12_bitsOf 3 (s := (13, [some (.int (zI set)), some (.int (zI cn)), some (.int (zI k))], [.int (zI k), .int (zI set), .int (zI cn)], [r0, r1, r2, r3, r4, r5, r6, r7, r8, r9])) rfl ?_
      obtain ⟨g2, H⟩ := zgd H
      refine zB.opi oX12_bitsOf rfl (zi_shr (c := k) g2.1 g2.2) ?_
      refine xB.run oX12_bitsOf 1 (s := (15, [some (.int (zI set)), some (.int (zI cn)), some (.int (zI k))], [.int (zI 1), .int (zI (set / (2 : Int) ^ k.toNat)), .int (zI cn)], [r0, r1, r2, r3, r4, r5, r6, r7, r8, r9])) rfl ?_
      refine zB.opi oX12_bitsOf rfl (zi_and1 (set / (2 : Int) ^ k.toNat)) ?_
      refine zB.opi oX12_bitsOf rfl (zi_add cn ((set / (2 : Int) ^ k.toNat) % 2)) ?_
      refine xB.run oX12_bitsOf 1 (s := (18, [some (.int (zI set)), some (.int (zI (cn + ((set / (2 : Int) ^ k.toNat) % 2)))), some (.int (zI k))], [], [r0, r1, r2, r3, r4, r5, r6, r7, r8, r9])) rfl ?_
      refine zB.inc oX12_bitsOf rfl (lv2 := [some (.int (zI set)), some (.int (zI (cn + ((set / (2 : Int) ^ k.toNat) % 2)))), some (.int (zI (k + 1)))]) (zi_inc (a := 0) (zi_addp1 k) _ rfl) ?_
      refine xB.run oX12_bitsOf 1 (s := (4, [some (.int (zI set)), some (.int (zI (cn + ((set / (2 : Int) ^ k.toNat) % 2)))), some (.int (zI (k + 1)))], [], [r0, r1, r2, r3, r4, r5, r6, r7, r8, r9])) rfl ?_
      exact ih (cn + ((set / (2 : Int) ^ k.toNat) % 2)) (k + 1) H K
set_option maxRecDepth 20000 in
theorem t_X12_bitsOf (r0 : List va_E) (r1 : List va_E) (r2 : List va_E) (r3 : List va_E) (r4 : List va_E) (r5 : List va_E) (r6 : List va_E) (r7 : List va_E) (r8 : List va_E) (r9 : List va_E) (set : Int) {rr : Int} (H : d_X12_bitsOf set = some rr) : xC MX12_bitsOf 0 [.int (zI set)] ([r0, r1, r2, r3, r4, r5, r6, r7, r8, r9]) (some (.int (zI rr))) ([r0, r1, r2, r3, r4, r5, r6, r7, r8, r9]) := by
  refine ⟨Nat.le_of_ble_eq_true rfl, ?_⟩
  show xBody MX12_bitsOf 0 0 [some (.int (zI set)), none, none] [] ([r0, r1, r2, r3, r4, r5, r6, r7, r8, r9]) _ _
  unfold d_X12_bitsOf at H
  refine xB.run oX12_bitsOf 4 (s := (4, [some (.int (zI set)), some (.int (zI 0)), some (.int (zI 0))], [], [r0, r1, r2, r3, r4, r5, r6, r7, r8, r9])) rfl ?_
  obtain ⟨y4, e5, H⟩ := zbd H
  refine l_X12_bitsOf_4 r0 r1 r2 r3 r4 r5 r6 r7 r8 r9 set _ 0 0 e5 ?_
  refine xB.run oX12_bitsOf 1 (s := (25, [some (.int (zI set)), some (.int (zI y4.1)), some (.int (zI y4.2))], [.int (zI y4.1)], [r0, r1, r2, r3, r4, r5, r6, r7, r8, r9])) rfl ?_
  obtain rfl := Option.some.inj H
  exact xB.ret oX12_bitsOf (r1 := some (.int (zI y4.1))) rfl rfl rfl
def d_X11_isHalf (w : Int) : Option (Int) := if (zr w) then (if w = 0 then some 1 else (if (zr w) then (if w ≠ 1 then some 0 else some 1) else none)) else none
set_option maxRecDepth 20000 in
theorem t_X11_isHalf (r0 : List va_E) (r1 : List va_E) (r2 : List va_E) (r3 : List va_E) (r4 : List va_E) (r5 : List va_E) (r6 : List va_E) (r7 : List va_E) (r8 : List va_E) (r9 : List va_E) (w : Int) {rr : Int} (H : d_X11_isHalf w = some rr) : xC MX11_isHalf 0 [.int (zI w)] ([r0, r1, r2, r3, r4, r5, r6, r7, r8, r9]) (some (.int (zI rr))) ([r0, r1, r2, r3, r4, r5, r6, r7, r8, r9]) := by
  refine ⟨Nat.le_of_ble_eq_true rfl, ?_⟩
  show xBody MX11_isHalf 0 0 [some (.int (zI w))] [] ([r0, r1, r2, r3, r4, r5, r6, r7, r8, r9]) _ _
  unfold d_X11_isHalf at H
  refine xB.run oX11_isHalf 1 (s := (1, [some (.int (zI w))], [.int (zI w)], [r0, r1, r2, r3, r4, r5, r6, r7, r8, r9])) rfl ?_
  obtain ⟨g4, H⟩ := zgd H
  have H := zif H
  refine xB.brE oX11_isHalf (P := w = 0) rfl (zc_eq (a := w) (b := 0) ⟨g4, by decide⟩) (fun h1 => ?_) (fun h1 => ?_)
  · have H := H.1 h1
    refine xB.run oX11_isHalf 2 (s := (14, [some (.int (zI w))], [.int (zI 1)], [r0, r1, r2, r3, r4, r5, r6, r7, r8, r9])) rfl ?_
    obtain rfl := Option.some.inj H
    exact xB.ret oX11_isHalf (r1 := some (.int (zI 1))) rfl rfl rfl
  · have H := H.2 h1
    refine xB.run oX11_isHalf 2 (s := (6, [some (.int (zI w))], [.int (zI 1), .int (zI w)], [r0, r1, r2, r3, r4, r5, r6, r7, r8, r9])) rfl ?_
    obtain ⟨g3, H⟩ := zgd H
    have H := zif H
    refine xB.brE oX11_isHalf (P := w ≠ 1) rfl (zc_ne (a := w) (b := 1) ⟨g3, by decide⟩) (fun h2 => ?_) (fun h2 => ?_)
    · have H := H.1 h2
      refine xB.run oX11_isHalf 1 (s := (14, [some (.int (zI w))], [.int (zI 0)], [r0, r1, r2, r3, r4, r5, r6, r7, r8, r9])) rfl ?_
      obtain rfl := Option.some.inj H
      exact xB.ret oX11_isHalf (r1 := some (.int (zI 0))) rfl rfl rfl
    · have H := H.2 h2
      refine xB.run oX11_isHalf 2 (s := (14, [some (.int (zI w))], [.int (zI 1)], [r0, r1, r2, r3, r4, r5, r6, r7, r8, r9])) rfl ?_
      obtain rfl := Option.some.inj H
      exact xB.ret oX11_isHalf (r1 := some (.int (zI 1))) rfl rfl rfl
def d_X11_commonDivisor_15 (a : Int) (b : Int) : Nat → Int → Int → Int → Option (Int × Int × Int)
  | 0, _, _, _ => none
  | uN + 1, x, y, k => if (zr k) then (if (1000 : Int) ≤ k then some (x, y, k) else (if (zrl y) then (if y = 0 then some (x, y, k) else (if (zrl x ∧ y ≠ 0 ∧ zrl y) then (d_X11_commonDivisor_15 a b uN y (x.tmod y) (k + 1)) else none)) else none)) else none
def d_X11_commonDivisor (a : Int) (b : Int) : Option (Int) := (d_J9_abs_067f4 a).bind fun y1 => (d_J9_abs_067f4 b).bind fun y3 => (d_X11_commonDivisor_15 a b zF y1 y3 0).bind fun y10 => some y10.1
set_option maxRecDepth 20000 in
theorem l_X11_commonDivisor_15 (r0 : List va_E) (r1 : List va_E) (r2 : List va_E) (r3 : List va_E) (r4 : List va_E) (r5 : List va_E) (r6 : List va_E) (r7 : List va_E) (r8 : List va_E) (r9 : List va_E) (a : Int) (b : Int) {r : Option Value} {hp1 : xH} : ∀ (uN : Nat) (x : Int) (y : Int) (k : Int) {uX : Int × Int × Int}, d_X11_commonDivisor_15 a b uN x y k = some uX → (xBody MX11_commonDivisor 1 51 [some (.long (zJ a)), none, some (.long (zJ b)), none, some (.long (zJ uX.1)), none, some (.long (zJ uX.2.1)), none, some (.int (zI uX.2.2)), none, none] [] ([r0, r1, r2, r3, r4, r5, r6, r7, r8, r9]) r hp1) → xBody MX11_commonDivisor 1 15 [some (.long (zJ a)), none, some (.long (zJ b)), none, some (.long (zJ x)), none, some (.long (zJ y)), none, some (.int (zI k)), none, none] [] ([r0, r1, r2, r3, r4, r5, r6, r7, r8, r9]) r hp1 := by
  intro uN
  induction uN with
  | zero => intro x y k uX H K; cases H
  | succ uN ih =>
    intro x y k uX H K
    unfold d_X11_commonDivisor_15 at H
    refine xB.run oX11_commonDivisor 2 (s := (20, [some (.long (zJ a)), none, some (.long (zJ b)), none, some (.long (zJ x)), none, some (.long (zJ y)), none, some (.int (zI k)), none, none], [.int (zI 1000), .int (zI k)], [r0, r1, r2, r3, r4, r5, r6, r7, r8, r9])) rfl ?_
    obtain ⟨g9, H⟩ := zgd H
    have H := zif H
    refine xB.brE oX11_commonDivisor (P := (1000 : Int) ≤ k) rfl (zc_ge (a := k) (b := 1000) ⟨g9, by decide⟩) (fun h5 => ?_) (fun h5 => ?_)
    · have H := H.1 h5
      obtain rfl := Option.some.inj H
      exact K
    · have H := H.2 h5
      refine xB.run oX11_commonDivisor 3 (s := (27, [some (.long (zJ a)), none, some (.long (zJ b)), none, some (.long (zJ x)), none, some (.long (zJ y)), none, some (.int (zI k)), none, none], [.int (lg_cmp (zJ y) (zJ 0))], [r0, r1, r2, r3, r4, r5, r6, r7, r8, r9])) rfl ?_
      obtain ⟨g8, H⟩ := zgd H
      have H := zif H
      refine xB.brE oX11_commonDivisor (P := y = 0) rfl (zl_eq (a := y) (b := 0) ⟨g8, by decide⟩) (fun h6 => ?_) (fun h6 => ?_)
      · have H := H.1 h6
        obtain rfl := Option.some.inj H
        exact K
      · have H := H.2 h6
        refine xB.run oX11_commonDivisor 2 (s := (34, [some (.long (zJ a)), none, some (.long (zJ b)), none, some (.long (zJ x)), none, some (.long (zJ y)), none, some (.int (zI k)), none, none], [.long (zJ y), .long (zJ x)], [r0, r1, r2, r3, r4, r5, r6, r7, r8, r9])) rfl ?_
        obtain ⟨g7, H⟩ := zgd H
        refine zB.divl oX11_commonDivisor (b := y) rfl (zj_rem ⟨g7.1, g7.2.2⟩) rfl g7.2 ?_
        refine xB.run oX11_commonDivisor 5 (s := (45, [some (.long (zJ a)), none, some (.long (zJ b)), none, some (.long (zJ y)), none, some (.long (zJ (x.tmod y))), none, some (.int (zI k)), some (.long (zJ (x.tmod y))), none], [], [r0, r1, r2, r3, r4, r5, r6, r7, r8, r9])) rfl ?_
        refine zB.inc oX11_commonDivisor rfl (lv2 := [some (.long (zJ a)), none, some (.long (zJ b)), none, some (.long (zJ y)), none, some (.long (zJ (x.tmod y))), none, some (.int (zI (k + 1))), some (.long (zJ (x.tmod y))), none]) (zi_inc (a := 0) (zi_addp1 k) _ rfl) ?_
        refine xB.run oX11_commonDivisor 1 (s := (15, [some (.long (zJ a)), none, some (.long (zJ b)), none, some (.long (zJ y)), none, some (.long (zJ (x.tmod y))), none, some (.int (zI (k + 1))), some (.long (zJ (x.tmod y))), none], [], [r0, r1, r2, r3, r4, r5, r6, r7, r8, r9])) rfl ?_
        refine xB.forget (lv1 := [some (.long (zJ a)), none, some (.long (zJ b)), none, some (.long (zJ y)), none, some (.long (zJ (x.tmod y))), none, some (.int (zI (k + 1))), none, none]) (xle_same (xle_same (xle_same (xle_same (xle_same (xle_same (xle_same (xle_same (xle_same (xle_none (xle_same (xle_nil)))))))))))) ?_
        exact ih y (x.tmod y) (k + 1) H K
set_option maxRecDepth 20000 in
theorem t_X11_commonDivisor (r0 : List va_E) (r1 : List va_E) (r2 : List va_E) (r3 : List va_E) (r4 : List va_E) (r5 : List va_E) (r6 : List va_E) (r7 : List va_E) (r8 : List va_E) (r9 : List va_E) (a : Int) (b : Int) {rr : Int} (H : d_X11_commonDivisor a b = some rr) : xC MX11_commonDivisor 1 [.long (zJ a), .long (zJ b)] ([r0, r1, r2, r3, r4, r5, r6, r7, r8, r9]) (some (.long (zJ rr))) ([r0, r1, r2, r3, r4, r5, r6, r7, r8, r9]) := by
  refine ⟨Nat.le_of_ble_eq_true rfl, ?_⟩
  show xBody MX11_commonDivisor 1 0 [some (.long (zJ a)), none, some (.long (zJ b)), none, none, none, none, none, none, none, none] [] ([r0, r1, r2, r3, r4, r5, r6, r7, r8, r9]) _ _
  unfold d_X11_commonDivisor at H
  refine xB.run oX11_commonDivisor 1 (s := (1, [some (.long (zJ a)), none, some (.long (zJ b)), none, none, none, none, none, none, none, none], [.long (zJ a)], [r0, r1, r2, r3, r4, r5, r6, r7, r8, r9])) rfl ?_
  obtain ⟨y1, e2, H⟩ := zbd H
  refine xB.call oX11_commonDivisor (M2 := MJ9_abs_067f4) rfl rfl ((t_J9_abs_067f4 r0 r1 r2 r3 r4 r5 r6 r7 r8 r9 a e2).deep (by decide : 0 ≤ 0)) ?_
  show xBody MX11_commonDivisor 1 4 [some (.long (zJ a)), none, some (.long (zJ b)), none, none, none, none, none, none, none, none] [.long (zJ y1)] ([r0, r1, r2, r3, r4, r5, r6, r7, r8, r9]) _ _
  refine xB.run oX11_commonDivisor 2 (s := (7, [some (.long (zJ a)), none, some (.long (zJ b)), none, some (.long (zJ y1)), none, none, none, none, none, none], [.long (zJ b)], [r0, r1, r2, r3, r4, r5, r6, r7, r8, r9])) rfl ?_
  obtain ⟨y3, e4, H⟩ := zbd H
  refine xB.call oX11_commonDivisor (M2 := MJ9_abs_067f4) rfl rfl ((t_J9_abs_067f4 r0 r1 r2 r3 r4 r5 r6 r7 r8 r9 b e4).deep (by decide : 0 ≤ 0)) ?_
  show xBody MX11_commonDivisor 1 10 [some (.long (zJ a)), none, some (.long (zJ b)), none, some (.long (zJ y1)), none, none, none, none, none, none] [.long (zJ y3)] ([r0, r1, r2, r3, r4, r5, r6, r7, r8, r9]) _ _
  refine xB.run oX11_commonDivisor 3 (s := (15, [some (.long (zJ a)), none, some (.long (zJ b)), none, some (.long (zJ y1)), none, some (.long (zJ y3)), none, some (.int (zI 0)), none, none], [], [r0, r1, r2, r3, r4, r5, r6, r7, r8, r9])) rfl ?_
  obtain ⟨y10, e11, H⟩ := zbd H
  refine l_X11_commonDivisor_15 r0 r1 r2 r3 r4 r5 r6 r7 r8 r9 a b _ y1 y3 0 e11 ?_
  refine xB.run oX11_commonDivisor 1 (s := (53, [some (.long (zJ a)), none, some (.long (zJ b)), none, some (.long (zJ y10.1)), none, some (.long (zJ y10.2.1)), none, some (.int (zI y10.2.2)), none, none], [.long (zJ y10.1)], [r0, r1, r2, r3, r4, r5, r6, r7, r8, r9])) rfl ?_
  obtain rfl := Option.some.inj H
  exact xB.ret oX11_commonDivisor (r1 := some (.long (zJ y10.1))) rfl rfl rfl
def d_X11_inLeastTerms (up : Int) (dn : Int) (wh : Int) : Option (Int) := (d_X11_commonDivisor up dn).bind fun y1 => if (zrl dn) then (if dn = 0 then some (-9223372036854775808) else (if (zrl y1) then (if y1 ≠ 0 then (if (zrl dn) then (if (0 : Int) ≤ dn then (if (zr wh) then (if wh ≠ 0 then (if (zrl dn ∧ y1 ≠ 0 ∧ zrl y1) then some (dn.tdiv y1) else none) else (if (zrl up ∧ y1 ≠ 0 ∧ zrl y1) then some (up.tdiv y1) else none)) else none) else (if (zr wh) then (if wh ≠ 0 then (if (zrl dn ∧ (-y1) ≠ 0 ∧ zrl (-y1)) then some (dn.tdiv (-y1)) else none) else (if (zrl up ∧ (-y1) ≠ 0 ∧ zrl (-y1)) then some (up.tdiv (-y1)) else none)) else none)) else none) else some (-9223372036854775808)) else none)) else none
set_option maxRecDepth 20000 in
theorem t_X11_inLeastTerms (r0 : List va_E) (r1 : List va_E) (r2 : List va_E) (r3 : List va_E) (r4 : List va_E) (r5 : List va_E) (r6 : List va_E) (r7 : List va_E) (r8 : List va_E) (r9 : List va_E) (up : Int) (dn : Int) (wh : Int) {rr : Int} (H : d_X11_inLeastTerms up dn wh = some rr) : xC MX11_inLeastTerms 2 [.long (zJ up), .long (zJ dn), .int (zI wh)] ([r0, r1, r2, r3, r4, r5, r6, r7, r8, r9]) (some (.long (zJ rr))) ([r0, r1, r2, r3, r4, r5, r6, r7, r8, r9]) := by
  refine ⟨Nat.le_of_ble_eq_true rfl, ?_⟩
  show xBody MX11_inLeastTerms 2 0 [some (.long (zJ up)), none, some (.long (zJ dn)), none, some (.int (zI wh)), none, none] [] ([r0, r1, r2, r3, r4, r5, r6, r7, r8, r9]) _ _
  unfold d_X11_inLeastTerms at H
  refine xB.run oX11_inLeastTerms 2 (s := (2, [some (.long (zJ up)), none, some (.long (zJ dn)), none, some (.int (zI wh)), none, none], [.long (zJ dn), .long (zJ up)], [r0, r1, r2, r3, r4, r5, r6, r7, r8, r9])) rfl ?_
  obtain ⟨y1, e2, H⟩ := zbd H
  refine xB.call oX11_inLeastTerms (M2 := MX11_commonDivisor) rfl rfl ((t_X11_commonDivisor r0 r1 r2 r3 r4 r5 r6 r7 r8 r9 up dn e2).deep (by decide : 1 ≤ 1)) ?_
  show xBody MX11_inLeastTerms 2 5 [some (.long (zJ up)), none, some (.long (zJ dn)), none, some (.int (zI wh)), none, none] [.long (zJ y1)] ([r0, r1, r2, r3, r4, r5, r6, r7, r8, r9]) _ _
  refine xB.run oX11_inLeastTerms 4 (s := (10, [some (.long (zJ up)), none, some (.long (zJ dn)), none, some (.int (zI wh)), some (.long (zJ y1)), none], [.int (lg_cmp (zJ dn) (zJ 0))], [r0, r1, r2, r3, r4, r5, r6, r7, r8, r9])) rfl ?_
  obtain ⟨g16, H⟩ := zgd H
  have H := zif H
  refine xB.brE oX11_inLeastTerms (P := dn = 0) rfl (zl_eq (a := dn) (b := 0) ⟨g16, by decide⟩) (fun h3 => ?_) (fun h3 => ?_)
  · have H := H.1 h3
    refine xB.run oX11_inLeastTerms 1 (s := (23, [some (.long (zJ up)), none, some (.long (zJ dn)), none, some (.int (zI wh)), some (.long (zJ y1)), none], [.long (zJ (-9223372036854775808))], [r0, r1, r2, r3, r4, r5, r6, r7, r8, r9])) rfl ?_
    obtain rfl := Option.some.inj H
    exact xB.ret oX11_inLeastTerms (r1 := some (.long (zJ (-9223372036854775808)))) rfl rfl rfl
  · have H := H.2 h3
    refine xB.run oX11_inLeastTerms 3 (s := (17, [some (.long (zJ up)), none, some (.long (zJ dn)), none, some (.int (zI wh)), some (.long (zJ y1)), none], [.int (lg_cmp (zJ y1) (zJ 0))], [r0, r1, r2, r3, r4, r5, r6, r7, r8, r9])) rfl ?_
    obtain ⟨g15, H⟩ := zgd H
    have H := zif H
    refine xB.brE oX11_inLeastTerms (P := y1 ≠ 0) rfl (zl_ne (a := y1) (b := 0) ⟨g15, by decide⟩) (fun h4 => ?_) (fun h4 => ?_)
    · have H := H.1 h4
      refine xB.run oX11_inLeastTerms 3 (s := (27, [some (.long (zJ up)), none, some (.long (zJ dn)), none, some (.int (zI wh)), some (.long (zJ y1)), none], [.int (lg_cmp (zJ dn) (zJ 0))], [r0, r1, r2, r3, r4, r5, r6, r7, r8, r9])) rfl ?_
      obtain ⟨g14, H⟩ := zgd H
      have H := zif H
      refine xB.brE oX11_inLeastTerms (P := (0 : Int) ≤ dn) rfl (zl_ge (a := dn) (b := 0) ⟨g14, by decide⟩) (fun h5 => ?_) (fun h5 => ?_)
      · have H := H.1 h5
        refine xB.run oX11_inLeastTerms 1 (s := (37, [some (.long (zJ up)), none, some (.long (zJ dn)), none, some (.int (zI wh)), some (.long (zJ y1)), none], [.int (zI wh)], [r0, r1, r2, r3, r4, r5, r6, r7, r8, r9])) rfl ?_
        obtain ⟨g9, H⟩ := zgd H
        have H := zif H
        refine xB.brE oX11_inLeastTerms (P := wh ≠ 0) rfl (zc_ne (a := wh) (b := 0) ⟨g9, by decide⟩) (fun h6 => ?_) (fun h6 => ?_)
        · have H := H.1 h6
          refine xB.run oX11_inLeastTerms 2 (s := (50, [some (.long (zJ up)), none, some (.long (zJ dn)), none, some (.int (zI wh)), some (.long (zJ y1)), none], [.long (zJ y1), .long (zJ dn)], [r0, r1, r2, r3, r4, r5, r6, r7, r8, r9])) rfl ?_
          obtain ⟨g7, H⟩ := zgd H
          refine zB.divl oX11_inLeastTerms (b := y1) rfl (zj_div ⟨g7.1, g7.2.2⟩) rfl g7.2 ?_
          obtain rfl := Option.some.inj H
          exact xB.ret oX11_inLeastTerms (r1 := some (.long (zJ (dn.tdiv y1)))) rfl rfl rfl
        · have H := H.2 h6
          refine xB.run oX11_inLeastTerms 2 (s := (43, [some (.long (zJ up)), none, some (.long (zJ dn)), none, some (.int (zI wh)), some (.long (zJ y1)), none], [.long (zJ y1), .long (zJ up)], [r0, r1, r2, r3, r4, r5, r6, r7, r8, r9])) rfl ?_
          obtain ⟨g8, H⟩ := zgd H
          refine zB.divl oX11_inLeastTerms (b := y1) rfl (zj_div ⟨g8.1, g8.2.2⟩) rfl g8.2 ?_
          refine xB.run oX11_inLeastTerms 1 (s := (51, [some (.long (zJ up)), none, some (.long (zJ dn)), none, some (.int (zI wh)), some (.long (zJ y1)), none], [.long (zJ (up.tdiv y1))], [r0, r1, r2, r3, r4, r5, r6, r7, r8, r9])) rfl ?_
          obtain rfl := Option.some.inj H
          exact xB.ret oX11_inLeastTerms (r1 := some (.long (zJ (up.tdiv y1)))) rfl rfl rfl
      · have H := H.2 h5
        refine xB.run oX11_inLeastTerms 1 (s := (32, [some (.long (zJ up)), none, some (.long (zJ dn)), none, some (.int (zI wh)), some (.long (zJ y1)), none], [.long (zJ y1)], [r0, r1, r2, r3, r4, r5, r6, r7, r8, r9])) rfl ?_
        refine zB.opl oX11_inLeastTerms rfl (zj_neg y1) ?_
        refine xB.run oX11_inLeastTerms 2 (s := (37, [some (.long (zJ up)), none, some (.long (zJ dn)), none, some (.int (zI wh)), some (.long (zJ (-y1))), none], [.int (zI wh)], [r0, r1, r2, r3, r4, r5, r6, r7, r8, r9])) rfl ?_
        obtain ⟨g13, H⟩ := zgd H
        have H := zif H
        refine xB.brE oX11_inLeastTerms (P := wh ≠ 0) rfl (zc_ne (a := wh) (b := 0) ⟨g13, by decide⟩) (fun h10 => ?_) (fun h10 => ?_)
        · have H := H.1 h10
          refine xB.run oX11_inLeastTerms 2 (s := (50, [some (.long (zJ up)), none, some (.long (zJ dn)), none, some (.int (zI wh)), some (.long (zJ (-y1))), none], [.long (zJ (-y1)), .long (zJ dn)], [r0, r1, r2, r3, r4, r5, r6, r7, r8, r9])) rfl ?_
          obtain ⟨g11, H⟩ := zgd H
          refine zB.divl oX11_inLeastTerms (b := -y1) rfl (zj_div ⟨g11.1, g11.2.2⟩) rfl g11.2 ?_
          obtain rfl := Option.some.inj H
          exact xB.ret oX11_inLeastTerms (r1 := some (.long (zJ (dn.tdiv (-y1))))) rfl rfl rfl
        · have H := H.2 h10
          refine xB.run oX11_inLeastTerms 2 (s := (43, [some (.long (zJ up)), none, some (.long (zJ dn)), none, some (.int (zI wh)), some (.long (zJ (-y1))), none], [.long (zJ (-y1)), .long (zJ up)], [r0, r1, r2, r3, r4, r5, r6, r7, r8, r9])) rfl ?_
          obtain ⟨g12, H⟩ := zgd H
          refine zB.divl oX11_inLeastTerms (b := -y1) rfl (zj_div ⟨g12.1, g12.2.2⟩) rfl g12.2 ?_
          refine xB.run oX11_inLeastTerms 1 (s := (51, [some (.long (zJ up)), none, some (.long (zJ dn)), none, some (.int (zI wh)), some (.long (zJ (-y1))), none], [.long (zJ (up.tdiv (-y1)))], [r0, r1, r2, r3, r4, r5, r6, r7, r8, r9])) rfl ?_
          obtain rfl := Option.some.inj H
          exact xB.ret oX11_inLeastTerms (r1 := some (.long (zJ (up.tdiv (-y1))))) rfl rfl rfl
    · have H := H.2 h4
      refine xB.run oX11_inLeastTerms 1 (s := (23, [some (.long (zJ up)), none, some (.long (zJ dn)), none, some (.int (zI wh)), some (.long (zJ y1)), none], [.long (zJ (-9223372036854775808))], [r0, r1, r2, r3, r4, r5, r6, r7, r8, r9])) rfl ?_
      obtain rfl := Option.some.inj H
      exact xB.ret oX11_inLeastTerms (r1 := some (.long (zJ (-9223372036854775808)))) rfl rfl rfl
def d_X11_wholeRoot_6 (sq : Int) : Nat → Int → Int → Option (Int × Int)
  | 0, _, _ => none
  | uN + 1, rt, bit => if (zr bit) then (if bit < 0 then some (rt, bit) else (if (0 ≤ bit ∧ bit < 64) then (if (zrl ((rt + ((2 : Int) ^ bit.toNat)) * (rt + ((2 : Int) ^ bit.toNat))) ∧ zrl sq) then (if sq < ((rt + ((2 : Int) ^ bit.toNat)) * (rt + ((2 : Int) ^ bit.toNat))) then (d_X11_wholeRoot_6 sq uN rt (bit + (-1))) else (d_X11_wholeRoot_6 sq uN (rt + ((2 : Int) ^ bit.toNat)) (bit + (-1)))) else none) else none)) else none
def d_X11_wholeRoot (sq : Int) : Option (Int) := (d_X11_wholeRoot_6 sq zF 0 30).bind fun y6 => some y6.1
set_option maxRecDepth 20000 in
theorem l_X11_wholeRoot_6 (r0 : List va_E) (r1 : List va_E) (r2 : List va_E) (r3 : List va_E) (r4 : List va_E) (r5 : List va_E) (r6 : List va_E) (r7 : List va_E) (r8 : List va_E) (r9 : List va_E) (sq : Int) {r : Option Value} {hp1 : xH} : ∀ (uN : Nat) (rt : Int) (bit : Int) {uX : Int × Int}, d_X11_wholeRoot_6 sq uN rt bit = some uX → (xBody MX11_wholeRoot 0 38 [some (.long (zJ sq)), none, some (.long (zJ uX.1)), none, some (.int (zI uX.2)), none, none] [] ([r0, r1, r2, r3, r4, r5, r6, r7, r8, r9]) r hp1) → xBody MX11_wholeRoot 0 6 [some (.long (zJ sq)), none, some (.long (zJ rt)), none, some (.int (zI bit)), none, none] [] ([r0, r1, r2, r3, r4, r5, r6, r7, r8, r9]) r hp1 := by
  intro uN
  induction uN with
  | zero => intro rt bit uX H K; cases H
  | succ uN ih =>
    intro rt bit uX H K
    unfold d_X11_wholeRoot_6 at H
    refine xB.run oX11_wholeRoot 1 (s := (8, [some (.long (zJ sq)), none, some (.long (zJ rt)), none, some (.int (zI bit)), none, none], [.int (zI bit)], [r0, r1, r2, r3, r4, r5, r6, r7, r8, r9])) rfl ?_
    obtain ⟨g5, H⟩ := zgd H
    have H := zif H
    refine xB.brE oX11_wholeRoot (P := bit < 0) rfl (zc_lt (a := bit) (b := 0) ⟨g5, by decide⟩) (fun h1 => ?_) (fun h1 => ?_)
    · have H := H.1 h1
      obtain rfl := Option.some.inj H
      exact K
    · have H := H.2 h1
      refine xB.run oX11_wholeRoot 3 (s := (15, [some (.long (zJ sq)), none, some (.long (zJ rt)), none, some (.int (zI bit)), none, none], [.int (zI bit), .long (zJ 1), .long (zJ rt)], [r0, r1, r2, r3, r4, r5, r6, r7, r8, r9])) rfl ?_
      obtain ⟨g4, H⟩ := zgd H
      refine zB.opl oX11_wholeRoot rfl (zj_shl1 (c := bit) g4) ?_
      refine zB.opl oX11_wholeRoot rfl (zj_add rt ((2 : Int) ^ bit.toNat)) ?_
      refine xB.run oX11_wholeRoot 3 (s := (23, [some (.long (zJ sq)), none, some (.long (zJ rt)), none, some (.int (zI bit)), some (.long (zJ (rt + ((2 : Int) ^ bit.toNat)))), none], [.long (zJ (rt + ((2 : Int) ^ bit.toNat))), .long (zJ (rt + ((2 : Int) ^ bit.toNat)))], [r0, r1, r2, r3, r4, r5, r6, r7, r8, r9])) rfl ?_
      refine zB.opl oX11_wholeRoot rfl (zj_mul (rt + ((2 : Int) ^ bit.toNat)) (rt + ((2 : Int) ^ bit.toNat))) ?_
      refine xB.run oX11_wholeRoot 2 (s := (26, [some (.long (zJ sq)), none, some (.long (zJ rt)), none, some (.int (zI bit)), some (.long (zJ (rt + ((2 : Int) ^ bit.toNat)))), none], [.int (lg_cmp (zJ ((rt + ((2 : Int) ^ bit.toNat)) * (rt + ((2 : Int) ^ bit.toNat)))) (zJ sq))], [r0, r1, r2, r3, r4, r5, r6, r7, r8, r9])) rfl ?_
      obtain ⟨g3, H⟩ := zgd H
      have H := zif H
      refine xB.brE oX11_wholeRoot (P := sq < ((rt + ((2 : Int) ^ bit.toNat)) * (rt + ((2 : Int) ^ bit.toNat)))) rfl (zl_gt (a := (rt + ((2 : Int) ^ bit.toNat)) * (rt + ((2 : Int) ^ bit.toNat))) (b := sq) g3) (fun h2 => ?_) (fun h2 => ?_)
      · have H := H.1 h2
        refine zB.inc oX11_wholeRoot rfl (lv2 := [some (.long (zJ sq)), none, some (.long (zJ rt)), none, some (.int (zI (bit + (-1)))), some (.long (zJ (rt + ((2 : Int) ^ bit.toNat)))), none]) (zi_inc (a := 0) (zi_addm1 bit) _ rfl) ?_
        refine xB.run oX11_wholeRoot 1 (s := (6, [some (.long (zJ sq)), none, some (.long (zJ rt)), none, some (.int (zI (bit + (-1)))), some (.long (zJ (rt + ((2 : Int) ^ bit.toNat)))), none], [], [r0, r1, r2, r3, r4, r5, r6, r7, r8, r9])) rfl ?_
        refine xB.forget (lv1 := [some (.long (zJ sq)), none, some (.long (zJ rt)), none, some (.int (zI (bit + (-1)))), none, none]) (xle_same (xle_same (xle_same (xle_same (xle_same (xle_none (xle_same (xle_nil)))))))) ?_
        exact ih rt (bit + (-1)) H K
      · have H := H.2 h2
        refine xB.run oX11_wholeRoot 2 (s := (32, [some (.long (zJ sq)), none, some (.long (zJ (rt + ((2 : Int) ^ bit.toNat)))), none, some (.int (zI bit)), some (.long (zJ (rt + ((2 : Int) ^ bit.toNat)))), none], [], [r0, r1, r2, r3, r4, r5, r6, r7, r8, r9])) rfl ?_
        refine zB.inc oX11_wholeRoot rfl (lv2 := [some (.long (zJ sq)), none, some (.long (zJ (rt + ((2 : Int) ^ bit.toNat)))), none, some (.int (zI (bit + (-1)))), some (.long (zJ (rt + ((2 : Int) ^ bit.toNat)))), none]) (zi_inc (a := 0) (zi_addm1 bit) _ rfl) ?_
        refine xB.run oX11_wholeRoot 1 (s := (6, [some (.long (zJ sq)), none, some (.long (zJ (rt + ((2 : Int) ^ bit.toNat)))), none, some (.int (zI (bit + (-1)))), some (.long (zJ (rt + ((2 : Int) ^ bit.toNat)))), none], [], [r0, r1, r2, r3, r4, r5, r6, r7, r8, r9])) rfl ?_
        refine xB.forget (lv1 := [some (.long (zJ sq)), none, some (.long (zJ (rt + ((2 : Int) ^ bit.toNat)))), none, some (.int (zI (bit + (-1)))), none, none]) (xle_same (xle_same (xle_same (xle_same (xle_same (xle_none (xle_same (xle_nil)))))))) ?_
        exact ih (rt + ((2 : Int) ^ bit.toNat)) (bit + (-1)) H K
set_option maxRecDepth 20000 in
theorem t_X11_wholeRoot (r0 : List va_E) (r1 : List va_E) (r2 : List va_E) (r3 : List va_E) (r4 : List va_E) (r5 : List va_E) (r6 : List va_E) (r7 : List va_E) (r8 : List va_E) (r9 : List va_E) (sq : Int) {rr : Int} (H : d_X11_wholeRoot sq = some rr) : xC MX11_wholeRoot 0 [.long (zJ sq)] ([r0, r1, r2, r3, r4, r5, r6, r7, r8, r9]) (some (.long (zJ rr))) ([r0, r1, r2, r3, r4, r5, r6, r7, r8, r9]) := by
  refine ⟨Nat.le_of_ble_eq_true rfl, ?_⟩
  show xBody MX11_wholeRoot 0 0 [some (.long (zJ sq)), none, none, none, none, none, none] [] ([r0, r1, r2, r3, r4, r5, r6, r7, r8, r9]) _ _
  unfold d_X11_wholeRoot at H
  refine xB.run oX11_wholeRoot 4 (s := (6, [some (.long (zJ sq)), none, some (.long (zJ 0)), none, some (.int (zI 30)), none, none], [], [r0, r1, r2, r3, r4, r5, r6, r7, r8, r9])) rfl ?_
  obtain ⟨y6, e7, H⟩ := zbd H
  refine l_X11_wholeRoot_6 r0 r1 r2 r3 r4 r5 r6 r7 r8 r9 sq _ 0 30 e7 ?_
  refine xB.run oX11_wholeRoot 1 (s := (39, [some (.long (zJ sq)), none, some (.long (zJ y6.1)), none, some (.int (zI y6.2)), none, none], [.long (zJ y6.1)], [r0, r1, r2, r3, r4, r5, r6, r7, r8, r9])) rfl ?_
  obtain rfl := Option.some.inj H
  exact xB.ret oX11_wholeRoot (r1 := some (.long (zJ y6.1))) rfl rfl rfl
def d_X4_isPlace (x : Int) : Option (Int) := if (zr x) then (if x < 0 then some 0 else (if (zr x) then (if (5 : Int) < x then some 0 else some 1) else none)) else none
set_option maxRecDepth 20000 in
theorem t_X4_isPlace (r0 : List va_E) (r1 : List va_E) (r2 : List va_E) (r3 : List va_E) (r4 : List va_E) (r5 : List va_E) (r6 : List va_E) (r7 : List va_E) (r8 : List va_E) (r9 : List va_E) (x : Int) {rr : Int} (H : d_X4_isPlace x = some rr) : xC MX4_isPlace 0 [.int (zI x)] ([r0, r1, r2, r3, r4, r5, r6, r7, r8, r9]) (some (.int (zI rr))) ([r0, r1, r2, r3, r4, r5, r6, r7, r8, r9]) := by
  refine ⟨Nat.le_of_ble_eq_true rfl, ?_⟩
  show xBody MX4_isPlace 0 0 [some (.int (zI x))] [] ([r0, r1, r2, r3, r4, r5, r6, r7, r8, r9]) _ _
  unfold d_X4_isPlace at H
  refine xB.run oX4_isPlace 1 (s := (1, [some (.int (zI x))], [.int (zI x)], [r0, r1, r2, r3, r4, r5, r6, r7, r8, r9])) rfl ?_
  obtain ⟨g4, H⟩ := zgd H
  have H := zif H
  refine xB.brE oX4_isPlace (P := x < 0) rfl (zc_lt (a := x) (b := 0) ⟨g4, by decide⟩) (fun h1 => ?_) (fun h1 => ?_)
  · have H := H.1 h1
    refine xB.run oX4_isPlace 1 (s := (14, [some (.int (zI x))], [.int (zI 0)], [r0, r1, r2, r3, r4, r5, r6, r7, r8, r9])) rfl ?_
    obtain rfl := Option.some.inj H
    exact xB.ret oX4_isPlace (r1 := some (.int (zI 0))) rfl rfl rfl
  · have H := H.2 h1
    refine xB.run oX4_isPlace 2 (s := (6, [some (.int (zI x))], [.int (zI 5), .int (zI x)], [r0, r1, r2, r3, r4, r5, r6, r7, r8, r9])) rfl ?_
    obtain ⟨g3, H⟩ := zgd H
    have H := zif H
    refine xB.brE oX4_isPlace (P := (5 : Int) < x) rfl (zc_gt (a := x) (b := 5) ⟨g3, by decide⟩) (fun h2 => ?_) (fun h2 => ?_)
    · have H := H.1 h2
      refine xB.run oX4_isPlace 1 (s := (14, [some (.int (zI x))], [.int (zI 0)], [r0, r1, r2, r3, r4, r5, r6, r7, r8, r9])) rfl ?_
      obtain rfl := Option.some.inj H
      exact xB.ret oX4_isPlace (r1 := some (.int (zI 0))) rfl rfl rfl
    · have H := H.2 h2
      refine xB.run oX4_isPlace 2 (s := (14, [some (.int (zI x))], [.int (zI 1)], [r0, r1, r2, r3, r4, r5, r6, r7, r8, r9])) rfl ?_
      obtain rfl := Option.some.inj H
      exact xB.ret oX4_isPlace (r1 := some (.int (zI 1))) rfl rfl rfl
def d_X4_isKind (x : Int) : Option (Int) := if (zr x) then (if x < 0 then some 0 else (if (zr x) then (if (2 : Int) < x then some 0 else some 1) else none)) else none
set_option maxRecDepth 20000 in
theorem t_X4_isKind (r0 : List va_E) (r1 : List va_E) (r2 : List va_E) (r3 : List va_E) (r4 : List va_E) (r5 : List va_E) (r6 : List va_E) (r7 : List va_E) (r8 : List va_E) (r9 : List va_E) (x : Int) {rr : Int} (H : d_X4_isKind x = some rr) : xC MX4_isKind 0 [.int (zI x)] ([r0, r1, r2, r3, r4, r5, r6, r7, r8, r9]) (some (.int (zI rr))) ([r0, r1, r2, r3, r4, r5, r6, r7, r8, r9]) := by
  refine ⟨Nat.le_of_ble_eq_true rfl, ?_⟩
  show xBody MX4_isKind 0 0 [some (.int (zI x))] [] ([r0, r1, r2, r3, r4, r5, r6, r7, r8, r9]) _ _
  unfold d_X4_isKind at H
  refine xB.run oX4_isKind 1 (s := (1, [some (.int (zI x))], [.int (zI x)], [r0, r1, r2, r3, r4, r5, r6, r7, r8, r9])) rfl ?_
  obtain ⟨g4, H⟩ := zgd H
  have H := zif H
  refine xB.brE oX4_isKind (P := x < 0) rfl (zc_lt (a := x) (b := 0) ⟨g4, by decide⟩) (fun h1 => ?_) (fun h1 => ?_)
  · have H := H.1 h1
    refine xB.run oX4_isKind 1 (s := (14, [some (.int (zI x))], [.int (zI 0)], [r0, r1, r2, r3, r4, r5, r6, r7, r8, r9])) rfl ?_
    obtain rfl := Option.some.inj H
    exact xB.ret oX4_isKind (r1 := some (.int (zI 0))) rfl rfl rfl
  · have H := H.2 h1
    refine xB.run oX4_isKind 2 (s := (6, [some (.int (zI x))], [.int (zI 2), .int (zI x)], [r0, r1, r2, r3, r4, r5, r6, r7, r8, r9])) rfl ?_
    obtain ⟨g3, H⟩ := zgd H
    have H := zif H
    refine xB.brE oX4_isKind (P := (2 : Int) < x) rfl (zc_gt (a := x) (b := 2) ⟨g3, by decide⟩) (fun h2 => ?_) (fun h2 => ?_)
    · have H := H.1 h2
      refine xB.run oX4_isKind 1 (s := (14, [some (.int (zI x))], [.int (zI 0)], [r0, r1, r2, r3, r4, r5, r6, r7, r8, r9])) rfl ?_
      obtain rfl := Option.some.inj H
      exact xB.ret oX4_isKind (r1 := some (.int (zI 0))) rfl rfl rfl
    · have H := H.2 h2
      refine xB.run oX4_isKind 2 (s := (14, [some (.int (zI x))], [.int (zI 1)], [r0, r1, r2, r3, r4, r5, r6, r7, r8, r9])) rfl ?_
      obtain rfl := Option.some.inj H
      exact xB.ret oX4_isKind (r1 := some (.int (zI 1))) rfl rfl rfl
def d_X4_isCase (x : Int) : Option (Int) := if (zr x) then (if x < 0 then some 0 else (if (zr x) then (if (6 : Int) ≤ x then some 0 else some 1) else none)) else none
set_option maxRecDepth 20000 in
theorem t_X4_isCase (r0 : List va_E) (r1 : List va_E) (r2 : List va_E) (r3 : List va_E) (r4 : List va_E) (r5 : List va_E) (r6 : List va_E) (r7 : List va_E) (r8 : List va_E) (r9 : List va_E) (x : Int) {rr : Int} (H : d_X4_isCase x = some rr) : xC MX4_isCase 0 [.int (zI x)] ([r0, r1, r2, r3, r4, r5, r6, r7, r8, r9]) (some (.int (zI rr))) ([r0, r1, r2, r3, r4, r5, r6, r7, r8, r9]) := by
  refine ⟨Nat.le_of_ble_eq_true rfl, ?_⟩
  show xBody MX4_isCase 0 0 [some (.int (zI x))] [] ([r0, r1, r2, r3, r4, r5, r6, r7, r8, r9]) _ _
  unfold d_X4_isCase at H
  refine xB.run oX4_isCase 1 (s := (1, [some (.int (zI x))], [.int (zI x)], [r0, r1, r2, r3, r4, r5, r6, r7, r8, r9])) rfl ?_
  obtain ⟨g4, H⟩ := zgd H
  have H := zif H
  refine xB.brE oX4_isCase (P := x < 0) rfl (zc_lt (a := x) (b := 0) ⟨g4, by decide⟩) (fun h1 => ?_) (fun h1 => ?_)
  · have H := H.1 h1
    refine xB.run oX4_isCase 1 (s := (15, [some (.int (zI x))], [.int (zI 0)], [r0, r1, r2, r3, r4, r5, r6, r7, r8, r9])) rfl ?_
    obtain rfl := Option.some.inj H
    exact xB.ret oX4_isCase (r1 := some (.int (zI 0))) rfl rfl rfl
  · have H := H.2 h1
    refine xB.run oX4_isCase 2 (s := (7, [some (.int (zI x))], [.int (zI 6), .int (zI x)], [r0, r1, r2, r3, r4, r5, r6, r7, r8, r9])) rfl ?_
    obtain ⟨g3, H⟩ := zgd H
    have H := zif H
    refine xB.brE oX4_isCase (P := (6 : Int) ≤ x) rfl (zc_ge (a := x) (b := 6) ⟨g3, by decide⟩) (fun h2 => ?_) (fun h2 => ?_)
    · have H := H.1 h2
      refine xB.run oX4_isCase 1 (s := (15, [some (.int (zI x))], [.int (zI 0)], [r0, r1, r2, r3, r4, r5, r6, r7, r8, r9])) rfl ?_
      obtain rfl := Option.some.inj H
      exact xB.ret oX4_isCase (r1 := some (.int (zI 0))) rfl rfl rfl
    · have H := H.2 h2
      refine xB.run oX4_isCase 2 (s := (15, [some (.int (zI x))], [.int (zI 1)], [r0, r1, r2, r3, r4, r5, r6, r7, r8, r9])) rfl ?_
      obtain rfl := Option.some.inj H
      exact xB.ret oX4_isCase (r1 := some (.int (zI 1))) rfl rfl rfl
def d_X4_isLoad (x : Int) : Option (Int) := if (zr x) then (if x < (-30) then some 0 else (if (zr x) then (if (30 : Int) < x then some 0 else some 1) else none)) else none
set_option maxRecDepth 20000 in
theorem t_X4_isLoad (r0 : List va_E) (r1 : List va_E) (r2 : List va_E) (r3 : List va_E) (r4 : List va_E) (r5 : List va_E) (r6 : List va_E) (r7 : List va_E) (r8 : List va_E) (r9 : List va_E) (x : Int) {rr : Int} (H : d_X4_isLoad x = some rr) : xC MX4_isLoad 0 [.int (zI x)] ([r0, r1, r2, r3, r4, r5, r6, r7, r8, r9]) (some (.int (zI rr))) ([r0, r1, r2, r3, r4, r5, r6, r7, r8, r9]) := by
  refine ⟨Nat.le_of_ble_eq_true rfl, ?_⟩
  show xBody MX4_isLoad 0 0 [some (.int (zI x))] [] ([r0, r1, r2, r3, r4, r5, r6, r7, r8, r9]) _ _
  unfold d_X4_isLoad at H
  refine xB.run oX4_isLoad 2 (s := (3, [some (.int (zI x))], [.int (zI (-30)), .int (zI x)], [r0, r1, r2, r3, r4, r5, r6, r7, r8, r9])) rfl ?_
  obtain ⟨g4, H⟩ := zgd H
  have H := zif H
  refine xB.brE oX4_isLoad (P := x < (-30)) rfl (zc_lt (a := x) (b := (-30)) ⟨g4, by decide⟩) (fun h1 => ?_) (fun h1 => ?_)
  · have H := H.1 h1
    refine xB.run oX4_isLoad 1 (s := (17, [some (.int (zI x))], [.int (zI 0)], [r0, r1, r2, r3, r4, r5, r6, r7, r8, r9])) rfl ?_
    obtain rfl := Option.some.inj H
    exact xB.ret oX4_isLoad (r1 := some (.int (zI 0))) rfl rfl rfl
  · have H := H.2 h1
    refine xB.run oX4_isLoad 2 (s := (9, [some (.int (zI x))], [.int (zI 30), .int (zI x)], [r0, r1, r2, r3, r4, r5, r6, r7, r8, r9])) rfl ?_
    obtain ⟨g3, H⟩ := zgd H
    have H := zif H
    refine xB.brE oX4_isLoad (P := (30 : Int) < x) rfl (zc_gt (a := x) (b := 30) ⟨g3, by decide⟩) (fun h2 => ?_) (fun h2 => ?_)
    · have H := H.1 h2
      refine xB.run oX4_isLoad 1 (s := (17, [some (.int (zI x))], [.int (zI 0)], [r0, r1, r2, r3, r4, r5, r6, r7, r8, r9])) rfl ?_
      obtain rfl := Option.some.inj H
      exact xB.ret oX4_isLoad (r1 := some (.int (zI 0))) rfl rfl rfl
    · have H := H.2 h2
      refine xB.run oX4_isLoad 2 (s := (17, [some (.int (zI x))], [.int (zI 1)], [r0, r1, r2, r3, r4, r5, r6, r7, r8, r9])) rfl ?_
      obtain rfl := Option.some.inj H
      exact xB.ret oX4_isLoad (r1 := some (.int (zI 1))) rfl rfl rfl
def d_X5_isShare (a : Int) (b : Int) : Option (Int) := if (zr a) then (if a < 0 then some 0 else (if (zr a) then (if (999 : Int) < a then some 0 else (if (zr b) then (if b < 1 then some 0 else (if (zr b) then (if (99 : Int) < b then some 0 else some 1) else none)) else none)) else none)) else none
set_option maxRecDepth 20000 in
theorem t_X5_isShare (r0 : List va_E) (r1 : List va_E) (r2 : List va_E) (r3 : List va_E) (r4 : List va_E) (r5 : List va_E) (r6 : List va_E) (r7 : List va_E) (r8 : List va_E) (r9 : List va_E) (a : Int) (b : Int) {rr : Int} (H : d_X5_isShare a b = some rr) : xC MX5_isShare 0 [.int (zI a), .int (zI b)] ([r0, r1, r2, r3, r4, r5, r6, r7, r8, r9]) (some (.int (zI rr))) ([r0, r1, r2, r3, r4, r5, r6, r7, r8, r9]) := by
  refine ⟨Nat.le_of_ble_eq_true rfl, ?_⟩
  show xBody MX5_isShare 0 0 [some (.int (zI a)), some (.int (zI b))] [] ([r0, r1, r2, r3, r4, r5, r6, r7, r8, r9]) _ _
  unfold d_X5_isShare at H
  refine xB.run oX5_isShare 1 (s := (1, [some (.int (zI a)), some (.int (zI b))], [.int (zI a)], [r0, r1, r2, r3, r4, r5, r6, r7, r8, r9])) rfl ?_
  obtain ⟨g8, H⟩ := zgd H
  have H := zif H
  refine xB.brE oX5_isShare (P := a < 0) rfl (zc_lt (a := a) (b := 0) ⟨g8, by decide⟩) (fun h1 => ?_) (fun h1 => ?_)
  · have H := H.1 h1
    refine xB.run oX5_isShare 1 (s := (27, [some (.int (zI a)), some (.int (zI b))], [.int (zI 0)], [r0, r1, r2, r3, r4, r5, r6, r7, r8, r9])) rfl ?_
    obtain rfl := Option.some.inj H
    exact xB.ret oX5_isShare (r1 := some (.int (zI 0))) rfl rfl rfl
  · have H := H.2 h1
    refine xB.run oX5_isShare 2 (s := (8, [some (.int (zI a)), some (.int (zI b))], [.int (zI 999), .int (zI a)], [r0, r1, r2, r3, r4, r5, r6, r7, r8, r9])) rfl ?_
    obtain ⟨g7, H⟩ := zgd H
    have H := zif H
    refine xB.brE oX5_isShare (P := (999 : Int) < a) rfl (zc_gt (a := a) (b := 999) ⟨g7, by decide⟩) (fun h2 => ?_) (fun h2 => ?_)
    · have H := H.1 h2
      refine xB.run oX5_isShare 1 (s := (27, [some (.int (zI a)), some (.int (zI b))], [.int (zI 0)], [r0, r1, r2, r3, r4, r5, r6, r7, r8, r9])) rfl ?_
      obtain rfl := Option.some.inj H
      exact xB.ret oX5_isShare (r1 := some (.int (zI 0))) rfl rfl rfl
    · have H := H.2 h2
      refine xB.run oX5_isShare 2 (s := (13, [some (.int (zI a)), some (.int (zI b))], [.int (zI 1), .int (zI b)], [r0, r1, r2, r3, r4, r5, r6, r7, r8, r9])) rfl ?_
      obtain ⟨g6, H⟩ := zgd H
      have H := zif H
      refine xB.brE oX5_isShare (P := b < 1) rfl (zc_lt (a := b) (b := 1) ⟨g6, by decide⟩) (fun h3 => ?_) (fun h3 => ?_)
      · have H := H.1 h3
        refine xB.run oX5_isShare 1 (s := (27, [some (.int (zI a)), some (.int (zI b))], [.int (zI 0)], [r0, r1, r2, r3, r4, r5, r6, r7, r8, r9])) rfl ?_
        obtain rfl := Option.some.inj H
        exact xB.ret oX5_isShare (r1 := some (.int (zI 0))) rfl rfl rfl
      · have H := H.2 h3
        refine xB.run oX5_isShare 2 (s := (19, [some (.int (zI a)), some (.int (zI b))], [.int (zI 99), .int (zI b)], [r0, r1, r2, r3, r4, r5, r6, r7, r8, r9])) rfl ?_
        obtain ⟨g5, H⟩ := zgd H
        have H := zif H
        refine xB.brE oX5_isShare (P := (99 : Int) < b) rfl (zc_gt (a := b) (b := 99) ⟨g5, by decide⟩) (fun h4 => ?_) (fun h4 => ?_)
        · have H := H.1 h4
          refine xB.run oX5_isShare 1 (s := (27, [some (.int (zI a)), some (.int (zI b))], [.int (zI 0)], [r0, r1, r2, r3, r4, r5, r6, r7, r8, r9])) rfl ?_
          obtain rfl := Option.some.inj H
          exact xB.ret oX5_isShare (r1 := some (.int (zI 0))) rfl rfl rfl
        · have H := H.2 h4
          refine xB.run oX5_isShare 2 (s := (27, [some (.int (zI a)), some (.int (zI b))], [.int (zI 1)], [r0, r1, r2, r3, r4, r5, r6, r7, r8, r9])) rfl ?_
          obtain rfl := Option.some.inj H
          exact xB.ret oX5_isShare (r1 := some (.int (zI 1))) rfl rfl rfl
def d_X8_isPiece (x : Int) (y : Int) : Option (Int) := if (zr x) then (if x < 0 then some 0 else (if (zr x) then (if (10 : Int) ≤ x then some 0 else (if (zr y) then (if y < 0 then some 0 else (if (zr y) then (if (10 : Int) ≤ y then some 0 else some 1) else none)) else none)) else none)) else none
set_option maxRecDepth 20000 in
theorem t_X8_isPiece (r0 : List va_E) (r1 : List va_E) (r2 : List va_E) (r3 : List va_E) (r4 : List va_E) (r5 : List va_E) (r6 : List va_E) (r7 : List va_E) (r8 : List va_E) (r9 : List va_E) (x : Int) (y : Int) {rr : Int} (H : d_X8_isPiece x y = some rr) : xC MX8_isPiece 0 [.int (zI x), .int (zI y)] ([r0, r1, r2, r3, r4, r5, r6, r7, r8, r9]) (some (.int (zI rr))) ([r0, r1, r2, r3, r4, r5, r6, r7, r8, r9]) := by
  refine ⟨Nat.le_of_ble_eq_true rfl, ?_⟩
  show xBody MX8_isPiece 0 0 [some (.int (zI x)), some (.int (zI y))] [] ([r0, r1, r2, r3, r4, r5, r6, r7, r8, r9]) _ _
  unfold d_X8_isPiece at H
  refine xB.run oX8_isPiece 1 (s := (1, [some (.int (zI x)), some (.int (zI y))], [.int (zI x)], [r0, r1, r2, r3, r4, r5, r6, r7, r8, r9])) rfl ?_
  obtain ⟨g8, H⟩ := zgd H
  have H := zif H
  refine xB.brE oX8_isPiece (P := x < 0) rfl (zc_lt (a := x) (b := 0) ⟨g8, by decide⟩) (fun h1 => ?_) (fun h1 => ?_)
  · have H := H.1 h1
    refine xB.run oX8_isPiece 1 (s := (25, [some (.int (zI x)), some (.int (zI y))], [.int (zI 0)], [r0, r1, r2, r3, r4, r5, r6, r7, r8, r9])) rfl ?_
    obtain rfl := Option.some.inj H
    exact xB.ret oX8_isPiece (r1 := some (.int (zI 0))) rfl rfl rfl
  · have H := H.2 h1
    refine xB.run oX8_isPiece 2 (s := (7, [some (.int (zI x)), some (.int (zI y))], [.int (zI 10), .int (zI x)], [r0, r1, r2, r3, r4, r5, r6, r7, r8, r9])) rfl ?_
    obtain ⟨g7, H⟩ := zgd H
    have H := zif H
    refine xB.brE oX8_isPiece (P := (10 : Int) ≤ x) rfl (zc_ge (a := x) (b := 10) ⟨g7, by decide⟩) (fun h2 => ?_) (fun h2 => ?_)
    · have H := H.1 h2
      refine xB.run oX8_isPiece 1 (s := (25, [some (.int (zI x)), some (.int (zI y))], [.int (zI 0)], [r0, r1, r2, r3, r4, r5, r6, r7, r8, r9])) rfl ?_
      obtain rfl := Option.some.inj H
      exact xB.ret oX8_isPiece (r1 := some (.int (zI 0))) rfl rfl rfl
    · have H := H.2 h2
      refine xB.run oX8_isPiece 1 (s := (11, [some (.int (zI x)), some (.int (zI y))], [.int (zI y)], [r0, r1, r2, r3, r4, r5, r6, r7, r8, r9])) rfl ?_
      obtain ⟨g6, H⟩ := zgd H
      have H := zif H
      refine xB.brE oX8_isPiece (P := y < 0) rfl (zc_lt (a := y) (b := 0) ⟨g6, by decide⟩) (fun h3 => ?_) (fun h3 => ?_)
      · have H := H.1 h3
        refine xB.run oX8_isPiece 1 (s := (25, [some (.int (zI x)), some (.int (zI y))], [.int (zI 0)], [r0, r1, r2, r3, r4, r5, r6, r7, r8, r9])) rfl ?_
        obtain rfl := Option.some.inj H
        exact xB.ret oX8_isPiece (r1 := some (.int (zI 0))) rfl rfl rfl
      · have H := H.2 h3
        refine xB.run oX8_isPiece 2 (s := (17, [some (.int (zI x)), some (.int (zI y))], [.int (zI 10), .int (zI y)], [r0, r1, r2, r3, r4, r5, r6, r7, r8, r9])) rfl ?_
        obtain ⟨g5, H⟩ := zgd H
        have H := zif H
        refine xB.brE oX8_isPiece (P := (10 : Int) ≤ y) rfl (zc_ge (a := y) (b := 10) ⟨g5, by decide⟩) (fun h4 => ?_) (fun h4 => ?_)
        · have H := H.1 h4
          refine xB.run oX8_isPiece 1 (s := (25, [some (.int (zI x)), some (.int (zI y))], [.int (zI 0)], [r0, r1, r2, r3, r4, r5, r6, r7, r8, r9])) rfl ?_
          obtain rfl := Option.some.inj H
          exact xB.ret oX8_isPiece (r1 := some (.int (zI 0))) rfl rfl rfl
        · have H := H.2 h4
          refine xB.run oX8_isPiece 2 (s := (25, [some (.int (zI x)), some (.int (zI y))], [.int (zI 1)], [r0, r1, r2, r3, r4, r5, r6, r7, r8, r9])) rfl ?_
          obtain rfl := Option.some.inj H
          exact xB.ret oX8_isPiece (r1 := some (.int (zI 1))) rfl rfl rfl
def d_X8_isAtRim (x : Int) : Option (Int) := if (zr x) then (if x = 0 then some 1 else (if (zr x) then (if x ≠ 9 then some 0 else some 1) else none)) else none
set_option maxRecDepth 20000 in
theorem t_X8_isAtRim (r0 : List va_E) (r1 : List va_E) (r2 : List va_E) (r3 : List va_E) (r4 : List va_E) (r5 : List va_E) (r6 : List va_E) (r7 : List va_E) (r8 : List va_E) (r9 : List va_E) (x : Int) {rr : Int} (H : d_X8_isAtRim x = some rr) : xC MX8_isAtRim 0 [.int (zI x)] ([r0, r1, r2, r3, r4, r5, r6, r7, r8, r9]) (some (.int (zI rr))) ([r0, r1, r2, r3, r4, r5, r6, r7, r8, r9]) := by
  refine ⟨Nat.le_of_ble_eq_true rfl, ?_⟩
  show xBody MX8_isAtRim 0 0 [some (.int (zI x))] [] ([r0, r1, r2, r3, r4, r5, r6, r7, r8, r9]) _ _
  unfold d_X8_isAtRim at H
  refine xB.run oX8_isAtRim 1 (s := (1, [some (.int (zI x))], [.int (zI x)], [r0, r1, r2, r3, r4, r5, r6, r7, r8, r9])) rfl ?_
  obtain ⟨g4, H⟩ := zgd H
  have H := zif H
  refine xB.brE oX8_isAtRim (P := x = 0) rfl (zc_eq (a := x) (b := 0) ⟨g4, by decide⟩) (fun h1 => ?_) (fun h1 => ?_)
  · have H := H.1 h1
    refine xB.run oX8_isAtRim 2 (s := (15, [some (.int (zI x))], [.int (zI 1)], [r0, r1, r2, r3, r4, r5, r6, r7, r8, r9])) rfl ?_
    obtain rfl := Option.some.inj H
    exact xB.ret oX8_isAtRim (r1 := some (.int (zI 1))) rfl rfl rfl
  · have H := H.2 h1
    refine xB.run oX8_isAtRim 2 (s := (7, [some (.int (zI x))], [.int (zI 9), .int (zI x)], [r0, r1, r2, r3, r4, r5, r6, r7, r8, r9])) rfl ?_
    obtain ⟨g3, H⟩ := zgd H
    have H := zif H
    refine xB.brE oX8_isAtRim (P := x ≠ 9) rfl (zc_ne (a := x) (b := 9) ⟨g3, by decide⟩) (fun h2 => ?_) (fun h2 => ?_)
    · have H := H.1 h2
      refine xB.run oX8_isAtRim 1 (s := (15, [some (.int (zI x))], [.int (zI 0)], [r0, r1, r2, r3, r4, r5, r6, r7, r8, r9])) rfl ?_
      obtain rfl := Option.some.inj H
      exact xB.ret oX8_isAtRim (r1 := some (.int (zI 0))) rfl rfl rfl
    · have H := H.2 h2
      refine xB.run oX8_isAtRim 2 (s := (15, [some (.int (zI x))], [.int (zI 1)], [r0, r1, r2, r3, r4, r5, r6, r7, r8, r9])) rfl ?_
      obtain rfl := Option.some.inj H
      exact xB.ret oX8_isAtRim (r1 := some (.int (zI 1))) rfl rfl rfl
def d_X6_isSheet (k : Int) : Option (Int) := if (zr k) then (if k < 0 then some 0 else (if (zr k) then (if (4 : Int) ≤ k then some 0 else some 1) else none)) else none
set_option maxRecDepth 20000 in
theorem t_X6_isSheet (r0 : List va_E) (r1 : List va_E) (r2 : List va_E) (r3 : List va_E) (r4 : List va_E) (r5 : List va_E) (r6 : List va_E) (r7 : List va_E) (r8 : List va_E) (r9 : List va_E) (k : Int) {rr : Int} (H : d_X6_isSheet k = some rr) : xC MX6_isSheet 0 [.int (zI k)] ([r0, r1, r2, r3, r4, r5, r6, r7, r8, r9]) (some (.int (zI rr))) ([r0, r1, r2, r3, r4, r5, r6, r7, r8, r9]) := by
  refine ⟨Nat.le_of_ble_eq_true rfl, ?_⟩
  show xBody MX6_isSheet 0 0 [some (.int (zI k))] [] ([r0, r1, r2, r3, r4, r5, r6, r7, r8, r9]) _ _
  unfold d_X6_isSheet at H
  refine xB.run oX6_isSheet 1 (s := (1, [some (.int (zI k))], [.int (zI k)], [r0, r1, r2, r3, r4, r5, r6, r7, r8, r9])) rfl ?_
  obtain ⟨g4, H⟩ := zgd H
  have H := zif H
  refine xB.brE oX6_isSheet (P := k < 0) rfl (zc_lt (a := k) (b := 0) ⟨g4, by decide⟩) (fun h1 => ?_) (fun h1 => ?_)
  · have H := H.1 h1
    refine xB.run oX6_isSheet 1 (s := (14, [some (.int (zI k))], [.int (zI 0)], [r0, r1, r2, r3, r4, r5, r6, r7, r8, r9])) rfl ?_
    obtain rfl := Option.some.inj H
    exact xB.ret oX6_isSheet (r1 := some (.int (zI 0))) rfl rfl rfl
  · have H := H.2 h1
    refine xB.run oX6_isSheet 2 (s := (6, [some (.int (zI k))], [.int (zI 4), .int (zI k)], [r0, r1, r2, r3, r4, r5, r6, r7, r8, r9])) rfl ?_
    obtain ⟨g3, H⟩ := zgd H
    have H := zif H
    refine xB.brE oX6_isSheet (P := (4 : Int) ≤ k) rfl (zc_ge (a := k) (b := 4) ⟨g3, by decide⟩) (fun h2 => ?_) (fun h2 => ?_)
    · have H := H.1 h2
      refine xB.run oX6_isSheet 1 (s := (14, [some (.int (zI k))], [.int (zI 0)], [r0, r1, r2, r3, r4, r5, r6, r7, r8, r9])) rfl ?_
      obtain rfl := Option.some.inj H
      exact xB.ret oX6_isSheet (r1 := some (.int (zI 0))) rfl rfl rfl
    · have H := H.2 h2
      refine xB.run oX6_isSheet 2 (s := (14, [some (.int (zI k))], [.int (zI 1)], [r0, r1, r2, r3, r4, r5, r6, r7, r8, r9])) rfl ?_
      obtain rfl := Option.some.inj H
      exact xB.ret oX6_isSheet (r1 := some (.int (zI 1))) rfl rfl rfl
def d_X6_isLane (k : Int) : Option (Int) := if (zr k) then (if k < 0 then some 0 else (if (zr k) then (if (2 : Int) < k then some 0 else some 1) else none)) else none
set_option maxRecDepth 20000 in
theorem t_X6_isLane (r0 : List va_E) (r1 : List va_E) (r2 : List va_E) (r3 : List va_E) (r4 : List va_E) (r5 : List va_E) (r6 : List va_E) (r7 : List va_E) (r8 : List va_E) (r9 : List va_E) (k : Int) {rr : Int} (H : d_X6_isLane k = some rr) : xC MX6_isLane 0 [.int (zI k)] ([r0, r1, r2, r3, r4, r5, r6, r7, r8, r9]) (some (.int (zI rr))) ([r0, r1, r2, r3, r4, r5, r6, r7, r8, r9]) := by
  refine ⟨Nat.le_of_ble_eq_true rfl, ?_⟩
  show xBody MX6_isLane 0 0 [some (.int (zI k))] [] ([r0, r1, r2, r3, r4, r5, r6, r7, r8, r9]) _ _
  unfold d_X6_isLane at H
  refine xB.run oX6_isLane 1 (s := (1, [some (.int (zI k))], [.int (zI k)], [r0, r1, r2, r3, r4, r5, r6, r7, r8, r9])) rfl ?_
  obtain ⟨g4, H⟩ := zgd H
  have H := zif H
  refine xB.brE oX6_isLane (P := k < 0) rfl (zc_lt (a := k) (b := 0) ⟨g4, by decide⟩) (fun h1 => ?_) (fun h1 => ?_)
  · have H := H.1 h1
    refine xB.run oX6_isLane 1 (s := (14, [some (.int (zI k))], [.int (zI 0)], [r0, r1, r2, r3, r4, r5, r6, r7, r8, r9])) rfl ?_
    obtain rfl := Option.some.inj H
    exact xB.ret oX6_isLane (r1 := some (.int (zI 0))) rfl rfl rfl
  · have H := H.2 h1
    refine xB.run oX6_isLane 2 (s := (6, [some (.int (zI k))], [.int (zI 2), .int (zI k)], [r0, r1, r2, r3, r4, r5, r6, r7, r8, r9])) rfl ?_
    obtain ⟨g3, H⟩ := zgd H
    have H := zif H
    refine xB.brE oX6_isLane (P := (2 : Int) < k) rfl (zc_gt (a := k) (b := 2) ⟨g3, by decide⟩) (fun h2 => ?_) (fun h2 => ?_)
    · have H := H.1 h2
      refine xB.run oX6_isLane 1 (s := (14, [some (.int (zI k))], [.int (zI 0)], [r0, r1, r2, r3, r4, r5, r6, r7, r8, r9])) rfl ?_
      obtain rfl := Option.some.inj H
      exact xB.ret oX6_isLane (r1 := some (.int (zI 0))) rfl rfl rfl
    · have H := H.2 h2
      refine xB.run oX6_isLane 2 (s := (14, [some (.int (zI k))], [.int (zI 1)], [r0, r1, r2, r3, r4, r5, r6, r7, r8, r9])) rfl ?_
      obtain rfl := Option.some.inj H
      exact xB.ret oX6_isLane (r1 := some (.int (zI 1))) rfl rfl rfl
def d_X6_cutToLane (k : Int) (v : Int) : Option (Int) := if zr k then (if k = 0 then some (v.bmod 256) else (if k = 1 then some (v.bmod 65536) else some v)) else none
set_option maxRecDepth 20000 in
theorem t_X6_cutToLane (r0 : List va_E) (r1 : List va_E) (r2 : List va_E) (r3 : List va_E) (r4 : List va_E) (r5 : List va_E) (r6 : List va_E) (r7 : List va_E) (r8 : List va_E) (r9 : List va_E) (k : Int) (v : Int) {rr : Int} (H : d_X6_cutToLane k v = some rr) : xC MX6_cutToLane 0 [.int (zI k), .int (zI v)] ([r0, r1, r2, r3, r4, r5, r6, r7, r8, r9]) (some (.int (zI rr))) ([r0, r1, r2, r3, r4, r5, r6, r7, r8, r9]) := by
  refine ⟨Nat.le_of_ble_eq_true rfl, ?_⟩
  show xBody MX6_cutToLane 0 0 [some (.int (zI k)), some (.int (zI v))] [] ([r0, r1, r2, r3, r4, r5, r6, r7, r8, r9]) _ _
  unfold d_X6_cutToLane at H
  refine xB.run oX6_cutToLane 1 (s := (1, [some (.int (zI k)), some (.int (zI v))], [.int (zI k)], [r0, r1, r2, r3, r4, r5, r6, r7, r8, r9])) rfl ?_
  obtain ⟨g1, H⟩ := zgd H
  have H := zif H
  by_cases h2 : k = 0
  · have H := H.1 h2
    refine xB.next oX6_cutToLane (s := (28, [some (.int (zI k)), some (.int (zI v))], [], [r0, r1, r2, r3, r4, r5, r6, r7, r8, r9])) (xsw_at rfl (by rw [zsw g1 0 _ (by decide), if_pos (show k = ((0 : Nat) : Int) from h2)])) ?_
    refine xB.run oX6_cutToLane 1 (s := (29, [some (.int (zI k)), some (.int (zI v))], [.int (zI v)], [r0, r1, r2, r3, r4, r5, r6, r7, r8, r9])) rfl ?_
    refine zB.opi oX6_cutToLane rfl (zi_i2b v) ?_
    obtain rfl := Option.some.inj H
    exact xB.ret oX6_cutToLane (r1 := some (.int (zI (v.bmod 256)))) rfl rfl rfl
  · have H := H.2 h2
    have H := zif H
    by_cases h3 : k = 1
    · have H := H.1 h3
      refine xB.next oX6_cutToLane (s := (31, [some (.int (zI k)), some (.int (zI v))], [], [r0, r1, r2, r3, r4, r5, r6, r7, r8, r9])) (xsw_at rfl (by rw [zsw g1 0 _ (by decide), if_neg (show ¬ k = ((0 : Nat) : Int) from h2)]; rw [zsw g1 1 _ (by decide), if_pos (show k = ((1 : Nat) : Int) from h3)])) ?_
      refine xB.run oX6_cutToLane 1 (s := (32, [some (.int (zI k)), some (.int (zI v))], [.int (zI v)], [r0, r1, r2, r3, r4, r5, r6, r7, r8, r9])) rfl ?_
      refine zB.opi oX6_cutToLane rfl (zi_i2s v) ?_
      obtain rfl := Option.some.inj H
      exact xB.ret oX6_cutToLane (r1 := some (.int (zI (v.bmod 65536)))) rfl rfl rfl
    · have H := H.2 h3
      refine xB.next oX6_cutToLane (s := (34, [some (.int (zI k)), some (.int (zI v))], [], [r0, r1, r2, r3, r4, r5, r6, r7, r8, r9])) (xsw_at rfl (by rw [zsw g1 0 _ (by decide), if_neg (show ¬ k = ((0 : Nat) : Int) from h2)]; rw [zsw g1 1 _ (by decide), if_neg (show ¬ k = ((1 : Nat) : Int) from h3)]; rfl)) ?_
      refine xB.run oX6_cutToLane 1 (s := (35, [some (.int (zI k)), some (.int (zI v))], [.int (zI v)], [r0, r1, r2, r3, r4, r5, r6, r7, r8, r9])) rfl ?_
      obtain rfl := Option.some.inj H
      exact xB.ret oX6_cutToLane (r1 := some (.int (zI v))) rfl rfl rfl
