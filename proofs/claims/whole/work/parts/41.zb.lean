/-! 41.zb -/
def d_X10_leave (s3 : zZ) (n : Int) : Option (zZ) := some (upz s3 1 0 ((31 * (s3 1 0)) + n))
set_option maxRecDepth 20000 in
theorem t_X10_leave (r0 : List va_E) (r1 : List va_E) (r2 : List va_E) (s3 : zZ) (r4 : List va_E) (r5 : List va_E) (r6 : List va_E) (r7 : List va_E) (r8 : List va_E) (r9 : List va_E) (n : Int) {rr : zZ} (H : d_X10_leave s3 n = some rr) : xC MX10_leave 0 [.ref 3073, .int (zI n)] ([r0, r1, r2, zH s3 zL3 0, r4, r5, r6, r7, r8, r9]) (none) ([r0, r1, r2, zH rr zL3 0, r4, r5, r6, r7, r8, r9]) := by
  refine ⟨Nat.le_of_ble_eq_true rfl, ?_⟩
  show xBody MX10_leave 0 0 [some (.ref 3073), some (.int (zI n))] [] ([r0, r1, r2, zH s3 zL3 0, r4, r5, r6, r7, r8, r9]) _ _
  unfold d_X10_leave at H
  refine xB.run oX10_leave 4 (s := (7, [some (.ref 3073), some (.int (zI n))], [.int (zI (s3 1 0)), .int (zI 31), .ref 3073], [r0, r1, r2, zH s3 zL3 0, r4, r5, r6, r7, r8, r9])) rfl ?_
  refine zB.opi oX10_leave rfl (zi_mul 31 (s3 1 0)) ?_
  refine xB.run oX10_leave 1 (s := (9, [some (.ref 3073), some (.int (zI n))], [.int (zI n), .int (zI (31 * (s3 1 0))), .ref 3073], [r0, r1, r2, zH s3 zL3 0, r4, r5, r6, r7, r8, r9])) rfl ?_
  refine zB.opi oX10_leave rfl (zi_add (31 * (s3 1 0)) n) ?_
  refine zB.putI oX10_leave (g := 3) (p := 1) (c := 10) (k := 0) (y := 0) (hp1 := [r0, r1, r2, zH (upz s3 1 0 ((31 * (s3 1 0)) + n)) zL3 0, r4, r5, r6, r7, r8, r9]) rfl rfl (by decide) (by decide) rfl rfl rfl rfl rfl rfl ?_
  obtain rfl := Option.some.inj H
  exact xB.ret oX10_leave (r1 := none) rfl rfl rfl
def d_X0_kindNumber (b : Int) : Option (Int) := some 0
set_option maxRecDepth 20000 in
theorem t_X0_kindNumber (r0 : List va_E) (r1 : List va_E) (r2 : List va_E) (r3 : List va_E) (r4 : List va_E) (r5 : List va_E) (r6 : List va_E) (r7 : List va_E) (r8 : List va_E) (r9 : List va_E) (b : Int) {rr : Int} (H : d_X0_kindNumber b = some rr) : xC MX0_kindNumber 0 [.ref (1024 * 8 + b.toNat)] ([r0, r1, r2, r3, r4, r5, r6, r7, r8, r9]) (some (.int (zI rr))) ([r0, r1, r2, r3, r4, r5, r6, r7, r8, r9]) := by
  refine ⟨Nat.le_of_ble_eq_true rfl, ?_⟩
  show xBody MX0_kindNumber 0 0 [some (.ref (1024 * 8 + b.toNat))] [] ([r0, r1, r2, r3, r4, r5, r6, r7, r8, r9]) _ _
  unfold d_X0_kindNumber at H
  refine xB.run oX0_kindNumber 1 (s := (1, [some (.ref (1024 * 8 + b.toNat))], [.int (zI 0)], [r0, r1, r2, r3, r4, r5, r6, r7, r8, r9])) rfl ?_
  obtain rfl := Option.some.inj H
  exact xB.ret oX0_kindNumber (r1 := some (.int (zI 0))) rfl rfl rfl
def d_X3_kindNumber (b : Int) : Option (Int) := some 1
set_option maxRecDepth 20000 in
theorem t_X3_kindNumber (r0 : List va_E) (r1 : List va_E) (r2 : List va_E) (r3 : List va_E) (r4 : List va_E) (r5 : List va_E) (r6 : List va_E) (r7 : List va_E) (r8 : List va_E) (r9 : List va_E) (b : Int) {rr : Int} (H : d_X3_kindNumber b = some rr) : xC MX3_kindNumber 0 [.ref (1024 * 8 + b.toNat)] ([r0, r1, r2, r3, r4, r5, r6, r7, r8, r9]) (some (.int (zI rr))) ([r0, r1, r2, r3, r4, r5, r6, r7, r8, r9]) := by
  refine ⟨Nat.le_of_ble_eq_true rfl, ?_⟩
  show xBody MX3_kindNumber 0 0 [some (.ref (1024 * 8 + b.toNat))] [] ([r0, r1, r2, r3, r4, r5, r6, r7, r8, r9]) _ _
  unfold d_X3_kindNumber at H
  refine xB.run oX3_kindNumber 1 (s := (1, [some (.ref (1024 * 8 + b.toNat))], [.int (zI 1)], [r0, r1, r2, r3, r4, r5, r6, r7, r8, r9])) rfl ?_
  obtain rfl := Option.some.inj H
  exact xB.ret oX3_kindNumber (r1 := some (.int (zI 1))) rfl rfl rfl
def d_X1_kindNumber (b : Int) : Option (Int) := some 2
set_option maxRecDepth 20000 in
theorem t_X1_kindNumber (r0 : List va_E) (r1 : List va_E) (r2 : List va_E) (r3 : List va_E) (r4 : List va_E) (r5 : List va_E) (r6 : List va_E) (r7 : List va_E) (r8 : List va_E) (r9 : List va_E) (b : Int) {rr : Int} (H : d_X1_kindNumber b = some rr) : xC MX1_kindNumber 0 [.ref (1024 * 8 + b.toNat)] ([r0, r1, r2, r3, r4, r5, r6, r7, r8, r9]) (some (.int (zI rr))) ([r0, r1, r2, r3, r4, r5, r6, r7, r8, r9]) := by
  refine ⟨Nat.le_of_ble_eq_true rfl, ?_⟩
  show xBody MX1_kindNumber 0 0 [some (.ref (1024 * 8 + b.toNat))] [] ([r0, r1, r2, r3, r4, r5, r6, r7, r8, r9]) _ _
  unfold d_X1_kindNumber at H
  refine xB.run oX1_kindNumber 1 (s := (1, [some (.ref (1024 * 8 + b.toNat))], [.int (zI 2)], [r0, r1, r2, r3, r4, r5, r6, r7, r8, r9])) rfl ?_
  obtain rfl := Option.some.inj H
  exact xB.ret oX1_kindNumber (r1 := some (.int (zI 2))) rfl rfl rfl
def d_X0_plainTelling (s3 : zZ) (s8 : zZ) (ks : List Int) (b : Int) : Option (Int × zZ) := (d_X10_leave s3 1).bind fun y1 => if (b.toNat < ks.length ∧ b.toNat < 1024) then some (s8 b.toNat 3, y1) else none
set_option maxRecDepth 20000 in
theorem t_X0_plainTelling (r0 : List va_E) (r1 : List va_E) (r2 : List va_E) (s3 : zZ) (r4 : List va_E) (r5 : List va_E) (r6 : List va_E) (r7 : List va_E) (s8 : zZ) (r9 : List va_E) (ks : List Int) (b : Int) {rr : Int × zZ} (H : d_X0_plainTelling s3 s8 ks b = some rr) : xC MX0_plainTelling 1 [.ref (1024 * 8 + b.toNat), .ref 3073] ([r0, r1, r2, zH s3 zL3 0, r4, r5, r6, r7, zH s8 (zLb ks) 0, r9]) (some (.int (zI rr.1))) ([r0, r1, r2, zH rr.2 zL3 0, r4, r5, r6, r7, zH s8 (zLb ks) 0, r9]) := by
  refine ⟨Nat.le_of_ble_eq_true rfl, ?_⟩
  show xBody MX0_plainTelling 1 0 [some (.ref (1024 * 8 + b.toNat)), some (.ref 3073)] [] ([r0, r1, r2, zH s3 zL3 0, r4, r5, r6, r7, zH s8 (zLb ks) 0, r9]) _ _
  unfold d_X0_plainTelling at H
  refine xB.run oX0_plainTelling 2 (s := (2, [some (.ref (1024 * 8 + b.toNat)), some (.ref 3073)], [.int (zI 1), .ref 3073], [r0, r1, r2, zH s3 zL3 0, r4, r5, r6, r7, zH s8 (zLb ks) 0, r9])) rfl ?_
  obtain ⟨y1, e2, H⟩ := zbd H
  refine xB.call oX0_plainTelling (M2 := MX10_leave) rfl rfl ((t_X10_leave r0 r1 r2 s3 r4 r5 r6 r7 (zH s8 (zLb ks) 0) r9 1 e2).deep (by decide : 0 ≤ 0)) ?_
  show xBody MX0_plainTelling 1 5 [some (.ref (1024 * 8 + b.toNat)), some (.ref 3073)] [] ([r0, r1, r2, zH y1 zL3 0, r4, r5, r6, r7, zH s8 (zLb ks) 0, r9]) _ _
  refine xB.run oX0_plainTelling 1 (s := (6, [some (.ref (1024 * 8 + b.toNat)), some (.ref 3073)], [.ref (1024 * 8 + b.toNat)], [r0, r1, r2, zH y1 zL3 0, r4, r5, r6, r7, zH s8 (zLb ks) 0, r9])) rfl ?_
  obtain ⟨g3, H⟩ := zgd H
  refine zB.getI oX0_plainTelling (g := 8) (p := b.toNat) (k := 3) (y := 0) rfl rfl (by omega) rfl (zLb_at _ g3.1) (zks_bar _ 3 3 3 _ rfl rfl rfl) rfl ?_
  obtain rfl := Option.some.inj H
  exact xB.ret oX0_plainTelling (r1 := some (.int (zI (s8 b.toNat 3)))) rfl rfl rfl
def d_X0_telling (s3 : zZ) (s8 : zZ) (ks : List Int) (b : Int) : Option (Int × zZ) := if (b.toNat < ks.length ∧ b.toNat < 1024) then (if ks.getD b.toNat 0 = 1 then none else (if ks.getD b.toNat 0 = 2 then none else ((d_X0_plainTelling s3 s8 ks b).bind fun y4 => some (y4.1, y4.2)))) else none
set_option maxRecDepth 20000 in
theorem t_X0_telling (r0 : List va_E) (r1 : List va_E) (r2 : List va_E) (s3 : zZ) (r4 : List va_E) (r5 : List va_E) (r6 : List va_E) (r7 : List va_E) (s8 : zZ) (r9 : List va_E) (ks : List Int) (b : Int) {rr : Int × zZ} (H : d_X0_telling s3 s8 ks b = some rr) : xC MX0_telling 2 [.ref (1024 * 8 + b.toNat), .ref 3073] ([r0, r1, r2, zH s3 zL3 0, r4, r5, r6, r7, zH s8 (zLb ks) 0, r9]) (some (.int (zI rr.1))) ([r0, r1, r2, zH rr.2 zL3 0, r4, r5, r6, r7, zH s8 (zLb ks) 0, r9]) := by
  refine ⟨Nat.le_of_ble_eq_true rfl, ?_⟩
  show xBody MX0_telling 2 0 [some (.ref (1024 * 8 + b.toNat)), some (.ref 3073)] [] ([r0, r1, r2, zH s3 zL3 0, r4, r5, r6, r7, zH s8 (zLb ks) 0, r9]) _ _
  unfold d_X0_telling at H
  refine xB.run oX0_telling 2 (s := (2, [some (.ref (1024 * 8 + b.toNat)), some (.ref 3073)], [.ref 3073, .ref (1024 * 8 + b.toNat)], [r0, r1, r2, zH s3 zL3 0, r4, r5, r6, r7, zH s8 (zLb ks) 0, r9])) rfl ?_
  obtain ⟨g1, H⟩ := zgd H
  have H := zif H
  by_cases h2 : ks.getD b.toNat 0 = 1
  · have H := H.1 h2
    cases H
  · have H := zif (H.2 h2)
    by_cases h3 : ks.getD b.toNat 0 = 2
    · have H := H.1 h3
      cases H
    · have H := H.2 h3
      obtain ⟨y4, e5, H⟩ := zbd H
      refine zB.callv oX0_telling (M2 := MX0_plainTelling) (n := 1) (p := b.toNat) rfl rfl rfl (by omega) rfl (zLb_at _ g1.1) (by unfold zclass; rw [if_neg h2, if_neg h3]; rfl) (Nat.le_of_ble_eq_true rfl) rfl ((t_X0_plainTelling r0 r1 r2 s3 r4 r5 r6 r7 s8 r9 ks b e5).deep (by decide : 1 ≤ 1)) ?_
      show xBody MX0_telling 2 5 [some (.ref (1024 * 8 + b.toNat)), some (.ref 3073)] [.int (zI y4.1)] ([r0, r1, r2, zH y4.2 zL3 0, r4, r5, r6, r7, zH s8 (zLb ks) 0, r9]) _ _
      obtain rfl := Option.some.inj H
      exact xB.ret oX0_telling (r1 := some (.int (zI y4.1))) rfl rfl rfl
def d_X3_telling (s3 : zZ) (s8 : zZ) (ks : List Int) (b : Int) : Option (Int × zZ) := (d_X10_leave s3 2).bind fun y1 => if (b.toNat < ks.length ∧ b.toNat < 1024) then (if ks.getD b.toNat 0 = 1 then ((d_X0_plainTelling y1 s8 ks b).bind fun y6 => if (b.toNat < ks.length ∧ b.toNat < 1024 ∧ (ks.getD b.toNat 0 = 1 ∨ ks.getD b.toNat 0 = 2)) then (if (zr (s8 b.toNat 4)) then (if (s8 b.toNat 4) = 0 then some (y6.1 + 0, y6.2) else some (y6.1 + 1000, y6.2)) else none) else none) else (if ks.getD b.toNat 0 = 2 then ((d_X0_plainTelling y1 s8 ks b).bind fun y11 => if (b.toNat < ks.length ∧ b.toNat < 1024 ∧ (ks.getD b.toNat 0 = 1 ∨ ks.getD b.toNat 0 = 2)) then (if (zr (s8 b.toNat 4)) then (if (s8 b.toNat 4) = 0 then some (y11.1 + 0, y11.2) else some (y11.1 + 1000, y11.2)) else none) else none) else none)) else none
set_option maxRecDepth 20000 in
theorem t_X3_telling (r0 : List va_E) (r1 : List va_E) (r2 : List va_E) (s3 : zZ) (r4 : List va_E) (r5 : List va_E) (r6 : List va_E) (r7 : List va_E) (s8 : zZ) (r9 : List va_E) (ks : List Int) (b : Int) {rr : Int × zZ} (H : d_X3_telling s3 s8 ks b = some rr) : xC MX3_telling 2 [.ref (1024 * 8 + b.toNat), .ref 3073] ([r0, r1, r2, zH s3 zL3 0, r4, r5, r6, r7, zH s8 (zLb ks) 0, r9]) (some (.int (zI rr.1))) ([r0, r1, r2, zH rr.2 zL3 0, r4, r5, r6, r7, zH s8 (zLb ks) 0, r9]) := by
  refine ⟨Nat.le_of_ble_eq_true rfl, ?_⟩
  show xBody MX3_telling 2 0 [some (.ref (1024 * 8 + b.toNat)), some (.ref 3073)] [] ([r0, r1, r2, zH s3 zL3 0, r4, r5, r6, r7, zH s8 (zLb ks) 0, r9]) _ _
  unfold d_X3_telling at H
  refine xB.run oX3_telling 2 (s := (2, [some (.ref (1024 * 8 + b.toNat)), some (.ref 3073)], [.int (zI 2), .ref 3073], [r0, r1, r2, zH s3 zL3 0, r4, r5, r6, r7, zH s8 (zLb ks) 0, r9])) rfl ?_
  obtain ⟨y1, e2, H⟩ := zbd H
  refine xB.call oX3_telling (M2 := MX10_leave) rfl rfl ((t_X10_leave r0 r1 r2 s3 r4 r5 r6 r7 (zH s8 (zLb ks) 0) r9 2 e2).deep (by decide : 0 ≤ 1)) ?_
  show xBody MX3_telling 2 5 [some (.ref (1024 * 8 + b.toNat)), some (.ref 3073)] [] ([r0, r1, r2, zH y1 zL3 0, r4, r5, r6, r7, zH s8 (zLb ks) 0, r9]) _ _
  refine xB.run oX3_telling 2 (s := (7, [some (.ref (1024 * 8 + b.toNat)), some (.ref 3073)], [.ref 3073, .ref (1024 * 8 + b.toNat)], [r0, r1, r2, zH y1 zL3 0, r4, r5, r6, r7, zH s8 (zLb ks) 0, r9])) rfl ?_
  obtain ⟨g3, H⟩ := zgd H
  have H := zif H
  by_cases h4 : ks.getD b.toNat 0 = 1
  · have H := H.1 h4
    obtain ⟨y6, e7, H⟩ := zbd H
    refine zB.callv oX3_telling (M2 := MX0_plainTelling) (n := 1) (p := b.toNat) rfl rfl rfl (by omega) rfl (zLb_at _ g3.1) (by unfold zclass; rw [if_pos h4]; rfl) (Nat.le_of_ble_eq_true rfl) rfl ((t_X0_plainTelling r0 r1 r2 y1 r4 r5 r6 r7 s8 r9 ks b e7).deep (by decide : 1 ≤ 1)) ?_
    show xBody MX3_telling 2 10 [some (.ref (1024 * 8 + b.toNat)), some (.ref 3073)] [.int (zI y6.1)] ([r0, r1, r2, zH y6.2 zL3 0, r4, r5, r6, r7, zH s8 (zLb ks) 0, r9]) _ _
    refine xB.run oX3_telling 1 (s := (11, [some (.ref (1024 * 8 + b.toNat)), some (.ref 3073)], [.ref (1024 * 8 + b.toNat), .int (zI y6.1)], [r0, r1, r2, zH y6.2 zL3 0, r4, r5, r6, r7, zH s8 (zLb ks) 0, r9])) rfl ?_
    obtain ⟨g10, H⟩ := zgd H
    refine zB.getI oX3_telling (g := 8) (p := b.toNat) (k := 4) (y := 0) rfl rfl (by omega) rfl (zLb_at _ g10.1) (zks_bar2 g10.2.2 rfl rfl) rfl ?_
    obtain ⟨g9, H⟩ := zgd H
    have H := zif H
    refine xB.brE oX3_telling (P := (s8 b.toNat 4) = 0) rfl (zc_eq (a := s8 b.toNat 4) (b := 0) ⟨g9, by decide⟩) (fun h8 => ?_) (fun h8 => ?_)
    · have H := H.1 h8
      refine xB.run oX3_telling 1 (s := (24, [some (.ref (1024 * 8 + b.toNat)), some (.ref 3073)], [.int (zI 0), .int (zI y6.1)], [r0, r1, r2, zH y6.2 zL3 0, r4, r5, r6, r7, zH s8 (zLb ks) 0, r9])) rfl ?_
      refine zB.opi oX3_telling rfl (zi_add y6.1 0) ?_
      obtain rfl := Option.some.inj H
      exact xB.ret oX3_telling (r1 := some (.int (zI (y6.1 + 0)))) rfl rfl rfl
    · have H := H.2 h8
      refine xB.run oX3_telling 2 (s := (24, [some (.ref (1024 * 8 + b.toNat)), some (.ref 3073)], [.int (zI 1000), .int (zI y6.1)], [r0, r1, r2, zH y6.2 zL3 0, r4, r5, r6, r7, zH s8 (zLb ks) 0, r9])) rfl ?_
      refine zB.opi oX3_telling rfl (zi_add y6.1 1000) ?_
      obtain rfl := Option.some.inj H
      exact xB.ret oX3_telling (r1 := some (.int (zI (y6.1 + 1000)))) rfl rfl rfl
  · have H := zif (H.2 h4)
    by_cases h5 : ks.getD b.toNat 0 = 2
    · have H := H.1 h5
      obtain ⟨y11, e12, H⟩ := zbd H
      refine zB.callv oX3_telling (M2 := MX0_plainTelling) (n := 1) (p := b.toNat) rfl rfl rfl (by omega) rfl (zLb_at _ g3.1) (by unfold zclass; rw [if_neg h4, if_pos h5]; rfl) (Nat.le_of_ble_eq_true rfl) rfl ((t_X0_plainTelling r0 r1 r2 y1 r4 r5 r6 r7 s8 r9 ks b e12).deep (by decide : 1 ≤ 1)) ?_
      show xBody MX3_telling 2 10 [some (.ref (1024 * 8 + b.toNat)), some (.ref 3073)] [.int (zI y11.1)] ([r0, r1, r2, zH y11.2 zL3 0, r4, r5, r6, r7, zH s8 (zLb ks) 0, r9]) _ _
      refine xB.run oX3_telling 1 (s := (11, [some (.ref (1024 * 8 + b.toNat)), some (.ref 3073)], [.ref (1024 * 8 + b.toNat), .int (zI y11.1)], [r0, r1, r2, zH y11.2 zL3 0, r4, r5, r6, r7, zH s8 (zLb ks) 0, r9])) rfl ?_
      obtain ⟨g15, H⟩ := zgd H
      refine zB.getI oX3_telling (g := 8) (p := b.toNat) (k := 4) (y := 0) rfl rfl (by omega) rfl (zLb_at _ g15.1) (zks_bar2 g15.2.2 rfl rfl) rfl ?_
      obtain ⟨g14, H⟩ := zgd H
      have H := zif H
      refine xB.brE oX3_telling (P := (s8 b.toNat 4) = 0) rfl (zc_eq (a := s8 b.toNat 4) (b := 0) ⟨g14, by decide⟩) (fun h13 => ?_) (fun h13 => ?_)
      · have H := H.1 h13
        refine xB.run oX3_telling 1 (s := (24, [some (.ref (1024 * 8 + b.toNat)), some (.ref 3073)], [.int (zI 0), .int (zI y11.1)], [r0, r1, r2, zH y11.2 zL3 0, r4, r5, r6, r7, zH s8 (zLb ks) 0, r9])) rfl ?_
        refine zB.opi oX3_telling rfl (zi_add y11.1 0) ?_
        obtain rfl := Option.some.inj H
        exact xB.ret oX3_telling (r1 := some (.int (zI (y11.1 + 0)))) rfl rfl rfl
      · have H := H.2 h13
        refine xB.run oX3_telling 2 (s := (24, [some (.ref (1024 * 8 + b.toNat)), some (.ref 3073)], [.int (zI 1000), .int (zI y11.1)], [r0, r1, r2, zH y11.2 zL3 0, r4, r5, r6, r7, zH s8 (zLb ks) 0, r9])) rfl ?_
        refine zB.opi oX3_telling rfl (zi_add y11.1 1000) ?_
        obtain rfl := Option.some.inj H
        exact xB.ret oX3_telling (r1 := some (.int (zI (y11.1 + 1000)))) rfl rfl rfl
    · have H := H.2 h5
      cases H
def d_X1_telling (s3 : zZ) (s8 : zZ) (ks : List Int) (b : Int) : Option (Int × zZ) := (d_X10_leave s3 3).bind fun y1 => if (b.toNat < ks.length ∧ b.toNat < 1024) then (if ks.getD b.toNat 0 = 1 then none else (if ks.getD b.toNat 0 = 2 then ((d_X3_telling y1 s8 ks b).bind fun y6 => if (b.toNat < ks.length ∧ b.toNat < 1024) then (if ks.getD b.toNat 0 = 1 then none else (if ks.getD b.toNat 0 = 2 then ((d_X0_plainTelling y6.2 s8 ks b).bind fun y11 => some (y6.1 + y11.1, y11.2)) else none)) else none) else none)) else none
set_option maxRecDepth 20000 in
theorem t_X1_telling (r0 : List va_E) (r1 : List va_E) (r2 : List va_E) (s3 : zZ) (r4 : List va_E) (r5 : List va_E) (r6 : List va_E) (r7 : List va_E) (s8 : zZ) (r9 : List va_E) (ks : List Int) (b : Int) {rr : Int × zZ} (H : d_X1_telling s3 s8 ks b = some rr) : xC MX1_telling 3 [.ref (1024 * 8 + b.toNat), .ref 3073] ([r0, r1, r2, zH s3 zL3 0, r4, r5, r6, r7, zH s8 (zLb ks) 0, r9]) (some (.int (zI rr.1))) ([r0, r1, r2, zH rr.2 zL3 0, r4, r5, r6, r7, zH s8 (zLb ks) 0, r9]) := by
  refine ⟨Nat.le_of_ble_eq_true rfl, ?_⟩
  show xBody MX1_telling 3 0 [some (.ref (1024 * 8 + b.toNat)), some (.ref 3073), none] [] ([r0, r1, r2, zH s3 zL3 0, r4, r5, r6, r7, zH s8 (zLb ks) 0, r9]) _ _
  unfold d_X1_telling at H
  refine xB.run oX1_telling 2 (s := (2, [some (.ref (1024 * 8 + b.toNat)), some (.ref 3073), none], [.int (zI 3), .ref 3073], [r0, r1, r2, zH s3 zL3 0, r4, r5, r6, r7, zH s8 (zLb ks) 0, r9])) rfl ?_
  obtain ⟨y1, e2, H⟩ := zbd H
  refine xB.call oX1_telling (M2 := MX10_leave) rfl rfl ((t_X10_leave r0 r1 r2 s3 r4 r5 r6 r7 (zH s8 (zLb ks) 0) r9 3 e2).deep (by decide : 0 ≤ 2)) ?_
  show xBody MX1_telling 3 5 [some (.ref (1024 * 8 + b.toNat)), some (.ref 3073), none] [] ([r0, r1, r2, zH y1 zL3 0, r4, r5, r6, r7, zH s8 (zLb ks) 0, r9]) _ _
  refine xB.run oX1_telling 2 (s := (7, [some (.ref (1024 * 8 + b.toNat)), some (.ref 3073), none], [.ref 3073, .ref (1024 * 8 + b.toNat)], [r0, r1, r2, zH y1 zL3 0, r4, r5, r6, r7, zH s8 (zLb ks) 0, r9])) rfl ?_
  obtain ⟨g3, H⟩ := zgd H
  have H := zif H
  by_cases h4 : ks.getD b.toNat 0 = 1
  · have H := H.1 h4
    cases H
  · have H := zif (H.2 h4)
    by_cases h5 : ks.getD b.toNat 0 = 2
    · have H := H.1 h5
      obtain ⟨y6, e7, H⟩ := zbd H
      refine zB.calls oX1_telling (M2 := MX3_telling) (n := 1) (p := b.toNat) rfl rfl rfl (by omega) rfl (zLb_at _ g3.1) (by unfold zclass; rw [if_neg h4, if_pos h5]; rfl) (Nat.le_of_ble_eq_true rfl) rfl ((t_X3_telling r0 r1 r2 y1 r4 r5 r6 r7 s8 r9 ks b e7).deep (by decide : 2 ≤ 2)) ?_
      show xBody MX1_telling 3 10 [some (.ref (1024 * 8 + b.toNat)), some (.ref 3073), none] [.int (zI y6.1)] ([r0, r1, r2, zH y6.2 zL3 0, r4, r5, r6, r7, zH s8 (zLb ks) 0, r9]) _ _
      refine xB.run oX1_telling 4 (s := (14, [some (.ref (1024 * 8 + b.toNat)), some (.ref 3073), some (.int (zI y6.1))], [.ref 3073, .ref (1024 * 8 + b.toNat), .int (zI y6.1)], [r0, r1, r2, zH y6.2 zL3 0, r4, r5, r6, r7, zH s8 (zLb ks) 0, r9])) rfl ?_
      obtain ⟨g8, H⟩ := zgd H
      have H := zif H
      by_cases h9 : ks.getD b.toNat 0 = 1
      · have H := H.1 h9
        cases H
      · have H := zif (H.2 h9)
        by_cases h10 : ks.getD b.toNat 0 = 2
        · have H := H.1 h10
          obtain ⟨y11, e12, H⟩ := zbd H
          refine zB.callv oX1_telling (M2 := MX0_plainTelling) (n := 1) (p := b.toNat) rfl rfl rfl (by omega) rfl (zLb_at _ g8.1) (by unfold zclass; rw [if_neg h9, if_pos h10]; rfl) (Nat.le_of_ble_eq_true rfl) rfl ((t_X0_plainTelling r0 r1 r2 y6.2 r4 r5 r6 r7 s8 r9 ks b e12).deep (by decide : 1 ≤ 2)) ?_
          show xBody MX1_telling 3 17 [some (.ref (1024 * 8 + b.toNat)), some (.ref 3073), some (.int (zI y6.1))] [.int (zI y11.1), .int (zI y6.1)] ([r0, r1, r2, zH y11.2 zL3 0, r4, r5, r6, r7, zH s8 (zLb ks) 0, r9]) _ _
          refine zB.opi oX1_telling rfl (zi_add y6.1 y11.1) ?_
          obtain rfl := Option.some.inj H
          exact xB.ret oX1_telling (r1 := some (.int (zI (y6.1 + y11.1)))) rfl rfl rfl
        · have H := H.2 h10
          cases H
    · have H := H.2 h5
      cases H
def d_X0_signing (s3 : zZ) (s8 : zZ) (ks : List Int) (b : Int) : Option (Int × zZ) := (d_X10_leave s3 4).bind fun y1 => if (b.toNat < ks.length ∧ b.toNat < 1024) then some (s8 b.toNat 0, y1) else none
set_option maxRecDepth 20000 in
theorem t_X0_signing (r0 : List va_E) (r1 : List va_E) (r2 : List va_E) (s3 : zZ) (r4 : List va_E) (r5 : List va_E) (r6 : List va_E) (r7 : List va_E) (s8 : zZ) (r9 : List va_E) (ks : List Int) (b : Int) {rr : Int × zZ} (H : d_X0_signing s3 s8 ks b = some rr) : xC MX0_signing 1 [.ref (1024 * 8 + b.toNat), .ref 3073] ([r0, r1, r2, zH s3 zL3 0, r4, r5, r6, r7, zH s8 (zLb ks) 0, r9]) (some (.int (zI rr.1))) ([r0, r1, r2, zH rr.2 zL3 0, r4, r5, r6, r7, zH s8 (zLb ks) 0, r9]) := by
  refine ⟨Nat.le_of_ble_eq_true rfl, ?_⟩
  show xBody MX0_signing 1 0 [some (.ref (1024 * 8 + b.toNat)), some (.ref 3073)] [] ([r0, r1, r2, zH s3 zL3 0, r4, r5, r6, r7, zH s8 (zLb ks) 0, r9]) _ _
  unfold d_X0_signing at H
  refine xB.run oX0_signing 2 (s := (2, [some (.ref (1024 * 8 + b.toNat)), some (.ref 3073)], [.int (zI 4), .ref 3073], [r0, r1, r2, zH s3 zL3 0, r4, r5, r6, r7, zH s8 (zLb ks) 0, r9])) rfl ?_
  obtain ⟨y1, e2, H⟩ := zbd H
  refine xB.call oX0_signing (M2 := MX10_leave) rfl rfl ((t_X10_leave r0 r1 r2 s3 r4 r5 r6 r7 (zH s8 (zLb ks) 0) r9 4 e2).deep (by decide : 0 ≤ 0)) ?_
  show xBody MX0_signing 1 5 [some (.ref (1024 * 8 + b.toNat)), some (.ref 3073)] [] ([r0, r1, r2, zH y1 zL3 0, r4, r5, r6, r7, zH s8 (zLb ks) 0, r9]) _ _
  refine xB.run oX0_signing 1 (s := (6, [some (.ref (1024 * 8 + b.toNat)), some (.ref 3073)], [.ref (1024 * 8 + b.toNat)], [r0, r1, r2, zH y1 zL3 0, r4, r5, r6, r7, zH s8 (zLb ks) 0, r9])) rfl ?_
  obtain ⟨g3, H⟩ := zgd H
  refine zB.getI oX0_signing (g := 8) (p := b.toNat) (k := 0) (y := 0) rfl rfl (by omega) rfl (zLb_at _ g3.1) (zks_bar _ 0 0 0 _ rfl rfl rfl) rfl ?_
  obtain rfl := Option.some.inj H
  exact xB.ret oX0_signing (r1 := some (.int (zI (s8 b.toNat 0)))) rfl rfl rfl
def d_X1_signing (s3 : zZ) (s8 : zZ) (ks : List Int) (b : Int) : Option (Int × zZ) := (d_X10_leave s3 5).bind fun y1 => some (70, y1)
set_option maxRecDepth 20000 in
theorem t_X1_signing (r0 : List va_E) (r1 : List va_E) (r2 : List va_E) (s3 : zZ) (r4 : List va_E) (r5 : List va_E) (r6 : List va_E) (r7 : List va_E) (s8 : zZ) (r9 : List va_E) (ks : List Int) (b : Int) {rr : Int × zZ} (H : d_X1_signing s3 s8 ks b = some rr) : xC MX1_signing 1 [.ref (1024 * 8 + b.toNat), .ref 3073] ([r0, r1, r2, zH s3 zL3 0, r4, r5, r6, r7, zH s8 (zLb ks) 0, r9]) (some (.int (zI rr.1))) ([r0, r1, r2, zH rr.2 zL3 0, r4, r5, r6, r7, zH s8 (zLb ks) 0, r9]) := by
  refine ⟨Nat.le_of_ble_eq_true rfl, ?_⟩
  show xBody MX1_signing 1 0 [some (.ref (1024 * 8 + b.toNat)), some (.ref 3073)] [] ([r0, r1, r2, zH s3 zL3 0, r4, r5, r6, r7, zH s8 (zLb ks) 0, r9]) _ _
  unfold d_X1_signing at H
  refine xB.run oX1_signing 2 (s := (2, [some (.ref (1024 * 8 + b.toNat)), some (.ref 3073)], [.int (zI 5), .ref 3073], [r0, r1, r2, zH s3 zL3 0, r4, r5, r6, r7, zH s8 (zLb ks) 0, r9])) rfl ?_
  obtain ⟨y1, e2, H⟩ := zbd H
  refine xB.call oX1_signing (M2 := MX10_leave) rfl rfl ((t_X10_leave r0 r1 r2 s3 r4 r5 r6 r7 (zH s8 (zLb ks) 0) r9 5 e2).deep (by decide : 0 ≤ 0)) ?_
  show xBody MX1_signing 1 5 [some (.ref (1024 * 8 + b.toNat)), some (.ref 3073)] [] ([r0, r1, r2, zH y1 zL3 0, r4, r5, r6, r7, zH s8 (zLb ks) 0, r9]) _ _
  refine xB.run oX1_signing 1 (s := (7, [some (.ref (1024 * 8 + b.toNat)), some (.ref 3073)], [.int (zI 70)], [r0, r1, r2, zH y1 zL3 0, r4, r5, r6, r7, zH s8 (zLb ks) 0, r9])) rfl ?_
  obtain rfl := Option.some.inj H
  exact xB.ret oX1_signing (r1 := some (.int (zI 70))) rfl rfl rfl
def d_X0_init (s8 : zZ) (ks : List Int) (number : Int) (from_ : Int) (to : Int) (str : Int) (b : Int) : Option (zZ) := if (b.toNat < ks.length ∧ b.toNat < 1024) then (if (b.toNat < ks.length ∧ b.toNat < 1024) then (if (b.toNat < ks.length ∧ b.toNat < 1024) then (if (b.toNat < ks.length ∧ b.toNat < 1024) then (if (b.toNat < ks.length ∧ b.toNat < 1024) then some (upz (upz (upz (upz (upz s8 b.toNat 0 number) b.toNat 1 from_) b.toNat 2 to) b.toNat 3 str) b.toNat 5 (-1)) else none) else none) else none) else none) else none
set_option maxRecDepth 20000 in
theorem t_X0_init (r0 : List va_E) (r1 : List va_E) (r2 : List va_E) (r3 : List va_E) (r4 : List va_E) (r5 : List va_E) (r6 : List va_E) (r7 : List va_E) (s8 : zZ) (r9 : List va_E) (ks : List Int) (number : Int) (from_ : Int) (to : Int) (str : Int) (b : Int) {rr : zZ} (H : d_X0_init s8 ks number from_ to str b = some rr) : xC MX0_init 0 [.ref (1024 * 8 + b.toNat), .int (zI number), .int (zI from_), .int (zI to), .int (zI str)] ([r0, r1, r2, r3, r4, r5, r6, r7, zH s8 (zLb ks) 0, r9]) (none) ([r0, r1, r2, r3, r4, r5, r6, r7, zH rr (zLb ks) 0, r9]) := by
  refine ⟨Nat.le_of_ble_eq_true rfl, ?_⟩
  show xBody MX0_init 0 0 [some (.ref (1024 * 8 + b.toNat)), some (.int (zI number)), some (.int (zI from_)), some (.int (zI to)), some (.int (zI str))] [] ([r0, r1, r2, r3, r4, r5, r6, r7, zH s8 (zLb ks) 0, r9]) _ _
  unfold d_X0_init at H
  refine xB.run oX0_init 4 (s := (6, [some (.ref (1024 * 8 + b.toNat)), some (.int (zI number)), some (.int (zI from_)), some (.int (zI to)), some (.int (zI str))], [.int (zI number), .ref (1024 * 8 + b.toNat)], [r0, r1, r2, r3, r4, r5, r6, r7, zH s8 (zLb ks) 0, r9])) rfl ?_
  obtain ⟨g5, H⟩ := zgd H
  refine zB.putI oX0_init (g := 8) (p := b.toNat) (k := 0) (y := 0) (hp1 := [r0, r1, r2, r3, r4, r5, r6, r7, zH (upz s8 b.toNat 0 number) (zLb ks) 0, r9]) rfl rfl (by omega) (by decide) rfl (zLb_at _ g5.1) (zks_bar _ 0 0 0 _ rfl rfl rfl) rfl (zfitbar0 _) rfl ?_
  refine xB.run oX0_init 2 (s := (11, [some (.ref (1024 * 8 + b.toNat)), some (.int (zI number)), some (.int (zI from_)), some (.int (zI to)), some (.int (zI str))], [.int (zI from_), .ref (1024 * 8 + b.toNat)], [r0, r1, r2, r3, r4, r5, r6, r7, zH (upz s8 b.toNat 0 number) (zLb ks) 0, r9])) rfl ?_
  obtain ⟨g4, H⟩ := zgd H
  refine zB.putI oX0_init (g := 8) (p := b.toNat) (k := 1) (y := 0) (hp1 := [r0, r1, r2, r3, r4, r5, r6, r7, zH (upz (upz s8 b.toNat 0 number) b.toNat 1 from_) (zLb ks) 0, r9]) rfl rfl (by omega) (by decide) rfl (zLb_at _ g4.1) (zks_bar _ 1 1 1 _ rfl rfl rfl) rfl (zfitbar1 _) rfl ?_
  refine xB.run oX0_init 2 (s := (16, [some (.ref (1024 * 8 + b.toNat)), some (.int (zI number)), some (.int (zI from_)), some (.int (zI to)), some (.int (zI str))], [.int (zI to), .ref (1024 * 8 + b.toNat)], [r0, r1, r2, r3, r4, r5, r6, r7, zH (upz (upz s8 b.toNat 0 number) b.toNat 1 from_) (zLb ks) 0, r9])) rfl ?_
  obtain ⟨g3, H⟩ := zgd H
  refine zB.putI oX0_init (g := 8) (p := b.toNat) (k := 2) (y := 0) (hp1 := [r0, r1, r2, r3, r4, r5, r6, r7, zH (upz (upz (upz s8 b.toNat 0 number) b.toNat 1 from_) b.toNat 2 to) (zLb ks) 0, r9]) rfl rfl (by omega) (by decide) rfl (zLb_at _ g3.1) (zks_bar _ 2 2 2 _ rfl rfl rfl) rfl (zfitbar2 _) rfl ?_
  refine xB.run oX0_init 2 (s := (22, [some (.ref (1024 * 8 + b.toNat)), some (.int (zI number)), some (.int (zI from_)), some (.int (zI to)), some (.int (zI str))], [.int (zI str), .ref (1024 * 8 + b.toNat)], [r0, r1, r2, r3, r4, r5, r6, r7, zH (upz (upz (upz s8 b.toNat 0 number) b.toNat 1 from_) b.toNat 2 to) (zLb ks) 0, r9])) rfl ?_
  obtain ⟨g2, H⟩ := zgd H
  refine zB.putI oX0_init (g := 8) (p := b.toNat) (k := 3) (y := 0) (hp1 := [r0, r1, r2, r3, r4, r5, r6, r7, zH (upz (upz (upz (upz s8 b.toNat 0 number) b.toNat 1 from_) b.toNat 2 to) b.toNat 3 str) (zLb ks) 0, r9]) rfl rfl (by omega) (by decide) rfl (zLb_at _ g2.1) (zks_bar _ 3 3 3 _ rfl rfl rfl) rfl (zfitbar3 _) rfl ?_
  refine xB.run oX0_init 2 (s := (27, [some (.ref (1024 * 8 + b.toNat)), some (.int (zI number)), some (.int (zI from_)), some (.int (zI to)), some (.int (zI str))], [.int (zI (-1)), .ref (1024 * 8 + b.toNat)], [r0, r1, r2, r3, r4, r5, r6, r7, zH (upz (upz (upz (upz s8 b.toNat 0 number) b.toNat 1 from_) b.toNat 2 to) b.toNat 3 str) (zLb ks) 0, r9])) rfl ?_
  obtain ⟨g1, H⟩ := zgd H
  refine zB.putI oX0_init (g := 8) (p := b.toNat) (k := 5) (y := 0) (hp1 := [r0, r1, r2, r3, r4, r5, r6, r7, zH (upz (upz (upz (upz (upz s8 b.toNat 0 number) b.toNat 1 from_) b.toNat 2 to) b.toNat 3 str) b.toNat 5 (-1)) (zLb ks) 0, r9]) rfl rfl (by omega) (by decide) rfl (zLb_at _ g1.1) (zks_bar _ 5 5 5 _ rfl rfl rfl) rfl (zfitbar5 _) rfl ?_
  obtain rfl := Option.some.inj H
  exact xB.ret oX0_init (r1 := none) rfl rfl rfl
def d_X3_init (s8 : zZ) (ks : List Int) (number : Int) (from_ : Int) (to : Int) (str : Int) (b : Int) : Option (zZ) := (d_X0_init s8 ks number from_ to str b).bind fun y1 => some y1
set_option maxRecDepth 20000 in
theorem t_X3_init (r0 : List va_E) (r1 : List va_E) (r2 : List va_E) (r3 : List va_E) (r4 : List va_E) (r5 : List va_E) (r6 : List va_E) (r7 : List va_E) (s8 : zZ) (r9 : List va_E) (ks : List Int) (number : Int) (from_ : Int) (to : Int) (str : Int) (b : Int) {rr : zZ} (H : d_X3_init s8 ks number from_ to str b = some rr) : xC MX3_init 1 [.ref (1024 * 8 + b.toNat), .int (zI number), .int (zI from_), .int (zI to), .int (zI str)] ([r0, r1, r2, r3, r4, r5, r6, r7, zH s8 (zLb ks) 0, r9]) (none) ([r0, r1, r2, r3, r4, r5, r6, r7, zH rr (zLb ks) 0, r9]) := by
  refine ⟨Nat.le_of_ble_eq_true rfl, ?_⟩
  show xBody MX3_init 1 0 [some (.ref (1024 * 8 + b.toNat)), some (.int (zI number)), some (.int (zI from_)), some (.int (zI to)), some (.int (zI str))] [] ([r0, r1, r2, r3, r4, r5, r6, r7, zH s8 (zLb ks) 0, r9]) _ _
  unfold d_X3_init at H
  refine xB.run oX3_init 5 (s := (6, [some (.ref (1024 * 8 + b.toNat)), some (.int (zI number)), some (.int (zI from_)), some (.int (zI to)), some (.int (zI str))], [.int (zI str), .int (zI to), .int (zI from_), .int (zI number), .ref (1024 * 8 + b.toNat)], [r0, r1, r2, r3, r4, r5, r6, r7, zH s8 (zLb ks) 0, r9])) rfl ?_
  obtain ⟨y1, e2, H⟩ := zbd H
  refine xB.call oX3_init (M2 := MX0_init) rfl rfl ((t_X0_init r0 r1 r2 r3 r4 r5 r6 r7 s8 r9 ks number from_ to str b e2).deep (by decide : 0 ≤ 0)) ?_
  show xBody MX3_init 1 9 [some (.ref (1024 * 8 + b.toNat)), some (.int (zI number)), some (.int (zI from_)), some (.int (zI to)), some (.int (zI str))] [] ([r0, r1, r2, r3, r4, r5, r6, r7, zH y1 (zLb ks) 0, r9]) _ _
  obtain rfl := Option.some.inj H
  exact xB.ret oX3_init (r1 := none) rfl rfl rfl
def d_X1_init (s8 : zZ) (ks : List Int) (number : Int) (from_ : Int) (to : Int) (str : Int) (b : Int) : Option (zZ) := (d_X3_init s8 ks number from_ to str b).bind fun y1 => some y1
set_option maxRecDepth 20000 in
theorem t_X1_init (r0 : List va_E) (r1 : List va_E) (r2 : List va_E) (r3 : List va_E) (r4 : List va_E) (r5 : List va_E) (r6 : List va_E) (r7 : List va_E) (s8 : zZ) (r9 : List va_E) (ks : List Int) (number : Int) (from_ : Int) (to : Int) (str : Int) (b : Int) {rr : zZ} (H : d_X1_init s8 ks number from_ to str b = some rr) : xC MX1_init 2 [.ref (1024 * 8 + b.toNat), .int (zI number), .int (zI from_), .int (zI to), .int (zI str)] ([r0, r1, r2, r3, r4, r5, r6, r7, zH s8 (zLb ks) 0, r9]) (none) ([r0, r1, r2, r3, r4, r5, r6, r7, zH rr (zLb ks) 0, r9]) := by
  refine ⟨Nat.le_of_ble_eq_true rfl, ?_⟩
  show xBody MX1_init 2 0 [some (.ref (1024 * 8 + b.toNat)), some (.int (zI number)), some (.int (zI from_)), some (.int (zI to)), some (.int (zI str))] [] ([r0, r1, r2, r3, r4, r5, r6, r7, zH s8 (zLb ks) 0, r9]) _ _
  unfold d_X1_init at H
  refine xB.run oX1_init 5 (s := (6, [some (.ref (1024 * 8 + b.toNat)), some (.int (zI number)), some (.int (zI from_)), some (.int (zI to)), some (.int (zI str))], [.int (zI str), .int (zI to), .int (zI from_), .int (zI number), .ref (1024 * 8 + b.toNat)], [r0, r1, r2, r3, r4, r5, r6, r7, zH s8 (zLb ks) 0, r9])) rfl ?_
  obtain ⟨y1, e2, H⟩ := zbd H
  refine xB.call oX1_init (M2 := MX3_init) rfl rfl ((t_X3_init r0 r1 r2 r3 r4 r5 r6 r7 s8 r9 ks number from_ to str b e2).deep (by decide : 1 ≤ 1)) ?_
  show xBody MX1_init 2 9 [some (.ref (1024 * 8 + b.toNat)), some (.int (zI number)), some (.int (zI from_)), some (.int (zI to)), some (.int (zI str))] [] ([r0, r1, r2, r3, r4, r5, r6, r7, zH y1 (zLb ks) 0, r9]) _ _
  obtain rfl := Option.some.inj H
  exact xB.ret oX1_init (r1 := none) rfl rfl rfl
def d_X4_isJoint (s3 : zZ) (j : Int) : Option (Int) := if (zr j) then (if j < 0 then some 0 else (if (zr j ∧ zr (s3 0 4)) then (if (s3 0 4) ≤ j then some 0 else some 1) else none)) else none
set_option maxRecDepth 20000 in
theorem t_X4_isJoint (r0 : List va_E) (r1 : List va_E) (r2 : List va_E) (s3 : zZ) (r4 : List va_E) (r5 : List va_E) (r6 : List va_E) (r7 : List va_E) (r8 : List va_E) (r9 : List va_E) (j : Int) {rr : Int} (H : d_X4_isJoint s3 j = some rr) : xC MX4_isJoint 0 [.ref 3072, .int (zI j)] ([r0, r1, r2, zH s3 zL3 0, r4, r5, r6, r7, r8, r9]) (some (.int (zI rr))) ([r0, r1, r2, zH s3 zL3 0, r4, r5, r6, r7, r8, r9]) := by
  refine ⟨Nat.le_of_ble_eq_true rfl, ?_⟩
  show xBody MX4_isJoint 0 0 [some (.ref 3072), some (.int (zI j))] [] ([r0, r1, r2, zH s3 zL3 0, r4, r5, r6, r7, r8, r9]) _ _
  unfold d_X4_isJoint at H
  refine xB.run oX4_isJoint 1 (s := (1, [some (.ref 3072), some (.int (zI j))], [.int (zI j)], [r0, r1, r2, zH s3 zL3 0, r4, r5, r6, r7, r8, r9])) rfl ?_
  obtain ⟨g4, H⟩ := zgd H
  have H := zif H
  refine xB.brE oX4_isJoint (P := j < 0) rfl (zc_lt (a := j) (b := 0) ⟨g4, by decide⟩) (fun h1 => ?_) (fun h1 => ?_)
  · have H := H.1 h1
    refine xB.run oX4_isJoint 1 (s := (17, [some (.ref 3072), some (.int (zI j))], [.int (zI 0)], [r0, r1, r2, zH s3 zL3 0, r4, r5, r6, r7, r8, r9])) rfl ?_
    obtain rfl := Option.some.inj H
    exact xB.ret oX4_isJoint (r1 := some (.int (zI 0))) rfl rfl rfl
  · have H := H.2 h1
    refine xB.run oX4_isJoint 3 (s := (9, [some (.ref 3072), some (.int (zI j))], [.int (zI (s3 0 4)), .int (zI j)], [r0, r1, r2, zH s3 zL3 0, r4, r5, r6, r7, r8, r9])) rfl ?_
    obtain ⟨g3, H⟩ := zgd H
    have H := zif H
    refine xB.brE oX4_isJoint (P := (s3 0 4) ≤ j) rfl (zc_ge (a := j) (b := s3 0 4) g3) (fun h2 => ?_) (fun h2 => ?_)
    · have H := H.1 h2
      refine xB.run oX4_isJoint 1 (s := (17, [some (.ref 3072), some (.int (zI j))], [.int (zI 0)], [r0, r1, r2, zH s3 zL3 0, r4, r5, r6, r7, r8, r9])) rfl ?_
      obtain rfl := Option.some.inj H
      exact xB.ret oX4_isJoint (r1 := some (.int (zI 0))) rfl rfl rfl
    · have H := H.2 h2
      refine xB.run oX4_isJoint 2 (s := (17, [some (.ref 3072), some (.int (zI j))], [.int (zI 1)], [r0, r1, r2, zH s3 zL3 0, r4, r5, r6, r7, r8, r9])) rfl ?_
      obtain rfl := Option.some.inj H
      exact xB.ret oX4_isJoint (r1 := some (.int (zI 1))) rfl rfl rfl
def d_X4_isFree (s3 : zZ) (j : Int) : Option (Int) := (d_X4_isJoint s3 j).bind fun y1 => if (zr y1) then (if y1 = 0 then some 0 else (if (0 ≤ j ∧ j < 8) then (if (zr (s3 4 j.toNat)) then (if (s3 4 j.toNat) = (-1) then some 0 else some 1) else none) else none)) else none
set_option maxRecDepth 20000 in
theorem t_X4_isFree (r0 : List va_E) (r1 : List va_E) (r2 : List va_E) (s3 : zZ) (r4 : List va_E) (r5 : List va_E) (r6 : List va_E) (r7 : List va_E) (r8 : List va_E) (r9 : List va_E) (j : Int) {rr : Int} (H : d_X4_isFree s3 j = some rr) : xC MX4_isFree 1 [.ref 3072, .int (zI j)] ([r0, r1, r2, zH s3 zL3 0, r4, r5, r6, r7, r8, r9]) (some (.int (zI rr))) ([r0, r1, r2, zH s3 zL3 0, r4, r5, r6, r7, r8, r9]) := by
  refine ⟨Nat.le_of_ble_eq_true rfl, ?_⟩
  show xBody MX4_isFree 1 0 [some (.ref 3072), some (.int (zI j))] [] ([r0, r1, r2, zH s3 zL3 0, r4, r5, r6, r7, r8, r9]) _ _
  unfold d_X4_isFree at H
  refine xB.run oX4_isFree 2 (s := (2, [some (.ref 3072), some (.int (zI j))], [.int (zI j), .ref 3072], [r0, r1, r2, zH s3 zL3 0, r4, r5, r6, r7, r8, r9])) rfl ?_
  obtain ⟨y1, e2, H⟩ := zbd H
  refine xB.call oX4_isFree (M2 := MX4_isJoint) rfl rfl ((t_X4_isJoint r0 r1 r2 s3 r4 r5 r6 r7 r8 r9 j e2).deep (by decide : 0 ≤ 0)) ?_
  show xBody MX4_isFree 1 5 [some (.ref 3072), some (.int (zI j))] [.int (zI y1)] ([r0, r1, r2, zH s3 zL3 0, r4, r5, r6, r7, r8, r9]) _ _
  obtain ⟨g7, H⟩ := zgd H
  have H := zif H
  refine xB.brE oX4_isFree (P := y1 = 0) rfl (zc_eq (a := y1) (b := 0) ⟨g7, by decide⟩) (fun h3 => ?_) (fun h3 => ?_)
  · have H := H.1 h3
    refine xB.run oX4_isFree 1 (s := (23, [some (.ref 3072), some (.int (zI j))], [.int (zI 0)], [r0, r1, r2, zH s3 zL3 0, r4, r5, r6, r7, r8, r9])) rfl ?_
    obtain rfl := Option.some.inj H
    exact xB.ret oX4_isFree (r1 := some (.int (zI 0))) rfl rfl rfl
  · have H := H.2 h3
    refine xB.run oX4_isFree 3 (s := (13, [some (.ref 3072), some (.int (zI j))], [.int (zI j), .ref 3076], [r0, r1, r2, zH s3 zL3 0, r4, r5, r6, r7, r8, r9])) rfl ?_
    obtain ⟨g6, H⟩ := zgd H
    refine zB.iald oX4_isFree (g := 3) (p := 4) (N := 8) (i := j) rfl rfl (by decide) rfl rfl (by decide) g6 ?_
    refine xB.run oX4_isFree 1 (s := (15, [some (.ref 3072), some (.int (zI j))], [.int (zI (-1)), .int (zI (s3 4 j.toNat))], [r0, r1, r2, zH s3 zL3 0, r4, r5, r6, r7, r8, r9])) rfl ?_
    obtain ⟨g5, H⟩ := zgd H
    have H := zif H
    refine xB.brE oX4_isFree (P := (s3 4 j.toNat) = (-1)) rfl (zc_eq (a := s3 4 j.toNat) (b := (-1)) ⟨g5, by decide⟩) (fun h4 => ?_) (fun h4 => ?_)
    · have H := H.1 h4
      refine xB.run oX4_isFree 1 (s := (23, [some (.ref 3072), some (.int (zI j))], [.int (zI 0)], [r0, r1, r2, zH s3 zL3 0, r4, r5, r6, r7, r8, r9])) rfl ?_
      obtain rfl := Option.some.inj H
      exact xB.ret oX4_isFree (r1 := some (.int (zI 0))) rfl rfl rfl
    · have H := H.2 h4
      refine xB.run oX4_isFree 2 (s := (23, [some (.ref 3072), some (.int (zI j))], [.int (zI 1)], [r0, r1, r2, zH s3 zL3 0, r4, r5, r6, r7, r8, r9])) rfl ?_
      obtain rfl := Option.some.inj H
      exact xB.ret oX4_isFree (r1 := some (.int (zI 1))) rfl rfl rfl
def d_X4_isTaken_2 (s3 : zZ) (x : Int) (y : Int) : Nat → Int → Option (Sum (Int) (Int))
  | 0, _ => none
  | uN + 1, j => if (zr j ∧ zr (s3 0 4)) then (if (s3 0 4) ≤ j then some (.inl j) else (if (0 ≤ j ∧ j < 8) then (if (zr (s3 2 j.toNat) ∧ zr x) then (if (s3 2 j.toNat) ≠ x then (d_X4_isTaken_2 s3 x y uN (j + 1)) else (if (0 ≤ j ∧ j < 8) then (if (zr (s3 3 j.toNat) ∧ zr y) then (if (s3 3 j.toNat) ≠ y then (d_X4_isTaken_2 s3 x y uN (j + 1)) else some (.inr 1)) else none) else none)) else none) else none)) else none
def d_X4_isTaken (s3 : zZ) (x : Int) (y : Int) : Option (Int) := (d_X4_isTaken_2 s3 x y zF 0).bind fun y9 => match y9 with | .inl y11 => some 0 | .inr y12 => some y12
set_option maxRecDepth 20000 in
theorem l_X4_isTaken_2 (r0 : List va_E) (r1 : List va_E) (r2 : List va_E) (s3 : zZ) (r4 : List va_E) (r5 : List va_E) (r6 : List va_E) (r7 : List va_E) (r8 : List va_E) (r9 : List va_E) (x : Int) (y : Int) {r : Option Value} {hp1 : xH} : ∀ (uN : Nat) (j : Int) {uX : Sum (Int) (Int)}, d_X4_isTaken_2 s3 x y uN j = some uX → ((∀ uY, uX = .inl uY → xBody MX4_isTaken 0 38 [some (.ref 3072), some (.int (zI x)), some (.int (zI y)), some (.int (zI uY))] [] ([r0, r1, r2, zH s3 zL3 0, r4, r5, r6, r7, r8, r9]) r hp1) ∧ (∀ uW, uX = .inr uW → r = some (.int (zI uW)) ∧ hp1 = [r0, r1, r2, zH s3 zL3 0, r4, r5, r6, r7, r8, r9])) → xBody MX4_isTaken 0 2 [some (.ref 3072), some (.int (zI x)), some (.int (zI y)), some (.int (zI j))] [] ([r0, r1, r2, zH s3 zL3 0, r4, r5, r6, r7, r8, r9]) r hp1 := by
  intro uN
  induction uN with
  | zero => intro j uX H K; cases H
  | succ uN ih =>
    intro j uX H K
    unfold d_X4_isTaken_2 at H
    refine xB.run oX4_isTaken 3 (s := (7, [some (.ref 3072), some (.int (zI x)), some (.int (zI y)), some (.int (zI j))], [.int (zI (s3 0 4)), .int (zI j)], [r0, r1, r2, zH s3 zL3 0, r4, r5, r6, r7, r8, r9])) rfl ?_
    obtain ⟨g8, H⟩ := zgd H
    have H := zif H
    refine xB.brE oX4_isTaken (P := (s3 0 4) ≤ j) rfl (zc_ge (a := j) (b := s3 0 4) g8) (fun h1 => ?_) (fun h1 => ?_)
    · have H := H.1 h1
      obtain rfl := Option.some.inj H
      exact K.1 _ rfl
    · have H := H.2 h1
      refine xB.run oX4_isTaken 3 (s := (15, [some (.ref 3072), some (.int (zI x)), some (.int (zI y)), some (.int (zI j))], [.int (zI j), .ref 3074], [r0, r1, r2, zH s3 zL3 0, r4, r5, r6, r7, r8, r9])) rfl ?_
      obtain ⟨g7, H⟩ := zgd H
      refine zB.iald oX4_isTaken (g := 3) (p := 2) (N := 8) (i := j) rfl rfl (by decide) rfl rfl (by decide) g7 ?_
      refine xB.run oX4_isTaken 1 (s := (17, [some (.ref 3072), some (.int (zI x)), some (.int (zI y)), some (.int (zI j))], [.int (zI x), .int (zI (s3 2 j.toNat))], [r0, r1, r2, zH s3 zL3 0, r4, r5, r6, r7, r8, r9])) rfl ?_
      obtain ⟨g6, H⟩ := zgd H
      have H := zif H
      refine xB.brE oX4_isTaken (P := (s3 2 j.toNat) ≠ x) rfl (zc_ne (a := s3 2 j.toNat) (b := x) g6) (fun h2 => ?_) (fun h2 => ?_)
      · have H := H.1 h2
        refine zB.inc oX4_isTaken rfl (lv2 := [some (.ref 3072), some (.int (zI x)), some (.int (zI y)), some (.int (zI (j + 1)))]) (zi_inc (a := 0) (zi_addp1 j) _ rfl) ?_
        refine xB.run oX4_isTaken 1 (s := (2, [some (.ref 3072), some (.int (zI x)), some (.int (zI y)), some (.int (zI (j + 1)))], [], [r0, r1, r2, zH s3 zL3 0, r4, r5, r6, r7, r8, r9])) rfl ?_
        exact ih (j + 1) H K
      · have H := H.2 h2
        refine xB.run oX4_isTaken 3 (s := (25, [some (.ref 3072), some (.int (zI x)), some (.int (zI y)), some (.int (zI j))], [.int (zI j), .ref 3075], [r0, r1, r2, zH s3 zL3 0, r4, r5, r6, r7, r8, r9])) rfl ?_
        obtain ⟨g5, H⟩ := zgd H
        refine zB.iald oX4_isTaken (g := 3) (p := 3) (N := 8) (i := j) rfl rfl (by decide) rfl rfl (by decide) g5 ?_
        refine xB.run oX4_isTaken 1 (s := (27, [some (.ref 3072), some (.int (zI x)), some (.int (zI y)), some (.int (zI j))], [.int (zI y), .int (zI (s3 3 j.toNat))], [r0, r1, r2, zH s3 zL3 0, r4, r5, r6, r7, r8, r9])) rfl ?_
        obtain ⟨g4, H⟩ := zgd H
        have H := zif H
        refine xB.brE oX4_isTaken (P := (s3 3 j.toNat) ≠ y) rfl (zc_ne (a := s3 3 j.toNat) (b := y) g4) (fun h3 => ?_) (fun h3 => ?_)
        · have H := H.1 h3
          refine zB.inc oX4_isTaken rfl (lv2 := [some (.ref 3072), some (.int (zI x)), some (.int (zI y)), some (.int (zI (j + 1)))]) (zi_inc (a := 0) (zi_addp1 j) _ rfl) ?_
          refine xB.run oX4_isTaken 1 (s := (2, [some (.ref 3072), some (.int (zI x)), some (.int (zI y)), some (.int (zI (j + 1)))], [], [r0, r1, r2, zH s3 zL3 0, r4, r5, r6, r7, r8, r9])) rfl ?_
          exact ih (j + 1) H K
        · have H := H.2 h3
          refine xB.run oX4_isTaken 1 (s := (31, [some (.ref 3072), some (.int (zI x)), some (.int (zI y)), some (.int (zI j))], [.int (zI 1)], [r0, r1, r2, zH s3 zL3 0, r4, r5, r6, r7, r8, r9])) rfl ?_
          obtain rfl := Option.some.inj H
          obtain ⟨kr, kh⟩ := K.2 _ rfl
          subst kr kh
          exact xB.ret oX4_isTaken (r1 := some (.int (zI 1))) rfl rfl rfl
set_option maxRecDepth 20000 in
theorem t_X4_isTaken (r0 : List va_E) (r1 : List va_E) (r2 : List va_E) (s3 : zZ) (r4 : List va_E) (r5 : List va_E) (r6 : List va_E) (r7 : List va_E) (r8 : List va_E) (r9 : List va_E) (x : Int) (y : Int) {rr : Int} (H : d_X4_isTaken s3 x y = some rr) : xC MX4_isTaken 0 [.ref 3072, .int (zI x), .int (zI y)] ([r0, r1, r2, zH s3 zL3 0, r4, r5, r6, r7, r8, r9]) (some (.int (zI rr))) ([r0, r1, r2, zH s3 zL3 0, r4, r5, r6, r7, r8, r9]) := by
  refine ⟨Nat.le_of_ble_eq_true rfl, ?_⟩
  show xBody MX4_isTaken 0 0 [some (.ref 3072), some (.int (zI x)), some (.int (zI y)), none] [] ([r0, r1, r2, zH s3 zL3 0, r4, r5, r6, r7, r8, r9]) _ _
  unfold d_X4_isTaken at H
  refine xB.run oX4_isTaken 2 (s := (2, [some (.ref 3072), some (.int (zI x)), some (.int (zI y)), some (.int (zI 0))], [], [r0, r1, r2, zH s3 zL3 0, r4, r5, r6, r7, r8, r9])) rfl ?_
  obtain ⟨y9, e10, H⟩ := zbd H
  refine l_X4_isTaken_2 r0 r1 r2 s3 r4 r5 r6 r7 r8 r9 x y _ 0 e10 ?_
  refine ⟨fun y11 uQ => ?_, fun y12 uQ => ?_⟩
  · subst uQ
    refine xB.run oX4_isTaken 1 (s := (39, [some (.ref 3072), some (.int (zI x)), some (.int (zI y)), some (.int (zI y11))], [.int (zI 0)], [r0, r1, r2, zH s3 zL3 0, r4, r5, r6, r7, r8, r9])) rfl ?_
    obtain rfl := Option.some.inj H
    exact xB.ret oX4_isTaken (r1 := some (.int (zI 0))) rfl rfl rfl
  · subst uQ
    obtain rfl := Option.some.inj H
    exact ⟨rfl, rfl⟩
def d_X4_hasRoomForJoint (s3 : zZ) (held : Int) : Option (Int) := if (zr (s3 0 4)) then (if (8 : Int) ≤ (s3 0 4) then some 0 else (if (zr held) then (if held ≠ 0 then some 1 else (if (zr (s3 0 5)) then (if (4 : Int) ≤ (s3 0 5) then some 0 else some 1) else none)) else none)) else none
set_option maxRecDepth 20000 in
theorem t_X4_hasRoomForJoint (r0 : List va_E) (r1 : List va_E) (r2 : List va_E) (s3 : zZ) (r4 : List va_E) (r5 : List va_E) (r6 : List va_E) (r7 : List va_E) (r8 : List va_E) (r9 : List va_E) (held : Int) {rr : Int} (H : d_X4_hasRoomForJoint s3 held = some rr) : xC MX4_hasRoomForJoint 0 [.ref 3072, .int (zI held)] ([r0, r1, r2, zH s3 zL3 0, r4, r5, r6, r7, r8, r9]) (some (.int (zI rr))) ([r0, r1, r2, zH s3 zL3 0, r4, r5, r6, r7, r8, r9]) := by
  refine ⟨Nat.le_of_ble_eq_true rfl, ?_⟩
  show xBody MX4_hasRoomForJoint 0 0 [some (.ref 3072), some (.int (zI held))] [] ([r0, r1, r2, zH s3 zL3 0, r4, r5, r6, r7, r8, r9]) _ _
  unfold d_X4_hasRoomForJoint at H
  refine xB.run oX4_hasRoomForJoint 3 (s := (6, [some (.ref 3072), some (.int (zI held))], [.int (zI 8), .int (zI (s3 0 4))], [r0, r1, r2, zH s3 zL3 0, r4, r5, r6, r7, r8, r9])) rfl ?_
  obtain ⟨g6, H⟩ := zgd H
  have H := zif H
  refine xB.brE oX4_hasRoomForJoint (P := (8 : Int) ≤ (s3 0 4)) rfl (zc_ge (a := s3 0 4) (b := 8) ⟨g6, by decide⟩) (fun h1 => ?_) (fun h1 => ?_)
  · have H := H.1 h1
    refine xB.run oX4_hasRoomForJoint 1 (s := (26, [some (.ref 3072), some (.int (zI held))], [.int (zI 0)], [r0, r1, r2, zH s3 zL3 0, r4, r5, r6, r7, r8, r9])) rfl ?_
    obtain rfl := Option.some.inj H
    exact xB.ret oX4_hasRoomForJoint (r1 := some (.int (zI 0))) rfl rfl rfl
  · have H := H.2 h1
    refine xB.run oX4_hasRoomForJoint 1 (s := (10, [some (.ref 3072), some (.int (zI held))], [.int (zI held)], [r0, r1, r2, zH s3 zL3 0, r4, r5, r6, r7, r8, r9])) rfl ?_
    obtain ⟨g5, H⟩ := zgd H
    have H := zif H
    refine xB.brE oX4_hasRoomForJoint (P := held ≠ 0) rfl (zc_ne (a := held) (b := 0) ⟨g5, by decide⟩) (fun h2 => ?_) (fun h2 => ?_)
    · have H := H.1 h2
      refine xB.run oX4_hasRoomForJoint 2 (s := (26, [some (.ref 3072), some (.int (zI held))], [.int (zI 1)], [r0, r1, r2, zH s3 zL3 0, r4, r5, r6, r7, r8, r9])) rfl ?_
      obtain rfl := Option.some.inj H
      exact xB.ret oX4_hasRoomForJoint (r1 := some (.int (zI 1))) rfl rfl rfl
    · have H := H.2 h2
      refine xB.run oX4_hasRoomForJoint 3 (s := (18, [some (.ref 3072), some (.int (zI held))], [.int (zI 4), .int (zI (s3 0 5))], [r0, r1, r2, zH s3 zL3 0, r4, r5, r6, r7, r8, r9])) rfl ?_
      obtain ⟨g4, H⟩ := zgd H
      have H := zif H
      refine xB.brE oX4_hasRoomForJoint (P := (4 : Int) ≤ (s3 0 5)) rfl (zc_ge (a := s3 0 5) (b := 4) ⟨g4, by decide⟩) (fun h3 => ?_) (fun h3 => ?_)
      · have H := H.1 h3
        refine xB.run oX4_hasRoomForJoint 1 (s := (26, [some (.ref 3072), some (.int (zI held))], [.int (zI 0)], [r0, r1, r2, zH s3 zL3 0, r4, r5, r6, r7, r8, r9])) rfl ?_
        obtain rfl := Option.some.inj H
        exact xB.ret oX4_hasRoomForJoint (r1 := some (.int (zI 0))) rfl rfl rfl
      · have H := H.2 h3
        refine xB.run oX4_hasRoomForJoint 2 (s := (26, [some (.ref 3072), some (.int (zI held))], [.int (zI 1)], [r0, r1, r2, zH s3 zL3 0, r4, r5, r6, r7, r8, r9])) rfl ?_
        obtain rfl := Option.some.inj H
        exact xB.ret oX4_hasRoomForJoint (r1 := some (.int (zI 1))) rfl rfl rfl
def d_X4_addJoint (s3 : zZ) (x : Int) (y : Int) (held : Int) : Option (Int × zZ) := (d_X4_hasRoomForJoint s3 held).bind fun y1 => if (zr y1) then (if y1 ≠ 0 then (if (0 ≤ (s3 0 4) ∧ (s3 0 4) < 8) then (if (0 ≤ ((upz s3 2 (s3 0 4).toNat x) 0 4) ∧ ((upz s3 2 (s3 0 4).toNat x) 0 4) < 8) then (if (0 ≤ ((upz (upz s3 2 (s3 0 4).toNat x) 3 ((upz s3 2 (s3 0 4).toNat x) 0 4).toNat y) 0 4) ∧ ((upz (upz s3 2 (s3 0 4).toNat x) 3 ((upz s3 2 (s3 0 4).toNat x) 0 4).toNat y) 0 4) < 8) then (if (zr held) then (if held ≠ 0 then some (((upz (upz (upz (upz (upz s3 2 (s3 0 4).toNat x) 3 ((upz s3 2 (s3 0 4).toNat x) 0 4).toNat y) 4 ((upz (upz s3 2 (s3 0 4).toNat x) 3 ((upz s3 2 (s3 0 4).toNat x) 0 4).toNat y) 0 4).toNat (-1)) 0 10 1) 0 4 (((upz (upz (upz (upz s3 2 (s3 0 4).toNat x) 3 ((upz s3 2 (s3 0 4).toNat x) 0 4).toNat y) 4 ((upz (upz s3 2 (s3 0 4).toNat x) 3 ((upz s3 2 (s3 0 4).toNat x) 0 4).toNat y) 0 4).toNat (-1)) 0 10 1) 0 4) + 1)) 0 4) - 1, upz (upz (upz (upz (upz s3 2 (s3 0 4).toNat x) 3 ((upz s3 2 (s3 0 4).toNat x) 0 4).toNat y) 4 ((upz (upz s3 2 (s3 0 4).toNat x) 3 ((upz s3 2 (s3 0 4).toNat x) 0 4).toNat y) 0 4).toNat (-1)) 0 10 1) 0 4 (((upz (upz (upz (upz s3 2 (s3 0 4).toNat x) 3 ((upz s3 2 (s3 0 4).toNat x) 0 4).toNat y) 4 ((upz (upz s3 2 (s3 0 4).toNat x) 3 ((upz s3 2 (s3 0 4).toNat x) 0 4).toNat y) 0 4).toNat (-1)) 0 10 1) 0 4) + 1)) else (if (0 ≤ ((upz (upz (upz s3 2 (s3 0 4).toNat x) 3 ((upz s3 2 (s3 0 4).toNat x) 0 4).toNat y) 4 ((upz (upz s3 2 (s3 0 4).toNat x) 3 ((upz s3 2 (s3 0 4).toNat x) 0 4).toNat y) 0 4).toNat (-1)) 0 4) ∧ ((upz (upz (upz s3 2 (s3 0 4).toNat x) 3 ((upz s3 2 (s3 0 4).toNat x) 0 4).toNat y) 4 ((upz (upz s3 2 (s3 0 4).toNat x) 3 ((upz s3 2 (s3 0 4).toNat x) 0 4).toNat y) 0 4).toNat (-1)) 0 4) < 8) then some (((upz (upz (upz (upz (upz (upz (upz s3 2 (s3 0 4).toNat x) 3 ((upz s3 2 (s3 0 4).toNat x) 0 4).toNat y) 4 ((upz (upz s3 2 (s3 0 4).toNat x) 3 ((upz s3 2 (s3 0 4).toNat x) 0 4).toNat y) 0 4).toNat (-1)) 4 ((upz (upz (upz s3 2 (s3 0 4).toNat x) 3 ((upz s3 2 (s3 0 4).toNat x) 0 4).toNat y) 4 ((upz (upz s3 2 (s3 0 4).toNat x) 3 ((upz s3 2 (s3 0 4).toNat x) 0 4).toNat y) 0 4).toNat (-1)) 0 4).toNat ((upz (upz (upz s3 2 (s3 0 4).toNat x) 3 ((upz s3 2 (s3 0 4).toNat x) 0 4).toNat y) 4 ((upz (upz s3 2 (s3 0 4).toNat x) 3 ((upz s3 2 (s3 0 4).toNat x) 0 4).toNat y) 0 4).toNat (-1)) 0 5)) 0 5 (((upz (upz (upz (upz s3 2 (s3 0 4).toNat x) 3 ((upz s3 2 (s3 0 4).toNat x) 0 4).toNat y) 4 ((upz (upz s3 2 (s3 0 4).toNat x) 3 ((upz s3 2 (s3 0 4).toNat x) 0 4).toNat y) 0 4).toNat (-1)) 4 ((upz (upz (upz s3 2 (s3 0 4).toNat x) 3 ((upz s3 2 (s3 0 4).toNat x) 0 4).toNat y) 4 ((upz (upz s3 2 (s3 0 4).toNat x) 3 ((upz s3 2 (s3 0 4).toNat x) 0 4).toNat y) 0 4).toNat (-1)) 0 4).toNat ((upz (upz (upz s3 2 (s3 0 4).toNat x) 3 ((upz s3 2 (s3 0 4).toNat x) 0 4).toNat y) 4 ((upz (upz s3 2 (s3 0 4).toNat x) 3 ((upz s3 2 (s3 0 4).toNat x) 0 4).toNat y) 0 4).toNat (-1)) 0 5)) 0 5) + 1)) 0 10 1) 0 4 (((upz (upz (upz (upz (upz (upz s3 2 (s3 0 4).toNat x) 3 ((upz s3 2 (s3 0 4).toNat x) 0 4).toNat y) 4 ((upz (upz s3 2 (s3 0 4).toNat x) 3 ((upz s3 2 (s3 0 4).toNat x) 0 4).toNat y) 0 4).toNat (-1)) 4 ((upz (upz (upz s3 2 (s3 0 4).toNat x) 3 ((upz s3 2 (s3 0 4).toNat x) 0 4).toNat y) 4 ((upz (upz s3 2 (s3 0 4).toNat x) 3 ((upz s3 2 (s3 0 4).toNat x) 0 4).toNat y) 0 4).toNat (-1)) 0 4).toNat ((upz (upz (upz s3 2 (s3 0 4).toNat x) 3 ((upz s3 2 (s3 0 4).toNat x) 0 4).toNat y) 4 ((upz (upz s3 2 (s3 0 4).toNat x) 3 ((upz s3 2 (s3 0 4).toNat x) 0 4).toNat y) 0 4).toNat (-1)) 0 5)) 0 5 (((upz (upz (upz (upz s3 2 (s3 0 4).toNat x) 3 ((upz s3 2 (s3 0 4).toNat x) 0 4).toNat y) 4 ((upz (upz s3 2 (s3 0 4).toNat x) 3 ((upz s3 2 (s3 0 4).toNat x) 0 4).toNat y) 0 4).toNat (-1)) 4 ((upz (upz (upz s3 2 (s3 0 4).toNat x) 3 ((upz s3 2 (s3 0 4).toNat x) 0 4).toNat y) 4 ((upz (upz s3 2 (s3 0 4).toNat x) 3 ((upz s3 2 (s3 0 4).toNat x) 0 4).toNat y) 0 4).toNat (-1)) 0 4).toNat ((upz (upz (upz s3 2 (s3 0 4).toNat x) 3 ((upz s3 2 (s3 0 4).toNat x) 0 4).toNat y) 4 ((upz (upz s3 2 (s3 0 4).toNat x) 3 ((upz s3 2 (s3 0 4).toNat x) 0 4).toNat y) 0 4).toNat (-1)) 0 5)) 0 5) + 1)) 0 10 1) 0 4) + 1)) 0 4) - 1, upz (upz (upz (upz (upz (upz (upz s3 2 (s3 0 4).toNat x) 3 ((upz s3 2 (s3 0 4).toNat x) 0 4).toNat y) 4 ((upz (upz s3 2 (s3 0 4).toNat x) 3 ((upz s3 2 (s3 0 4).toNat x) 0 4).toNat y) 0 4).toNat (-1)) 4 ((upz (upz (upz s3 2 (s3 0 4).toNat x) 3 ((upz s3 2 (s3 0 4).toNat x) 0 4).toNat y) 4 ((upz (upz s3 2 (s3 0 4).toNat x) 3 ((upz s3 2 (s3 0 4).toNat x) 0 4).toNat y) 0 4).toNat (-1)) 0 4).toNat ((upz (upz (upz s3 2 (s3 0 4).toNat x) 3 ((upz s3 2 (s3 0 4).toNat x) 0 4).toNat y) 4 ((upz (upz s3 2 (s3 0 4).toNat x) 3 ((upz s3 2 (s3 0 4).toNat x) 0 4).toNat y) 0 4).toNat (-1)) 0 5)) 0 5 (((upz (upz (upz (upz s3 2 (s3 0 4).toNat x) 3 ((upz s3 2 (s3 0 4).toNat x) 0 4).toNat y) 4 ((upz (upz s3 2 (s3 0 4).toNat x) 3 ((upz s3 2 (s3 0 4).toNat x) 0 4).toNat y) 0 4).toNat (-1)) 4 ((upz (upz (upz s3 2 (s3 0 4).toNat x) 3 ((upz s3 2 (s3 0 4).toNat x) 0 4).toNat y) 4 ((upz (upz s3 2 (s3 0 4).toNat x) 3 ((upz s3 2 (s3 0 4).toNat x) 0 4).toNat y) 0 4).toNat (-1)) 0 4).toNat ((upz (upz (upz s3 2 (s3 0 4).toNat x) 3 ((upz s3 2 (s3 0 4).toNat x) 0 4).toNat y) 4 ((upz (upz s3 2 (s3 0 4).toNat x) 3 ((upz s3 2 (s3 0 4).toNat x) 0 4).toNat y) 0 4).toNat (-1)) 0 5)) 0 5) + 1)) 0 10 1) 0 4 (((upz (upz (upz (upz (upz (upz s3 2 (s3 0 4).toNat x) 3 ((upz s3 2 (s3 0 4).toNat x) 0 4).toNat y) 4 ((upz (upz s3 2 (s3 0 4).toNat x) 3 ((upz s3 2 (s3 0 4).toNat x) 0 4).toNat y) 0 4).toNat (-1)) 4 ((upz (upz (upz s3 2 (s3 0 4).toNat x) 3 ((upz s3 2 (s3 0 4).toNat x) 0 4).toNat y) 4 ((upz (upz s3 2 (s3 0 4).toNat x) 3 ((upz s3 2 (s3 0 4).toNat x) 0 4).toNat y) 0 4).toNat (-1)) 0 4).toNat ((upz (upz (upz s3 2 (s3 0 4).toNat x) 3 ((upz s3 2 (s3 0 4).toNat x) 0 4).toNat y) 4 ((upz (upz s3 2 (s3 0 4).toNat x) 3 ((upz s3 2 (s3 0 4).toNat x) 0 4).toNat y) 0 4).toNat (-1)) 0 5)) 0 5 (((upz (upz (upz (upz s3 2 (s3 0 4).toNat x) 3 ((upz s3 2 (s3 0 4).toNat x) 0 4).toNat y) 4 ((upz (upz s3 2 (s3 0 4).toNat x) 3 ((upz s3 2 (s3 0 4).toNat x) 0 4).toNat y) 0 4).toNat (-1)) 4 ((upz (upz (upz s3 2 (s3 0 4).toNat x) 3 ((upz s3 2 (s3 0 4).toNat x) 0 4).toNat y) 4 ((upz (upz s3 2 (s3 0 4).toNat x) 3 ((upz s3 2 (s3 0 4).toNat x) 0 4).toNat y) 0 4).toNat (-1)) 0 4).toNat ((upz (upz (upz s3 2 (s3 0 4).toNat x) 3 ((upz s3 2 (s3 0 4).toNat x) 0 4).toNat y) 4 ((upz (upz s3 2 (s3 0 4).toNat x) 3 ((upz s3 2 (s3 0 4).toNat x) 0 4).toNat y) 0 4).toNat (-1)) 0 5)) 0 5) + 1)) 0 10 1) 0 4) + 1)) else none)) else none) else none) else none) else none) else some ((-4), s3)) else none
set_option maxRecDepth 20000 in
theorem t_X4_addJoint (r0 : List va_E) (r1 : List va_E) (r2 : List va_E) (s3 : zZ) (r4 : List va_E) (r5 : List va_E) (r6 : List va_E) (r7 : List va_E) (r8 : List va_E) (r9 : List va_E) (x : Int) (y : Int) (held : Int) {rr : Int × zZ} (H : d_X4_addJoint s3 x y held = some rr) : xC MX4_addJoint 1 [.ref 3072, .int (zI x), .int (zI y), .int (zI held)] ([r0, r1, r2, zH s3 zL3 0, r4, r5, r6, r7, r8, r9]) (some (.int (zI rr.1))) ([r0, r1, r2, zH rr.2 zL3 0, r4, r5, r6, r7, r8, r9]) := by
  refine ⟨Nat.le_of_ble_eq_true rfl, ?_⟩
  show xBody MX4_addJoint 1 0 [some (.ref 3072), some (.int (zI x)), some (.int (zI y)), some (.int (zI held))] [] ([r0, r1, r2, zH s3 zL3 0, r4, r5, r6, r7, r8, r9]) _ _
  unfold d_X4_addJoint at H
  refine xB.run oX4_addJoint 2 (s := (2, [some (.ref 3072), some (.int (zI x)), some (.int (zI y)), some (.int (zI held))], [.int (zI held), .ref 3072], [r0, r1, r2, zH s3 zL3 0, r4, r5, r6, r7, r8, r9])) rfl ?_
  obtain ⟨y1, e2, H⟩ := zbd H
  refine xB.call oX4_addJoint (M2 := MX4_hasRoomForJoint) rfl rfl ((t_X4_hasRoomForJoint r0 r1 r2 s3 r4 r5 r6 r7 r8 r9 held e2).deep (by decide : 0 ≤ 0)) ?_
  show xBody MX4_addJoint 1 5 [some (.ref 3072), some (.int (zI x)), some (.int (zI y)), some (.int (zI held))] [.int (zI y1)] ([r0, r1, r2, zH s3 zL3 0, r4, r5, r6, r7, r8, r9]) _ _
  obtain ⟨g10, H⟩ := zgd H
  have H := zif H
  refine xB.brE oX4_addJoint (P := y1 ≠ 0) rfl (zc_ne (a := y1) (b := 0) ⟨g10, by decide⟩) (fun h3 => ?_) (fun h3 => ?_)
  · have H := H.1 h3
    refine xB.run oX4_addJoint 5 (s := (20, [some (.ref 3072), some (.int (zI x)), some (.int (zI y)), some (.int (zI held))], [.int (zI x), .int (zI (s3 0 4)), .ref 3074], [r0, r1, r2, zH s3 zL3 0, r4, r5, r6, r7, r8, r9])) rfl ?_
    obtain ⟨g9, H⟩ := zgd H
    refine zB.iast oX4_addJoint (g := 3) (p := 2) (N := 8) (i := s3 0 4) (hp1 := [r0, r1, r2, zH (upz s3 2 (s3 0 4).toNat x) zL3 0, r4, r5, r6, r7, r8, r9]) rfl rfl (by decide) (by decide) rfl rfl (by decide) g9 rfl ?_
    refine xB.run oX4_addJoint 5 (s := (30, [some (.ref 3072), some (.int (zI x)), some (.int (zI y)), some (.int (zI held))], [.int (zI y), .int (zI ((upz s3 2 (s3 0 4).toNat x) 0 4)), .ref 3075], [r0, r1, r2, zH (upz s3 2 (s3 0 4).toNat x) zL3 0, r4, r5, r6, r7, r8, r9])) rfl ?_
    obtain ⟨g8, H⟩ := zgd H
    refine zB.iast oX4_addJoint (g := 3) (p := 3) (N := 8) (i := (upz s3 2 (s3 0 4).toNat x) 0 4) (hp1 := [r0, r1, r2, zH (upz (upz s3 2 (s3 0 4).toNat x) 3 ((upz s3 2 (s3 0 4).toNat x) 0 4).toNat y) zL3 0, r4, r5, r6, r7, r8, r9]) rfl rfl (by decide) (by decide) rfl rfl (by decide) g8 rfl ?_
    refine xB.run oX4_addJoint 5 (s := (40, [some (.ref 3072), some (.int (zI x)), some (.int (zI y)), some (.int (zI held))], [.int (zI (-1)), .int (zI ((upz (upz s3 2 (s3 0 4).toNat x) 3 ((upz s3 2 (s3 0 4).toNat x) 0 4).toNat y) 0 4)), .ref 3076], [r0, r1, r2, zH (upz (upz s3 2 (s3 0 4).toNat x) 3 ((upz s3 2 (s3 0 4).toNat x) 0 4).toNat y) zL3 0, r4, r5, r6, r7, r8, r9])) rfl ?_
    obtain ⟨g7, H⟩ := zgd H
    refine zB.iast oX4_addJoint (g := 3) (p := 4) (N := 8) (i := (upz (upz s3 2 (s3 0 4).toNat x) 3 ((upz s3 2 (s3 0 4).toNat x) 0 4).toNat y) 0 4) (hp1 := [r0, r1, r2, zH (upz (upz (upz s3 2 (s3 0 4).toNat x) 3 ((upz s3 2 (s3 0 4).toNat x) 0 4).toNat y) 4 ((upz (upz s3 2 (s3 0 4).toNat x) 3 ((upz s3 2 (s3 0 4).toNat x) 0 4).toNat y) 0 4).toNat (-1)) zL3 0, r4, r5, r6, r7, r8, r9]) rfl rfl (by decide) (by decide) rfl rfl (by decide) g7 rfl ?_
    refine xB.run oX4_addJoint 1 (s := (42, [some (.ref 3072), some (.int (zI x)), some (.int (zI y)), some (.int (zI held))], [.int (zI held)], [r0, r1, r2, zH (upz (upz (upz s3 2 (s3 0 4).toNat x) 3 ((upz s3 2 (s3 0 4).toNat x) 0 4).toNat y) 4 ((upz (upz s3 2 (s3 0 4).toNat x) 3 ((upz s3 2 (s3 0 4).toNat x) 0 4).toNat y) 0 4).toNat (-1)) zL3 0, r4, r5, r6, r7, r8, r9])) rfl ?_
    obtain ⟨g6, H⟩ := zgd H
    have H := zif H
    refine xB.brE oX4_addJoint (P := held ≠ 0) rfl (zc_ne (a := held) (b := 0) ⟨g6, by decide⟩) (fun h4 => ?_) (fun h4 => ?_)
    · have H := H.1 h4
      refine xB.run oX4_addJoint 2 (s := (70, [some (.ref 3072), some (.int (zI x)), some (.int (zI y)), some (.int (zI held))], [.int (zI 1), .ref 3072], [r0, r1, r2, zH (upz (upz (upz s3 2 (s3 0 4).toNat x) 3 ((upz s3 2 (s3 0 4).toNat x) 0 4).toNat y) 4 ((upz (upz s3 2 (s3 0 4).toNat x) 3 ((upz s3 2 (s3 0 4).toNat x) 0 4).toNat y) 0 4).toNat (-1)) zL3 0, r4, r5, r6, r7, r8, r9])) rfl ?_
      refine zB.putI oX4_addJoint (g := 3) (p := 0) (c := 4) (k := 10) (y := 0) (hp1 := [r0, r1, r2, zH (upz (upz (upz (upz s3 2 (s3 0 4).toNat x) 3 ((upz s3 2 (s3 0 4).toNat x) 0 4).toNat y) 4 ((upz (upz s3 2 (s3 0 4).toNat x) 3 ((upz s3 2 (s3 0 4).toNat x) 0 4).toNat y) 0 4).toNat (-1)) 0 10 1) zL3 0, r4, r5, r6, r7, r8, r9]) rfl rfl (by decide) (by decide) rfl rfl rfl rfl rfl rfl ?_
      refine xB.run oX4_addJoint 4 (s := (79, [some (.ref 3072), some (.int (zI x)), some (.int (zI y)), some (.int (zI held))], [.int (zI 1), .int (zI ((upz (upz (upz (upz s3 2 (s3 0 4).toNat x) 3 ((upz s3 2 (s3 0 4).toNat x) 0 4).toNat y) 4 ((upz (upz s3 2 (s3 0 4).toNat x) 3 ((upz s3 2 (s3 0 4).toNat x) 0 4).toNat y) 0 4).toNat (-1)) 0 10 1) 0 4)), .ref 3072], [r0, r1, r2, zH (upz (upz (upz (upz s3 2 (s3 0 4).toNat x) 3 ((upz s3 2 (s3 0 4).toNat x) 0 4).toNat y) 4 ((upz (upz s3 2 (s3 0 4).toNat x) 3 ((upz s3 2 (s3 0 4).toNat x) 0 4).toNat y) 0 4).toNat (-1)) 0 10 1) zL3 0, r4, r5, r6, r7, r8, r9])) rfl ?_
      refine zB.opi oX4_addJoint rfl (zi_add ((upz (upz (upz (upz s3 2 (s3 0 4).toNat x) 3 ((upz s3 2 (s3 0 4).toNat x) 0 4).toNat y) 4 ((upz (upz s3 2 (s3 0 4).toNat x) 3 ((upz s3 2 (s3 0 4).toNat x) 0 4).toNat y) 0 4).toNat (-1)) 0 10 1) 0 4) 1) ?_
      refine zB.putI oX4_addJoint (g := 3) (p := 0) (c := 4) (k := 4) (y := 0) (hp1 := [r0, r1, r2, zH (upz (upz (upz (upz (upz s3 2 (s3 0 4).toNat x) 3 ((upz s3 2 (s3 0 4).toNat x) 0 4).toNat y) 4 ((upz (upz s3 2 (s3 0 4).toNat x) 3 ((upz s3 2 (s3 0 4).toNat x) 0 4).toNat y) 0 4).toNat (-1)) 0 10 1) 0 4 (((upz (upz (upz (upz s3 2 (s3 0 4).toNat x) 3 ((upz s3 2 (s3 0 4).toNat x) 0 4).toNat y) 4 ((upz (upz s3 2 (s3 0 4).toNat x) 3 ((upz s3 2 (s3 0 4).toNat x) 0 4).toNat y) 0 4).toNat (-1)) 0 10 1) 0 4) + 1)) zL3 0, r4, r5, r6, r7, r8, r9]) rfl rfl (by decide) (by decide) rfl rfl rfl rfl rfl rfl ?_
      refine xB.run oX4_addJoint 3 (s := (88, [some (.ref 3072), some (.int (zI x)), some (.int (zI y)), some (.int (zI held))], [.int (zI 1), .int (zI ((upz (upz (upz (upz (upz s3 2 (s3 0 4).toNat x) 3 ((upz s3 2 (s3 0 4).toNat x) 0 4).toNat y) 4 ((upz (upz s3 2 (s3 0 4).toNat x) 3 ((upz s3 2 (s3 0 4).toNat x) 0 4).toNat y) 0 4).toNat (-1)) 0 10 1) 0 4 (((upz (upz (upz (upz s3 2 (s3 0 4).toNat x) 3 ((upz s3 2 (s3 0 4).toNat x) 0 4).toNat y) 4 ((upz (upz s3 2 (s3 0 4).toNat x) 3 ((upz s3 2 (s3 0 4).toNat x) 0 4).toNat y) 0 4).toNat (-1)) 0 10 1) 0 4) + 1)) 0 4))], [r0, r1, r2, zH (upz (upz (upz (upz (upz s3 2 (s3 0 4).toNat x) 3 ((upz s3 2 (s3 0 4).toNat x) 0 4).toNat y) 4 ((upz (upz s3 2 (s3 0 4).toNat x) 3 ((upz s3 2 (s3 0 4).toNat x) 0 4).toNat y) 0 4).toNat (-1)) 0 10 1) 0 4 (((upz (upz (upz (upz s3 2 (s3 0 4).toNat x) 3 ((upz s3 2 (s3 0 4).toNat x) 0 4).toNat y) 4 ((upz (upz s3 2 (s3 0 4).toNat x) 3 ((upz s3 2 (s3 0 4).toNat x) 0 4).toNat y) 0 4).toNat (-1)) 0 10 1) 0 4) + 1)) zL3 0, r4, r5, r6, r7, r8, r9])) rfl ?_
      refine zB.opi oX4_addJoint rfl (zi_sub ((upz (upz (upz (upz (upz s3 2 (s3 0 4).toNat x) 3 ((upz s3 2 (s3 0 4).toNat x) 0 4).toNat y) 4 ((upz (upz s3 2 (s3 0 4).toNat x) 3 ((upz s3 2 (s3 0 4).toNat x) 0 4).toNat y) 0 4).toNat (-1)) 0 10 1) 0 4 (((upz (upz (upz (upz s3 2 (s3 0 4).toNat x) 3 ((upz s3 2 (s3 0 4).toNat x) 0 4).toNat y) 4 ((upz (upz s3 2 (s3 0 4).toNat x) 3 ((upz s3 2 (s3 0 4).toNat x) 0 4).toNat y) 0 4).toNat (-1)) 0 10 1) 0 4) + 1)) 0 4) 1) ?_
      obtain rfl := Option.some.inj H
      exact xB.ret oX4_addJoint (r1 := some (.int (zI (((upz (upz (upz (upz (upz s3 2 (s3 0 4).toNat x) 3 ((upz s3 2 (s3 0 4).toNat x) 0 4).toNat y) 4 ((upz (upz s3 2 (s3 0 4).toNat x) 3 ((upz s3 2 (s3 0 4).toNat x) 0 4).toNat y) 0 4).toNat (-1)) 0 10 1) 0 4 (((upz (upz (upz (upz s3 2 (s3 0 4).toNat x) 3 ((upz s3 2 (s3 0 4).toNat x) 0 4).toNat y) 4 ((upz (upz s3 2 (s3 0 4).toNat x) 3 ((upz s3 2 (s3 0 4).toNat x) 0 4).toNat y) 0 4).toNat (-1)) 0 10 1) 0 4) + 1)) 0 4) - 1)))) rfl rfl rfl
    · have H := H.2 h4
      refine xB.run oX4_addJoint 6 (s := (57, [some (.ref 3072), some (.int (zI x)), some (.int (zI y)), some (.int (zI held))], [.int (zI ((upz (upz (upz s3 2 (s3 0 4).toNat x) 3 ((upz s3 2 (s3 0 4).toNat x) 0 4).toNat y) 4 ((upz (upz s3 2 (s3 0 4).toNat x) 3 ((upz s3 2 (s3 0 4).toNat x) 0 4).toNat y) 0 4).toNat (-1)) 0 5)), .int (zI ((upz (upz (upz s3 2 (s3 0 4).toNat x) 3 ((upz s3 2 (s3 0 4).toNat x) 0 4).toNat y) 4 ((upz (upz s3 2 (s3 0 4).toNat x) 3 ((upz s3 2 (s3 0 4).toNat x) 0 4).toNat y) 0 4).toNat (-1)) 0 4)), .ref 3076], [r0, r1, r2, zH (upz (upz (upz s3 2 (s3 0 4).toNat x) 3 ((upz s3 2 (s3 0 4).toNat x) 0 4).toNat y) 4 ((upz (upz s3 2 (s3 0 4).toNat x) 3 ((upz s3 2 (s3 0 4).toNat x) 0 4).toNat y) 0 4).toNat (-1)) zL3 0, r4, r5, r6, r7, r8, r9])) rfl ?_
      obtain ⟨g5, H⟩ := zgd H
      refine zB.iast oX4_addJoint (g := 3) (p := 4) (N := 8) (i := (upz (upz (upz s3 2 (s3 0 4).toNat x) 3 ((upz s3 2 (s3 0 4).toNat x) 0 4).toNat y) 4 ((upz (upz s3 2 (s3 0 4).toNat x) 3 ((upz s3 2 (s3 0 4).toNat x) 0 4).toNat y) 0 4).toNat (-1)) 0 4) (hp1 := [r0, r1, r2, zH (upz (upz (upz (upz s3 2 (s3 0 4).toNat x) 3 ((upz s3 2 (s3 0 4).toNat x) 0 4).toNat y) 4 ((upz (upz s3 2 (s3 0 4).toNat x) 3 ((upz s3 2 (s3 0 4).toNat x) 0 4).toNat y) 0 4).toNat (-1)) 4 ((upz (upz (upz s3 2 (s3 0 4).toNat x) 3 ((upz s3 2 (s3 0 4).toNat x) 0 4).toNat y) 4 ((upz (upz s3 2 (s3 0 4).toNat x) 3 ((upz s3 2 (s3 0 4).toNat x) 0 4).toNat y) 0 4).toNat (-1)) 0 4).toNat ((upz (upz (upz s3 2 (s3 0 4).toNat x) 3 ((upz s3 2 (s3 0 4).toNat x) 0 4).toNat y) 4 ((upz (upz s3 2 (s3 0 4).toNat x) 3 ((upz s3 2 (s3 0 4).toNat x) 0 4).toNat y) 0 4).toNat (-1)) 0 5)) zL3 0, r4, r5, r6, r7, r8, r9]) rfl rfl (by decide) (by decide) rfl rfl (by decide) g5 rfl ?_
      refine xB.run oX4_addJoint 4 (s := (64, [some (.ref 3072), some (.int (zI x)), some (.int (zI y)), some (.int (zI held))], [.int (zI 1), .int (zI ((upz (upz (upz (upz s3 2 (s3 0 4).toNat x) 3 ((upz s3 2 (s3 0 4).toNat x) 0 4).toNat y) 4 ((upz (upz s3 2 (s3 0 4).toNat x) 3 ((upz s3 2 (s3 0 4).toNat x) 0 4).toNat y) 0 4).toNat (-1)) 4 ((upz (upz (upz s3 2 (s3 0 4).toNat x) 3 ((upz s3 2 (s3 0 4).toNat x) 0 4).toNat y) 4 ((upz (upz s3 2 (s3 0 4).toNat x) 3 ((upz s3 2 (s3 0 4).toNat x) 0 4).toNat y) 0 4).toNat (-1)) 0 4).toNat ((upz (upz (upz s3 2 (s3 0 4).toNat x) 3 ((upz s3 2 (s3 0 4).toNat x) 0 4).toNat y) 4 ((upz (upz s3 2 (s3 0 4).toNat x) 3 ((upz s3 2 (s3 0 4).toNat x) 0 4).toNat y) 0 4).toNat (-1)) 0 5)) 0 5)), .ref 3072], [r0, r1, r2, zH (upz (upz (upz (upz s3 2 (s3 0 4).toNat x) 3 ((upz s3 2 (s3 0 4).toNat x) 0 4).toNat y) 4 ((upz (upz s3 2 (s3 0 4).toNat x) 3 ((upz s3 2 (s3 0 4).toNat x) 0 4).toNat y) 0 4).toNat (-1)) 4 ((upz (upz (upz s3 2 (s3 0 4).toNat x) 3 ((upz s3 2 (s3 0 4).toNat x) 0 4).toNat y) 4 ((upz (upz s3 2 (s3 0 4).toNat x) 3 ((upz s3 2 (s3 0 4).toNat x) 0 4).toNat y) 0 4).toNat (-1)) 0 4).toNat ((upz (upz (upz s3 2 (s3 0 4).toNat x) 3 ((upz s3 2 (s3 0 4).toNat x) 0 4).toNat y) 4 ((upz (upz s3 2 (s3 0 4).toNat x) 3 ((upz s3 2 (s3 0 4).toNat x) 0 4).toNat y) 0 4).toNat (-1)) 0 5)) zL3 0, r4, r5, r6, r7, r8, r9])) rfl ?_
      refine zB.opi oX4_addJoint rfl (zi_add ((upz (upz (upz (upz s3 2 (s3 0 4).toNat x) 3 ((upz s3 2 (s3 0 4).toNat x) 0 4).toNat y) 4 ((upz (upz s3 2 (s3 0 4).toNat x) 3 ((upz s3 2 (s3 0 4).toNat x) 0 4).toNat y) 0 4).toNat (-1)) 4 ((upz (upz (upz s3 2 (s3 0 4).toNat x) 3 ((upz s3 2 (s3 0 4).toNat x) 0 4).toNat y) 4 ((upz (upz s3 2 (s3 0 4).toNat x) 3 ((upz s3 2 (s3 0 4).toNat x) 0 4).toNat y) 0 4).toNat (-1)) 0 4).toNat ((upz (upz (upz s3 2 (s3 0 4).toNat x) 3 ((upz s3 2 (s3 0 4).toNat x) 0 4).toNat y) 4 ((upz (upz s3 2 (s3 0 4).toNat x) 3 ((upz s3 2 (s3 0 4).toNat x) 0 4).toNat y) 0 4).toNat (-1)) 0 5)) 0 5) 1) ?_
      refine zB.putI oX4_addJoint (g := 3) (p := 0) (c := 4) (k := 5) (y := 0) (hp1 := [r0, r1, r2, zH (upz (upz (upz (upz (upz s3 2 (s3 0 4).toNat x) 3 ((upz s3 2 (s3 0 4).toNat x) 0 4).toNat y) 4 ((upz (upz s3 2 (s3 0 4).toNat x) 3 ((upz s3 2 (s3 0 4).toNat x) 0 4).toNat y) 0 4).toNat (-1)) 4 ((upz (upz (upz s3 2 (s3 0 4).toNat x) 3 ((upz s3 2 (s3 0 4).toNat x) 0 4).toNat y) 4 ((upz (upz s3 2 (s3 0 4).toNat x) 3 ((upz s3 2 (s3 0 4).toNat x) 0 4).toNat y) 0 4).toNat (-1)) 0 4).toNat ((upz (upz (upz s3 2 (s3 0 4).toNat x) 3 ((upz s3 2 (s3 0 4).toNat x) 0 4).toNat y) 4 ((upz (upz s3 2 (s3 0 4).toNat x) 3 ((upz s3 2 (s3 0 4).toNat x) 0 4).toNat y) 0 4).toNat (-1)) 0 5)) 0 5 (((upz (upz (upz (upz s3 2 (s3 0 4).toNat x) 3 ((upz s3 2 (s3 0 4).toNat x) 0 4).toNat y) 4 ((upz (upz s3 2 (s3 0 4).toNat x) 3 ((upz s3 2 (s3 0 4).toNat x) 0 4).toNat y) 0 4).toNat (-1)) 4 ((upz (upz (upz s3 2 (s3 0 4).toNat x) 3 ((upz s3 2 (s3 0 4).toNat x) 0 4).toNat y) 4 ((upz (upz s3 2 (s3 0 4).toNat x) 3 ((upz s3 2 (s3 0 4).toNat x) 0 4).toNat y) 0 4).toNat (-1)) 0 4).toNat ((upz (upz (upz s3 2 (s3 0 4).toNat x) 3 ((upz s3 2 (s3 0 4).toNat x) 0 4).toNat y) 4 ((upz (upz s3 2 (s3 0 4).toNat x) 3 ((upz s3 2 (s3 0 4).toNat x) 0 4).toNat y) 0 4).toNat (-1)) 0 5)) 0 5) + 1)) zL3 0, r4, r5, r6, r7, r8, r9]) rfl rfl (by decide) (by decide) rfl rfl rfl rfl rfl rfl ?_
      refine xB.run oX4_addJoint 2 (s := (70, [some (.ref 3072), some (.int (zI x)), some (.int (zI y)), some (.int (zI held))], [.int (zI 1), .ref 3072], [r0, r1, r2, zH (upz (upz (upz (upz (upz s3 2 (s3 0 4).toNat x) 3 ((upz s3 2 (s3 0 4).toNat x) 0 4).toNat y) 4 ((upz (upz s3 2 (s3 0 4).toNat x) 3 ((upz s3 2 (s3 0 4).toNat x) 0 4).toNat y) 0 4).toNat (-1)) 4 ((upz (upz (upz s3 2 (s3 0 4).toNat x) 3 ((upz s3 2 (s3 0 4).toNat x) 0 4).toNat y) 4 ((upz (upz s3 2 (s3 0 4).toNat x) 3 ((upz s3 2 (s3 0 4).toNat x) 0 4).toNat y) 0 4).toNat (-1)) 0 4).toNat ((upz (upz (upz s3 2 (s3 0 4).toNat x) 3 ((upz s3 2 (s3 0 4).toNat x) 0 4).toNat y) 4 ((upz (upz s3 2 (s3 0 4).toNat x) 3 ((upz s3 2 (s3 0 4).toNat x) 0 4).toNat y) 0 4).toNat (-1)) 0 5)) 0 5 (((upz (upz (upz (upz s3 2 (s3 0 4).toNat x) 3 ((upz s3 2 (s3 0 4).toNat x) 0 4).toNat y) 4 ((upz (upz s3 2 (s3 0 4).toNat x) 3 ((upz s3 2 (s3 0 4).toNat x) 0 4).toNat y) 0 4).toNat (-1)) 4 ((upz (upz (upz s3 2 (s3 0 4).toNat x) 3 ((upz s3 2 (s3 0 4).toNat x) 0 4).toNat y) 4 ((upz (upz s3 2 (s3 0 4).toNat x) 3 ((upz s3 2 (s3 0 4).toNat x) 0 4).toNat y) 0 4).toNat (-1)) 0 4).toNat ((upz (upz (upz s3 2 (s3 0 4).toNat x) 3 ((upz s3 2 (s3 0 4).toNat x) 0 4).toNat y) 4 ((upz (upz s3 2 (s3 0 4).toNat x) 3 ((upz s3 2 (s3 0 4).toNat x) 0 4).toNat y) 0 4).toNat (-1)) 0 5)) 0 5) + 1)) zL3 0, r4, r5, r6, r7, r8, r9])) rfl ?_
      refine zB.putI oX4_addJoint (g := 3) (p := 0) (c := 4) (k := 10) (y := 0) (hp1 := [r0, r1, r2, zH (upz (upz (upz (upz (upz (upz s3 2 (s3 0 4).toNat x) 3 ((upz s3 2 (s3 0 4).toNat x) 0 4).toNat y) 4 ((upz (upz s3 2 (s3 0 4).toNat x) 3 ((upz s3 2 (s3 0 4).toNat x) 0 4).toNat y) 0 4).toNat (-1)) 4 ((upz (upz (upz s3 2 (s3 0 4).toNat x) 3 ((upz s3 2 (s3 0 4).toNat x) 0 4).toNat y) 4 ((upz (upz s3 2 (s3 0 4).toNat x) 3 ((upz s3 2 (s3 0 4).toNat x) 0 4).toNat y) 0 4).toNat (-1)) 0 4).toNat ((upz (upz (upz s3 2 (s3 0 4).toNat x) 3 ((upz s3 2 (s3 0 4).toNat x) 0 4).toNat y) 4 ((upz (upz s3 2 (s3 0 4).toNat x) 3 ((upz s3 2 (s3 0 4).toNat x) 0 4).toNat y) 0 4).toNat (-1)) 0 5)) 0 5 (((upz (upz (upz (upz s3 2 (s3 0 4).toNat x) 3 ((upz s3 2 (s3 0 4).toNat x) 0 4).toNat y) 4 ((upz (upz s3 2 (s3 0 4).toNat x) 3 ((upz s3 2 (s3 0 4).toNat x) 0 4).toNat y) 0 4).toNat (-1)) 4 ((upz (upz (upz s3 2 (s3 0 4).toNat x) 3 ((upz s3 2 (s3 0 4).toNat x) 0 4).toNat y) 4 ((upz (upz s3 2 (s3 0 4).toNat x) 3 ((upz s3 2 (s3 0 4).toNat x) 0 4).toNat y) 0 4).toNat (-1)) 0 4).toNat ((upz (upz (upz s3 2 (s3 0 4).toNat x) 3 ((upz s3 2 (s3 0 4).toNat x) 0 4).toNat y) 4 ((upz (upz s3 2 (s3 0 4).toNat x) 3 ((upz s3 2 (s3 0 4).toNat x) 0 4).toNat y) 0 4).toNat (-1)) 0 5)) 0 5) + 1)) 0 10 1) zL3 0, r4, r5, r6, r7, r8, r9]) rfl rfl (by decide) (by decide) rfl rfl rfl rfl rfl rfl ?_
      refine xB.run oX4_addJoint 4 (s := (79, [some (.ref 3072), some (.int (zI x)), some (.int (zI y)), some (.int (zI held))], [.int (zI 1), .int (zI ((upz (upz (upz (upz (upz (upz s3 2 (s3 0 4).toNat x) 3 ((upz s3 2 (s3 0 4).toNat x) 0 4).toNat y) 4 ((upz (upz s3 2 (s3 0 4).toNat x) 3 ((upz s3 2 (s3 0 4).toNat x) 0 4).toNat y) 0 4).toNat (-1)) 4 ((upz (upz (upz s3 2 (s3 0 4).toNat x) 3 ((upz s3 2 (s3 0 4).toNat x) 0 4).toNat y) 4 ((upz (upz s3 2 (s3 0 4).toNat x) 3 ((upz s3 2 (s3 0 4).toNat x) 0 4).toNat y) 0 4).toNat (-1)) 0 4).toNat ((upz (upz (upz s3 2 (s3 0 4).toNat x) 3 ((upz s3 2 (s3 0 4).toNat x) 0 4).toNat y) 4 ((upz (upz s3 2 (s3 0 4).toNat x) 3 ((upz s3 2 (s3 0 4).toNat x) 0 4).toNat y) 0 4).toNat (-1)) 0 5)) 0 5 (((upz (upz (upz (upz s3 2 (s3 0 4).toNat x) 3 ((upz s3 2 (s3 0 4).toNat x) 0 4).toNat y) 4 ((upz (upz s3 2 (s3 0 4).toNat x) 3 ((upz s3 2 (s3 0 4).toNat x) 0 4).toNat y) 0 4).toNat (-1)) 4 ((upz (upz (upz s3 2 (s3 0 4).toNat x) 3 ((upz s3 2 (s3 0 4).toNat x) 0 4).toNat y) 4 ((upz (upz s3 2 (s3 0 4).toNat x) 3 ((upz s3 2 (s3 0 4).toNat x) 0 4).toNat y) 0 4).toNat (-1)) 0 4).toNat ((upz (upz (upz s3 2 (s3 0 4).toNat x) 3 ((upz s3 2 (s3 0 4).toNat x) 0 4).toNat y) 4 ((upz (upz s3 2 (s3 0 4).toNat x) 3 ((upz s3 2 (s3 0 4).toNat x) 0 4).toNat y) 0 4).toNat (-1)) 0 5)) 0 5) + 1)) 0 10 1) 0 4)), .ref 3072], [r0, r1, r2, zH (upz (upz (upz (upz (upz (upz s3 2 (s3 0 4).toNat x) 3 ((upz s3 2 (s3 0 4).toNat x) 0 4).toNat y) 4 ((upz (upz s3 2 (s3 0 4).toNat x) 3 ((upz s3 2 (s3 0 4).toNat x) 0 4).toNat y) 0 4).toNat (-1)) 4 ((upz (upz (upz s3 2 (s3 0 4).toNat x) 3 ((upz s3 2 (s3 0 4).toNat x) 0 4).toNat y) 4 ((upz (upz s3 2 (s3 0 4).toNat x) 3 ((upz s3 2 (s3 0 4).toNat x) 0 4).toNat y) 0 4).toNat (-1)) 0 4).toNat ((upz (upz (upz s3 2 (s3 0 4).toNat x) 3 ((upz s3 2 (s3 0 4).toNat x) 0 4).toNat y) 4 ((upz (upz s3 2 (s3 0 4).toNat x) 3 ((upz s3 2 (s3 0 4).toNat x) 0 4).toNat y) 0 4).toNat (-1)) 0 5)) 0 5 (((upz (upz (upz (upz s3 2 (s3 0 4).toNat x) 3 ((upz s3 2 (s3 0 4).toNat x) 0 4).toNat y) 4 ((upz (upz s3 2 (s3 0 4).toNat x) 3 ((upz s3 2 (s3 0 4).toNat x) 0 4).toNat y) 0 4).toNat (-1)) 4 ((upz (upz (upz s3 2 (s3 0 4).toNat x) 3 ((upz s3 2 (s3 0 4).toNat x) 0 4).toNat y) 4 ((upz (upz s3 2 (s3 0 4).toNat x) 3 ((upz s3 2 (s3 0 4).toNat x) 0 4).toNat y) 0 4).toNat (-1)) 0 4).toNat ((upz (upz (upz s3 2 (s3 0 4).toNat x) 3 ((upz s3 2 (s3 0 4).toNat x) 0 4).toNat y) 4 ((upz (upz s3 2 (s3 0 4).toNat x) 3 ((upz s3 2 (s3 0 4).toNat x) 0 4).toNat y) 0 4).toNat (-1)) 0 5)) 0 5) + 1)) 0 10 1) zL3 0, r4, r5, r6, r7, r8, r9])) rfl ?_
      refine zB.opi oX4_addJoint rfl (zi_add ((upz (upz (upz (upz (upz (upz s3 2 (s3 0 4).toNat x) 3 ((upz s3 2 (s3 0 4).toNat x) 0 4).toNat y) 4 ((upz (upz s3 2 (s3 0 4).toNat x) 3 ((upz s3 2 (s3 0 4).toNat x) 0 4).toNat y) 0 4).toNat (-1)) 4 ((upz (upz (upz s3 2 (s3 0 4).toNat x) 3 ((upz s3 2 (s3 0 4).toNat x) 0 4).toNat y) 4 ((upz (upz s3 2 (s3 0 4).toNat x) 3 ((upz s3 2 (s3 0 4).toNat x) 0 4).toNat y) 0 4).toNat (-1)) 0 4).toNat ((upz (upz (upz s3 2 (s3 0 4).toNat x) 3 ((upz s3 2 (s3 0 4).toNat x) 0 4).toNat y) 4 ((upz (upz s3 2 (s3 0 4).toNat x) 3 ((upz s3 2 (s3 0 4).toNat x) 0 4).toNat y) 0 4).toNat (-1)) 0 5)) 0 5 (((upz (upz (upz (upz s3 2 (s3 0 4).toNat x) 3 ((upz s3 2 (s3 0 4).toNat x) 0 4).toNat y) 4 ((upz (upz s3 2 (s3 0 4).toNat x) 3 ((upz s3 2 (s3 0 4).toNat x) 0 4).toNat y) 0 4).toNat (-1)) 4 ((upz (upz (upz s3 2 (s3 0 4).toNat x) 3 ((upz s3 2 (s3 0 4).toNat x) 0 4).toNat y) 4 ((upz (upz s3 2 (s3 0 4).toNat x) 3 ((upz s3 2 (s3 0 4).toNat x) 0 4).toNat y) 0 4).toNat (-1)) 0 4).toNat ((upz (upz (upz s3 2 (s3 0 4).toNat x) 3 ((upz s3 2 (s3 0 4).toNat x) 0 4).toNat y) 4 ((upz (upz s3 2 (s3 0 4).toNat x) 3 ((upz s3 2 (s3 0 4).toNat x) 0 4).toNat y) 0 4).toNat (-1)) 0 5)) 0 5) + 1)) 0 10 1) 0 4) 1) ?_
      refine zB.putI oX4_addJoint (g := 3) (p := 0) (c := 4) (k := 4) (y := 0) (hp1 := [r0, r1, r2, zH (upz (upz (upz (upz (upz (upz (upz s3 2 (s3 0 4).toNat x) 3 ((upz s3 2 (s3 0 4).toNat x) 0 4).toNat y) 4 ((upz (upz s3 2 (s3 0 4).toNat x) 3 ((upz s3 2 (s3 0 4).toNat x) 0 4).toNat y) 0 4).toNat (-1)) 4 ((upz (upz (upz s3 2 (s3 0 4).toNat x) 3 ((upz s3 2 (s3 0 4).toNat x) 0 4).toNat y) 4 ((upz (upz s3 2 (s3 0 4).toNat x) 3 ((upz s3 2 (s3 0 4).toNat x) 0 4).toNat y) 0 4).toNat (-1)) 0 4).toNat ((upz (upz (upz s3 2 (s3 0 4).toNat x) 3 ((upz s3 2 (s3 0 4).toNat x) 0 4).toNat y) 4 ((upz (upz s3 2 (s3 0 4).toNat x) 3 ((upz s3 2 (s3 0 4).toNat x) 0 4).toNat y) 0 4).toNat (-1)) 0 5)) 0 5 (((upz (upz (upz (upz s3 2 (s3 0 4).toNat x) 3 ((upz s3 2 (s3 0 4).toNat x) 0 4).toNat y) 4 ((upz (upz s3 2 (s3 0 4).toNat x) 3 ((upz s3 2 (s3 0 4).toNat x) 0 4).toNat y) 0 4).toNat (-1)) 4 ((upz (upz (upz s3 2 (s3 0 4).toNat x) 3 ((upz s3 2 (s3 0 4).toNat x) 0 4).toNat y) 4 ((upz (upz s3 2 (s3 0 4).toNat x) 3 ((upz s3 2 (s3 0 4).toNat x) 0 4).toNat y) 0 4).toNat (-1)) 0 4).toNat ((upz (upz (upz s3 2 (s3 0 4).toNat x) 3 ((upz s3 2 (s3 0 4).toNat x) 0 4).toNat y) 4 ((upz (upz s3 2 (s3 0 4).toNat x) 3 ((upz s3 2 (s3 0 4).toNat x) 0 4).toNat y) 0 4).toNat (-1)) 0 5)) 0 5) + 1)) 0 10 1) 0 4 (((upz (upz (upz (upz (upz (upz s3 2 (s3 0 4).toNat x) 3 ((upz s3 2 (s3 0 4).toNat x) 0 4).toNat y) 4 ((upz (upz s3 2 (s3 0 4).toNat x) 3 ((upz s3 2 (s3 0 4).toNat x) 0 4).toNat y) 0 4).toNat (-1)) 4 ((upz (upz (upz s3 2 (s3 0 4).toNat x) 3 ((upz s3 2 (s3 0 4).toNat x) 0 4).toNat y) 4 ((upz (upz s3 2 (s3 0 4).toNat x) 3 ((upz s3 2 (s3 0 4).toNat x) 0 4).toNat y) 0 4).toNat (-1)) 0 4).toNat ((upz (upz (upz s3 2 (s3 0 4).toNat x) 3 ((upz s3 2 (s3 0 4).toNat x) 0 4).toNat y) 4 ((upz (upz s3 2 (s3 0 4).toNat x) 3 ((upz s3 2 (s3 0 4).toNat x) 0 4).toNat y) 0 4).toNat (-1)) 0 5)) 0 5 (((upz (upz (upz (upz s3 2 (s3 0 4).toNat x) 3 ((upz s3 2 (s3 0 4).toNat x) 0 4).toNat y) 4 ((upz (upz s3 2 (s3 0 4).toNat x) 3 ((upz s3 2 (s3 0 4).toNat x) 0 4).toNat y) 0 4).toNat (-1)) 4 ((upz (upz (upz s3 2 (s3 0 4).toNat x) 3 ((upz s3 2 (s3 0 4).toNat x) 0 4).toNat y) 4 ((upz (upz s3 2 (s3 0 4).toNat x) 3 ((upz s3 2 (s3 0 4).toNat x) 0 4).toNat y) 0 4).toNat (-1)) 0 4).toNat ((upz (upz (upz s3 2 (s3 0 4).toNat x) 3 ((upz s3 2 (s3 0 4).toNat x) 0 4).toNat y) 4 ((upz (upz s3 2 (s3 0 4).toNat x) 3 ((upz s3 2 (s3 0 4).toNat x) 0 4).toNat y) 0 4).toNat (-1)) 0 5)) 0 5) + 1)) 0 10 1) 0 4) + 1)) zL3 0, r4, r5, r6, r7, r8, r9]) rfl rfl (by decide) (by decide) rfl rfl rfl rfl rfl rfl ?_
      refine xB.run oX4_addJoint 3 (s := (88, [some (.ref 3072), some (.int (zI x)), some (.int (zI y)), some (.int (zI held))], [.int (zI 1), .int (zI ((upz (upz (upz (upz (upz (upz (upz s3 2 (s3 0 4).toNat x) 3 ((upz s3 2 (s3 0 4).toNat x) 0 4).toNat y) 4 ((upz (upz s3 2 (s3 0 4).toNat x) 3 ((upz s3 2 (s3 0 4).toNat x) 0 4).toNat y) 0 4).toNat (-1)) 4 ((upz (upz (upz s3 2 (s3 0 4).toNat x) 3 ((upz s3 2 (s3 0 4).toNat x) 0 4).toNat y) 4 ((upz (upz s3 2 (s3 0 4).toNat x) 3 ((upz s3 2 (s3 0 4).toNat x) 0 4).toNat y) 0 4).toNat (-1)) 0 4).toNat ((upz (upz (upz s3 2 (s3 0 4).toNat x) 3 ((upz s3 2 (s3 0 4).toNat x) 0 4).toNat y) 4 ((upz (upz s3 2 (s3 0 4).toNat x) 3 ((upz s3 2 (s3 0 4).toNat x) 0 4).toNat y) 0 4).toNat (-1)) 0 5)) 0 5 (((upz (upz (upz (upz s3 2 (s3 0 4).toNat x) 3 ((upz s3 2 (s3 0 4).toNat x) 0 4).toNat y) 4 ((upz (upz s3 2 (s3 0 4).toNat x) 3 ((upz s3 2 (s3 0 4).toNat x) 0 4).toNat y) 0 4).toNat (-1)) 4 ((upz (upz (upz s3 2 (s3 0 4).toNat x) 3 ((upz s3 2 (s3 0 4).toNat x) 0 4).toNat y) 4 ((upz (upz s3 2 (s3 0 4).toNat x) 3 ((upz s3 2 (s3 0 4).toNat x) 0 4).toNat y) 0 4).toNat (-1)) 0 4).toNat ((upz (upz (upz s3 2 (s3 0 4).toNat x) 3 ((upz s3 2 (s3 0 4).toNat x) 0 4).toNat y) 4 ((upz (upz s3 2 (s3 0 4).toNat x) 3 ((upz s3 2 (s3 0 4).toNat x) 0 4).toNat y) 0 4).toNat (-1)) 0 5)) 0 5) + 1)) 0 10 1) 0 4 (((upz (upz (upz (upz (upz (upz s3 2 (s3 0 4).toNat x) 3 ((upz s3 2 (s3 0 4).toNat x) 0 4).toNat y) 4 ((upz (upz s3 2 (s3 0 4).toNat x) 3 ((upz s3 2 (s3 0 4).toNat x) 0 4).toNat y) 0 4).toNat (-1)) 4 ((upz (upz (upz s3 2 (s3 0 4).toNat x) 3 ((upz s3 2 (s3 0 4).toNat x) 0 4).toNat y) 4 ((upz (upz s3 2 (s3 0 4).toNat x) 3 ((upz s3 2 (s3 0 4).toNat x) 0 4).toNat y) 0 4).toNat (-1)) 0 4).toNat ((upz (upz (upz s3 2 (s3 0 4).toNat x) 3 ((upz s3 2 (s3 0 4).toNat x) 0 4).toNat y) 4 ((upz (upz s3 2 (s3 0 4).toNat x) 3 ((upz s3 2 (s3 0 4).toNat x) 0 4).toNat y) 0 4).toNat (-1)) 0 5)) 0 5 (((upz (upz (upz (upz s3 2 (s3 0 4).toNat x) 3 ((upz s3 2 (s3 0 4).toNat x) 0 4).toNat y) 4 ((upz (upz s3 2 (s3 0 4).toNat x) 3 ((upz s3 2 (s3 0 4).toNat x) 0 4).toNat y) 0 4).toNat (-1)) 4 ((upz (upz (upz s3 2 (s3 0 4).toNat x) 3 ((upz s3 2 (s3 0 4).toNat x) 0 4).toNat y) 4 ((upz (upz s3 2 (s3 0 4).toNat x) 3 ((upz s3 2 (s3 0 4).toNat x) 0 4).toNat y) 0 4).toNat (-1)) 0 4).toNat ((upz (upz (upz s3 2 (s3 0 4).toNat x) 3 ((upz s3 2 (s3 0 4).toNat x) 0 4).toNat y) 4 ((upz (upz s3 2 (s3 0 4).toNat x) 3 ((upz s3 2 (s3 0 4).toNat x) 0 4).toNat y) 0 4).toNat (-1)) 0 5)) 0 5) + 1)) 0 10 1) 0 4) + 1)) 0 4))], [r0, r1, r2, zH (upz (upz (upz (upz (upz (upz (upz s3 2 (s3 0 4).toNat x) 3 ((upz s3 2 (s3 0 4).toNat x) 0 4).toNat y) 4 ((upz (upz s3 2 (s3 0 4).toNat x) 3 ((upz s3 2 (s3 0 4).toNat x) 0 4).toNat y) 0 4).toNat (-1)) 4 ((upz (upz (upz s3 2 (s3 0 4).toNat x) 3 ((upz s3 2 (s3 0 4).toNat x) 0 4).toNat y) 4 ((upz (upz s3 2 (s3 0 4).toNat x) 3 ((upz s3 2 (s3 0 4).toNat x) 0 4).toNat y) 0 4).toNat (-1)) 0 4).toNat ((upz (upz (upz s3 2 (s3 0 4).toNat x) 3 ((upz s3 2 (s3 0 4).toNat x) 0 4).toNat y) 4 ((upz (upz s3 2 (s3 0 4).toNat x) 3 ((upz s3 2 (s3 0 4).toNat x) 0 4).toNat y) 0 4).toNat (-1)) 0 5)) 0 5 (((upz (upz (upz (upz s3 2 (s3 0 4).toNat x) 3 ((upz s3 2 (s3 0 4).toNat x) 0 4).toNat y) 4 ((upz (upz s3 2 (s3 0 4).toNat x) 3 ((upz s3 2 (s3 0 4).toNat x) 0 4).toNat y) 0 4).toNat (-1)) 4 ((upz (upz (upz s3 2 (s3 0 4).toNat x) 3 ((upz s3 2 (s3 0 4).toNat x) 0 4).toNat y) 4 ((upz (upz s3 2 (s3 0 4).toNat x) 3 ((upz s3 2 (s3 0 4).toNat x) 0 4).toNat y) 0 4).toNat (-1)) 0 4).toNat ((upz (upz (upz s3 2 (s3 0 4).toNat x) 3 ((upz s3 2 (s3 0 4).toNat x) 0 4).toNat y) 4 ((upz (upz s3 2 (s3 0 4).toNat x) 3 ((upz s3 2 (s3 0 4).toNat x) 0 4).toNat y) 0 4).toNat (-1)) 0 5)) 0 5) + 1)) 0 10 1) 0 4 (((upz (upz (upz (upz (upz (upz s3 2 (s3 0 4).toNat x) 3 ((upz s3 2 (s3 0 4).toNat x) 0 4).toNat y) 4 ((upz (upz s3 2 (s3 0 4).toNat x) 3 ((upz s3 2 (s3 0 4).toNat x) 0 4).toNat y) 0 4).toNat (-1)) 4 ((upz (upz (upz s3 2 (s3 0 4).toNat x) 3 ((upz s3 2 (s3 0 4).toNat x) 0 4).toNat y) 4 ((upz (upz s3 2 (s3 0 4).toNat x) 3 ((upz s3 2 (s3 0 4).toNat x) 0 4).toNat y) 0 4).toNat (-1)) 0 4).toNat ((upz (upz (upz s3 2 (s3 0 4).toNat x) 3 ((upz s3 2 (s3 0 4).toNat x) 0 4).toNat y) 4 ((upz (upz s3 2 (s3 0 4).toNat x) 3 ((upz s3 2 (s3 0 4).toNat x) 0 4).toNat y) 0 4).toNat (-1)) 0 5)) 0 5 (((upz (upz (upz (upz s3 2 (s3 0 4).toNat x) 3 ((upz s3 2 (s3 0 4).toNat x) 0 4).toNat y) 4 ((upz (upz s3 2 (s3 0 4).toNat x) 3 ((upz s3 2 (s3 0 4).toNat x) 0 4).toNat y) 0 4).toNat (-1)) 4 ((upz (upz (upz s3 2 (s3 0 4).toNat x) 3 ((upz s3 2 (s3 0 4).toNat x) 0 4).toNat y) 4 ((upz (upz s3 2 (s3 0 4).toNat x) 3 ((upz s3 2 (s3 0 4).toNat x) 0 4).toNat y) 0 4).toNat (-1)) 0 4).toNat ((upz (upz (upz s3 2 (s3 0 4).toNat x) 3 ((upz s3 2 (s3 0 4).toNat x) 0 4).toNat y) 4 ((upz (upz s3 2 (s3 0 4).toNat x) 3 ((upz s3 2 (s3 0 4).toNat x) 0 4).toNat y) 0 4).toNat (-1)) 0 5)) 0 5) + 1)) 0 10 1) 0 4) + 1)) zL3 0, r4, r5, r6, r7, r8, r9])) rfl ?_
      refine zB.opi oX4_addJoint rfl (zi_sub ((upz (upz (upz (upz (upz (upz (upz s3 2 (s3 0 4).toNat x) 3 ((upz s3 2 (s3 0 4).toNat x) 0 4).toNat y) 4 ((upz (upz s3 2 (s3 0 4).toNat x) 3 ((upz s3 2 (s3 0 4).toNat x) 0 4).toNat y) 0 4).toNat (-1)) 4 ((upz (upz (upz s3 2 (s3 0 4).toNat x) 3 ((upz s3 2 (s3 0 4).toNat x) 0 4).toNat y) 4 ((upz (upz s3 2 (s3 0 4).toNat x) 3 ((upz s3 2 (s3 0 4).toNat x) 0 4).toNat y) 0 4).toNat (-1)) 0 4).toNat ((upz (upz (upz s3 2 (s3 0 4).toNat x) 3 ((upz s3 2 (s3 0 4).toNat x) 0 4).toNat y) 4 ((upz (upz s3 2 (s3 0 4).toNat x) 3 ((upz s3 2 (s3 0 4).toNat x) 0 4).toNat y) 0 4).toNat (-1)) 0 5)) 0 5 (((upz (upz (upz (upz s3 2 (s3 0 4).toNat x) 3 ((upz s3 2 (s3 0 4).toNat x) 0 4).toNat y) 4 ((upz (upz s3 2 (s3 0 4).toNat x) 3 ((upz s3 2 (s3 0 4).toNat x) 0 4).toNat y) 0 4).toNat (-1)) 4 ((upz (upz (upz s3 2 (s3 0 4).toNat x) 3 ((upz s3 2 (s3 0 4).toNat x) 0 4).toNat y) 4 ((upz (upz s3 2 (s3 0 4).toNat x) 3 ((upz s3 2 (s3 0 4).toNat x) 0 4).toNat y) 0 4).toNat (-1)) 0 4).toNat ((upz (upz (upz s3 2 (s3 0 4).toNat x) 3 ((upz s3 2 (s3 0 4).toNat x) 0 4).toNat y) 4 ((upz (upz s3 2 (s3 0 4).toNat x) 3 ((upz s3 2 (s3 0 4).toNat x) 0 4).toNat y) 0 4).toNat (-1)) 0 5)) 0 5) + 1)) 0 10 1) 0 4 (((upz (upz (upz (upz (upz (upz s3 2 (s3 0 4).toNat x) 3 ((upz s3 2 (s3 0 4).toNat x) 0 4).toNat y) 4 ((upz (upz s3 2 (s3 0 4).toNat x) 3 ((upz s3 2 (s3 0 4).toNat x) 0 4).toNat y) 0 4).toNat (-1)) 4 ((upz (upz (upz s3 2 (s3 0 4).toNat x) 3 ((upz s3 2 (s3 0 4).toNat x) 0 4).toNat y) 4 ((upz (upz s3 2 (s3 0 4).toNat x) 3 ((upz s3 2 (s3 0 4).toNat x) 0 4).toNat y) 0 4).toNat (-1)) 0 4).toNat ((upz (upz (upz s3 2 (s3 0 4).toNat x) 3 ((upz s3 2 (s3 0 4).toNat x) 0 4).toNat y) 4 ((upz (upz s3 2 (s3 0 4).toNat x) 3 ((upz s3 2 (s3 0 4).toNat x) 0 4).toNat y) 0 4).toNat (-1)) 0 5)) 0 5 (((upz (upz (upz (upz s3 2 (s3 0 4).toNat x) 3 ((upz s3 2 (s3 0 4).toNat x) 0 4).toNat y) 4 ((upz (upz s3 2 (s3 0 4).toNat x) 3 ((upz s3 2 (s3 0 4).toNat x) 0 4).toNat y) 0 4).toNat (-1)) 4 ((upz (upz (upz s3 2 (s3 0 4).toNat x) 3 ((upz s3 2 (s3 0 4).toNat x) 0 4).toNat y) 4 ((upz (upz s3 2 (s3 0 4).toNat x) 3 ((upz s3 2 (s3 0 4).toNat x) 0 4).toNat y) 0 4).toNat (-1)) 0 4).toNat ((upz (upz (upz s3 2 (s3 0 4).toNat x) 3 ((upz s3 2 (s3 0 4).toNat x) 0 4).toNat y) 4 ((upz (upz s3 2 (s3 0 4).toNat x) 3 ((upz s3 2 (s3 0 4).toNat x) 0 4).toNat y) 0 4).toNat (-1)) 0 5)) 0 5) + 1)) 0 10 1) 0 4) + 1)) 0 4) 1) ?_
      obtain rfl := Option.some.inj H
      exact xB.ret oX4_addJoint (r1 := some (.int (zI (((upz (upz (upz (upz (upz (upz (upz s3 2 (s3 0 4).toNat x) 3 ((upz s3 2 (s3 0 4).toNat x) 0 4).toNat y) 4 ((upz (upz s3 2 (s3 0 4).toNat x) 3 ((upz s3 2 (s3 0 4).toNat x) 0 4).toNat y) 0 4).toNat (-1)) 4 ((upz (upz (upz s3 2 (s3 0 4).toNat x) 3 ((upz s3 2 (s3 0 4).toNat x) 0 4).toNat y) 4 ((upz (upz s3 2 (s3 0 4).toNat x) 3 ((upz s3 2 (s3 0 4).toNat x) 0 4).toNat y) 0 4).toNat (-1)) 0 4).toNat ((upz (upz (upz s3 2 (s3 0 4).toNat x) 3 ((upz s3 2 (s3 0 4).toNat x) 0 4).toNat y) 4 ((upz (upz s3 2 (s3 0 4).toNat x) 3 ((upz s3 2 (s3 0 4).toNat x) 0 4).toNat y) 0 4).toNat (-1)) 0 5)) 0 5 (((upz (upz (upz (upz s3 2 (s3 0 4).toNat x) 3 ((upz s3 2 (s3 0 4).toNat x) 0 4).toNat y) 4 ((upz (upz s3 2 (s3 0 4).toNat x) 3 ((upz s3 2 (s3 0 4).toNat x) 0 4).toNat y) 0 4).toNat (-1)) 4 ((upz (upz (upz s3 2 (s3 0 4).toNat x) 3 ((upz s3 2 (s3 0 4).toNat x) 0 4).toNat y) 4 ((upz (upz s3 2 (s3 0 4).toNat x) 3 ((upz s3 2 (s3 0 4).toNat x) 0 4).toNat y) 0 4).toNat (-1)) 0 4).toNat ((upz (upz (upz s3 2 (s3 0 4).toNat x) 3 ((upz s3 2 (s3 0 4).toNat x) 0 4).toNat y) 4 ((upz (upz s3 2 (s3 0 4).toNat x) 3 ((upz s3 2 (s3 0 4).toNat x) 0 4).toNat y) 0 4).toNat (-1)) 0 5)) 0 5) + 1)) 0 10 1) 0 4 (((upz (upz (upz (upz (upz (upz s3 2 (s3 0 4).toNat x) 3 ((upz s3 2 (s3 0 4).toNat x) 0 4).toNat y) 4 ((upz (upz s3 2 (s3 0 4).toNat x) 3 ((upz s3 2 (s3 0 4).toNat x) 0 4).toNat y) 0 4).toNat (-1)) 4 ((upz (upz (upz s3 2 (s3 0 4).toNat x) 3 ((upz s3 2 (s3 0 4).toNat x) 0 4).toNat y) 4 ((upz (upz s3 2 (s3 0 4).toNat x) 3 ((upz s3 2 (s3 0 4).toNat x) 0 4).toNat y) 0 4).toNat (-1)) 0 4).toNat ((upz (upz (upz s3 2 (s3 0 4).toNat x) 3 ((upz s3 2 (s3 0 4).toNat x) 0 4).toNat y) 4 ((upz (upz s3 2 (s3 0 4).toNat x) 3 ((upz s3 2 (s3 0 4).toNat x) 0 4).toNat y) 0 4).toNat (-1)) 0 5)) 0 5 (((upz (upz (upz (upz s3 2 (s3 0 4).toNat x) 3 ((upz s3 2 (s3 0 4).toNat x) 0 4).toNat y) 4 ((upz (upz s3 2 (s3 0 4).toNat x) 3 ((upz s3 2 (s3 0 4).toNat x) 0 4).toNat y) 0 4).toNat (-1)) 4 ((upz (upz (upz s3 2 (s3 0 4).toNat x) 3 ((upz s3 2 (s3 0 4).toNat x) 0 4).toNat y) 4 ((upz (upz s3 2 (s3 0 4).toNat x) 3 ((upz s3 2 (s3 0 4).toNat x) 0 4).toNat y) 0 4).toNat (-1)) 0 4).toNat ((upz (upz (upz s3 2 (s3 0 4).toNat x) 3 ((upz s3 2 (s3 0 4).toNat x) 0 4).toNat y) 4 ((upz (upz s3 2 (s3 0 4).toNat x) 3 ((upz s3 2 (s3 0 4).toNat x) 0 4).toNat y) 0 4).toNat (-1)) 0 5)) 0 5) + 1)) 0 10 1) 0 4) + 1)) 0 4) - 1)))) rfl rfl rfl
  · have H := H.2 h3
    refine xB.run oX4_addJoint 1 (s := (10, [some (.ref 3072), some (.int (zI x)), some (.int (zI y)), some (.int (zI held))], [.int (zI (-4))], [r0, r1, r2, zH s3 zL3 0, r4, r5, r6, r7, r8, r9])) rfl ?_
    obtain rfl := Option.some.inj H
    exact xB.ret oX4_addJoint (r1 := some (.int (zI (-4)))) rfl rfl rfl
def d_X4_barOf (s3 : zZ) (b : Int) : Option (Int) := if (zr b) then (if b < 0 then some (-1) else (if (zr b ∧ zr (s3 0 7)) then (if (s3 0 7) ≤ b then some (-1) else (if ((0 ≤ b ∧ b < 16) ∧ b < s3 5 0) then some b else none)) else none)) else none
set_option maxRecDepth 20000 in
theorem t_X4_barOf (r0 : List va_E) (r1 : List va_E) (r2 : List va_E) (s3 : zZ) (r4 : List va_E) (r5 : List va_E) (r6 : List va_E) (r7 : List va_E) (r8 : List va_E) (r9 : List va_E) (b : Int) {rr : Int} (H : d_X4_barOf s3 b = some rr) : xC MX4_barOf 0 [.ref 3072, .int (zI b)] ([r0, r1, r2, zH s3 zL3 0, r4, r5, r6, r7, r8, r9]) (some (zref rr)) ([r0, r1, r2, zH s3 zL3 0, r4, r5, r6, r7, r8, r9]) := by
  refine ⟨Nat.le_of_ble_eq_true rfl, ?_⟩
  show xBody MX4_barOf 0 0 [some (.ref 3072), some (.int (zI b))] [] ([r0, r1, r2, zH s3 zL3 0, r4, r5, r6, r7, r8, r9]) _ _
  unfold d_X4_barOf at H
  refine xB.run oX4_barOf 1 (s := (1, [some (.ref 3072), some (.int (zI b))], [.int (zI b)], [r0, r1, r2, zH s3 zL3 0, r4, r5, r6, r7, r8, r9])) rfl ?_
  obtain ⟨g5, H⟩ := zgd H
  have H := zif H
  refine xB.brE oX4_barOf (P := b < 0) rfl (zc_lt (a := b) (b := 0) ⟨g5, by decide⟩) (fun h1 => ?_) (fun h1 => ?_)
  · have H := H.1 h1
    refine xB.run oX4_barOf 1 (s := (22, [some (.ref 3072), some (.int (zI b))], [.null], [r0, r1, r2, zH s3 zL3 0, r4, r5, r6, r7, r8, r9])) rfl ?_
    obtain rfl := Option.some.inj H
    exact xB.ret oX4_barOf (r1 := some (.null)) rfl rfl rfl
  · have H := H.2 h1
    refine xB.run oX4_barOf 3 (s := (9, [some (.ref 3072), some (.int (zI b))], [.int (zI (s3 0 7)), .int (zI b)], [r0, r1, r2, zH s3 zL3 0, r4, r5, r6, r7, r8, r9])) rfl ?_
    obtain ⟨g4, H⟩ := zgd H
    have H := zif H
    refine xB.brE oX4_barOf (P := (s3 0 7) ≤ b) rfl (zc_ge (a := b) (b := s3 0 7) g4) (fun h2 => ?_) (fun h2 => ?_)
    · have H := H.1 h2
      refine xB.run oX4_barOf 1 (s := (22, [some (.ref 3072), some (.int (zI b))], [.null], [r0, r1, r2, zH s3 zL3 0, r4, r5, r6, r7, r8, r9])) rfl ?_
      obtain rfl := Option.some.inj H
      exact xB.ret oX4_barOf (r1 := some (.null)) rfl rfl rfl
    · have H := H.2 h2
      refine xB.run oX4_barOf 3 (s := (17, [some (.ref 3072), some (.int (zI b))], [.int (zI b), .ref 3077], [r0, r1, r2, zH s3 zL3 0, r4, r5, r6, r7, r8, r9])) rfl ?_
      obtain ⟨g3, H⟩ := zgd H
      refine zB.aaldB oX4_barOf (g := 3) (p := 5) (N := 16) rfl rfl (by decide) rfl rfl (by decide) g3 ?_
      refine xB.run oX4_barOf 1 (s := (22, [some (.ref 3072), some (.int (zI b))], [.ref (1024 * 8 + b.toNat)], [r0, r1, r2, zH s3 zL3 0, r4, r5, r6, r7, r8, r9])) rfl ?_
      obtain rfl := Option.some.inj H
      exact xB.ret oX4_barOf (r1 := some (.ref (1024 * 8 + b.toNat))) rfl (congrArg some (zref_pos (by omega))) rfl
def d_X4_isJoined_2 (s3 : zZ) (s8 : zZ) (ks : List Int) (a : Int) (b : Int) : Nat → Int → Option (Sum (Int) (Int))
  | 0, _ => none
  | uN + 1, k => if (zr k ∧ zr (s3 0 7)) then (if (s3 0 7) ≤ k then some (.inl k) else (if ((0 ≤ k ∧ k < 16) ∧ k < s3 5 0) then (if (k.toNat < ks.length ∧ k.toNat < 1024) then (if (zr (s8 k.toNat 1) ∧ zr a) then (if (s8 k.toNat 1) ≠ a then (if (k.toNat < ks.length ∧ k.toNat < 1024) then (if (zr (s8 k.toNat 1) ∧ zr b) then (if (s8 k.toNat 1) ≠ b then (d_X4_isJoined_2 s3 s8 ks a b uN (k + 1)) else (if (k.toNat < ks.length ∧ k.toNat < 1024) then (if (zr (s8 k.toNat 2) ∧ zr a) then (if (s8 k.toNat 2) ≠ a then (d_X4_isJoined_2 s3 s8 ks a b uN (k + 1)) else some (.inr 1)) else none) else none)) else none) else none) else (if (k.toNat < ks.length ∧ k.toNat < 1024) then (if (zr (s8 k.toNat 2) ∧ zr b) then (if (s8 k.toNat 2) = b then some (.inr 1) else (if (k.toNat < ks.length ∧ k.toNat < 1024) then (if (zr (s8 k.toNat 1) ∧ zr b) then (if (s8 k.toNat 1) ≠ b then (d_X4_isJoined_2 s3 s8 ks a b uN (k + 1)) else (if (k.toNat < ks.length ∧ k.toNat < 1024) then (if (zr (s8 k.toNat 2) ∧ zr a) then (if (s8 k.toNat 2) ≠ a then (d_X4_isJoined_2 s3 s8 ks a b uN (k + 1)) else some (.inr 1)) else none) else none)) else none) else none)) else none) else none)) else none) else none) else none)) else none
def d_X4_isJoined (s3 : zZ) (s8 : zZ) (ks : List Int) (a : Int) (b : Int) : Option (Int) := (d_X4_isJoined_2 s3 s8 ks a b zF 0).bind fun y22 => match y22 with | .inl y24 => some 0 | .inr y25 => some y25
set_option maxRecDepth 20000 in
theorem l_X4_isJoined_2 (r0 : List va_E) (r1 : List va_E) (r2 : List va_E) (s3 : zZ) (r4 : List va_E) (r5 : List va_E) (r6 : List va_E) (r7 : List va_E) (s8 : zZ) (r9 : List va_E) (ks : List Int) (a : Int) (b : Int) {r : Option Value} {hp1 : xH} : ∀ (uN : Nat) (k : Int) {uX : Sum (Int) (Int)}, d_X4_isJoined_2 s3 s8 ks a b uN k = some uX → ((∀ uY, uX = .inl uY → xBody MX4_isJoined 0 62 [some (.ref 3072), some (.int (zI a)), some (.int (zI b)), some (.int (zI uY)), none] [] ([r0, r1, r2, zH s3 zL3 0, r4, r5, r6, r7, zH s8 (zLb ks) 0, r9]) r hp1) ∧ (∀ uW, uX = .inr uW → r = some (.int (zI uW)) ∧ hp1 = [r0, r1, r2, zH s3 zL3 0, r4, r5, r6, r7, zH s8 (zLb ks) 0, r9])) → xBody MX4_isJoined 0 2 [some (.ref 3072), some (.int (zI a)), some (.int (zI b)), some (.int (zI k)), none] [] ([r0, r1, r2, zH s3 zL3 0, r4, r5, r6, r7, zH s8 (zLb ks) 0, r9]) r hp1 := by
  intro uN
  induction uN with
  | zero => intro k uX H K; cases H
  | succ uN ih =>
    intro k uX H K
    unfold d_X4_isJoined_2 at H
    refine xB.run oX4_isJoined 3 (s := (7, [some (.ref 3072), some (.int (zI a)), some (.int (zI b)), some (.int (zI k)), none], [.int (zI (s3 0 7)), .int (zI k)], [r0, r1, r2, zH s3 zL3 0, r4, r5, r6, r7, zH s8 (zLb ks) 0, r9])) rfl ?_
    obtain ⟨g21, H⟩ := zgd H
    have H := zif H
    refine xB.brE oX4_isJoined (P := (s3 0 7) ≤ k) rfl (zc_ge (a := k) (b := s3 0 7) g21) (fun h1 => ?_) (fun h1 => ?_)
    · have H := H.1 h1
      obtain rfl := Option.some.inj H
      exact K.1 _ rfl
    · have H := H.2 h1
      refine xB.run oX4_isJoined 3 (s := (15, [some (.ref 3072), some (.int (zI a)), some (.int (zI b)), some (.int (zI k)), none], [.int (zI k), .ref 3077], [r0, r1, r2, zH s3 zL3 0, r4, r5, r6, r7, zH s8 (zLb ks) 0, r9])) rfl ?_
      obtain ⟨g20, H⟩ := zgd H
      refine zB.aaldB oX4_isJoined (g := 3) (p := 5) (N := 16) rfl rfl (by decide) rfl rfl (by decide) g20 ?_
      refine xB.run oX4_isJoined 2 (s := (20, [some (.ref 3072), some (.int (zI a)), some (.int (zI b)), some (.int (zI k)), some (.ref (1024 * 8 + k.toNat))], [.ref (1024 * 8 + k.toNat)], [r0, r1, r2, zH s3 zL3 0, r4, r5, r6, r7, zH s8 (zLb ks) 0, r9])) rfl ?_
      obtain ⟨g19, H⟩ := zgd H
      refine zB.getI oX4_isJoined (g := 8) (p := k.toNat) (k := 1) (y := 0) rfl rfl (by omega) rfl (zLb_at _ g19.1) (zks_bar _ 1 1 1 _ rfl rfl rfl) rfl ?_
      refine xB.run oX4_isJoined 1 (s := (24, [some (.ref 3072), some (.int (zI a)), some (.int (zI b)), some (.int (zI k)), some (.ref (1024 * 8 + k.toNat))], [.int (zI a), .int (zI (s8 k.toNat 1))], [r0, r1, r2, zH s3 zL3 0, r4, r5, r6, r7, zH s8 (zLb ks) 0, r9])) rfl ?_
      obtain ⟨g18, H⟩ := zgd H
      have H := zif H
      refine xB.brE oX4_isJoined (P := (s8 k.toNat 1) ≠ a) rfl (zc_ne (a := s8 k.toNat 1) (b := a) g18) (fun h2 => ?_) (fun h2 => ?_)
      · have H := H.1 h2
        refine xB.run oX4_isJoined 1 (s := (38, [some (.ref 3072), some (.int (zI a)), some (.int (zI b)), some (.int (zI k)), some (.ref (1024 * 8 + k.toNat))], [.ref (1024 * 8 + k.toNat)], [r0, r1, r2, zH s3 zL3 0, r4, r5, r6, r7, zH s8 (zLb ks) 0, r9])) rfl ?_
        obtain ⟨g8, H⟩ := zgd H
        refine zB.getI oX4_isJoined (g := 8) (p := k.toNat) (k := 1) (y := 0) rfl rfl (by omega) rfl (zLb_at _ g8.1) (zks_bar _ 1 1 1 _ rfl rfl rfl) rfl ?_
        refine xB.run oX4_isJoined 1 (s := (42, [some (.ref 3072), some (.int (zI a)), some (.int (zI b)), some (.int (zI k)), some (.ref (1024 * 8 + k.toNat))], [.int (zI b), .int (zI (s8 k.toNat 1))], [r0, r1, r2, zH s3 zL3 0, r4, r5, r6, r7, zH s8 (zLb ks) 0, r9])) rfl ?_
        obtain ⟨g7, H⟩ := zgd H
        have H := zif H
        refine xB.brE oX4_isJoined (P := (s8 k.toNat 1) ≠ b) rfl (zc_ne (a := s8 k.toNat 1) (b := b) g7) (fun h3 => ?_) (fun h3 => ?_)
        · have H := H.1 h3
          refine zB.inc oX4_isJoined rfl (lv2 := [some (.ref 3072), some (.int (zI a)), some (.int (zI b)), some (.int (zI (k + 1))), some (.ref (1024 * 8 + k.toNat))]) (zi_inc (a := 0) (zi_addp1 k) _ rfl) ?_
          refine xB.run oX4_isJoined 1 (s := (2, [some (.ref 3072), some (.int (zI a)), some (.int (zI b)), some (.int (zI (k + 1))), some (.ref (1024 * 8 + k.toNat))], [], [r0, r1, r2, zH s3 zL3 0, r4, r5, r6, r7, zH s8 (zLb ks) 0, r9])) rfl ?_
          refine xB.forget (lv1 := [some (.ref 3072), some (.int (zI a)), some (.int (zI b)), some (.int (zI (k + 1))), none]) (xle_same (xle_same (xle_same (xle_same (xle_none (xle_nil)))))) ?_
          exact ih (k + 1) H K
        · have H := H.2 h3
          refine xB.run oX4_isJoined 1 (s := (47, [some (.ref 3072), some (.int (zI a)), some (.int (zI b)), some (.int (zI k)), some (.ref (1024 * 8 + k.toNat))], [.ref (1024 * 8 + k.toNat)], [r0, r1, r2, zH s3 zL3 0, r4, r5, r6, r7, zH s8 (zLb ks) 0, r9])) rfl ?_
          obtain ⟨g6, H⟩ := zgd H
          refine zB.getI oX4_isJoined (g := 8) (p := k.toNat) (k := 2) (y := 0) rfl rfl (by omega) rfl (zLb_at _ g6.1) (zks_bar _ 2 2 2 _ rfl rfl rfl) rfl ?_
          refine xB.run oX4_isJoined 1 (s := (51, [some (.ref 3072), some (.int (zI a)), some (.int (zI b)), some (.int (zI k)), some (.ref (1024 * 8 + k.toNat))], [.int (zI a), .int (zI (s8 k.toNat 2))], [r0, r1, r2, zH s3 zL3 0, r4, r5, r6, r7, zH s8 (zLb ks) 0, r9])) rfl ?_
          obtain ⟨g5, H⟩ := zgd H
          have H := zif H
          refine xB.brE oX4_isJoined (P := (s8 k.toNat 2) ≠ a) rfl (zc_ne (a := s8 k.toNat 2) (b := a) g5) (fun h4 => ?_) (fun h4 => ?_)
          · have H := H.1 h4
            refine zB.inc oX4_isJoined rfl (lv2 := [some (.ref 3072), some (.int (zI a)), some (.int (zI b)), some (.int (zI (k + 1))), some (.ref (1024 * 8 + k.toNat))]) (zi_inc (a := 0) (zi_addp1 k) _ rfl) ?_
            refine xB.run oX4_isJoined 1 (s := (2, [some (.ref 3072), some (.int (zI a)), some (.int (zI b)), some (.int (zI (k + 1))), some (.ref (1024 * 8 + k.toNat))], [], [r0, r1, r2, zH s3 zL3 0, r4, r5, r6, r7, zH s8 (zLb ks) 0, r9])) rfl ?_
            refine xB.forget (lv1 := [some (.ref 3072), some (.int (zI a)), some (.int (zI b)), some (.int (zI (k + 1))), none]) (xle_same (xle_same (xle_same (xle_same (xle_none (xle_nil)))))) ?_
            exact ih (k + 1) H K
          · have H := H.2 h4
            refine xB.run oX4_isJoined 1 (s := (55, [some (.ref 3072), some (.int (zI a)), some (.int (zI b)), some (.int (zI k)), some (.ref (1024 * 8 + k.toNat))], [.int (zI 1)], [r0, r1, r2, zH s3 zL3 0, r4, r5, r6, r7, zH s8 (zLb ks) 0, r9])) rfl ?_
            obtain rfl := Option.some.inj H
            obtain ⟨kr, kh⟩ := K.2 _ rfl
            subst kr kh
            exact xB.ret oX4_isJoined (r1 := some (.int (zI 1))) rfl rfl rfl
      · have H := H.2 h2
        refine xB.run oX4_isJoined 1 (s := (29, [some (.ref 3072), some (.int (zI a)), some (.int (zI b)), some (.int (zI k)), some (.ref (1024 * 8 + k.toNat))], [.ref (1024 * 8 + k.toNat)], [r0, r1, r2, zH s3 zL3 0, r4, r5, r6, r7, zH s8 (zLb ks) 0, r9])) rfl ?_
        obtain ⟨g17, H⟩ := zgd H
        refine zB.getI oX4_isJoined (g := 8) (p := k.toNat) (k := 2) (y := 0) rfl rfl (by omega) rfl (zLb_at _ g17.1) (zks_bar _ 2 2 2 _ rfl rfl rfl) rfl ?_
        refine xB.run oX4_isJoined 1 (s := (33, [some (.ref 3072), some (.int (zI a)), some (.int (zI b)), some (.int (zI k)), some (.ref (1024 * 8 + k.toNat))], [.int (zI b), .int (zI (s8 k.toNat 2))], [r0, r1, r2, zH s3 zL3 0, r4, r5, r6, r7, zH s8 (zLb ks) 0, r9])) rfl ?_
        obtain ⟨g16, H⟩ := zgd H
        have H := zif H
        refine xB.brE oX4_isJoined (P := (s8 k.toNat 2) = b) rfl (zc_eq (a := s8 k.toNat 2) (b := b) g16) (fun h9 => ?_) (fun h9 => ?_)
        · have H := H.1 h9
          refine xB.run oX4_isJoined 1 (s := (55, [some (.ref 3072), some (.int (zI a)), some (.int (zI b)), some (.int (zI k)), some (.ref (1024 * 8 + k.toNat))], [.int (zI 1)], [r0, r1, r2, zH s3 zL3 0, r4, r5, r6, r7, zH s8 (zLb ks) 0, r9])) rfl ?_
          obtain rfl := Option.some.inj H
          obtain ⟨kr, kh⟩ := K.2 _ rfl
          subst kr kh
          exact xB.ret oX4_isJoined (r1 := some (.int (zI 1))) rfl rfl rfl
        · have H := H.2 h9
          refine xB.run oX4_isJoined 1 (s := (38, [some (.ref 3072), some (.int (zI a)), some (.int (zI b)), some (.int (zI k)), some (.ref (1024 * 8 + k.toNat))], [.ref (1024 * 8 + k.toNat)], [r0, r1, r2, zH s3 zL3 0, r4, r5, r6, r7, zH s8 (zLb ks) 0, r9])) rfl ?_
          obtain ⟨g15, H⟩ := zgd H
          refine zB.getI oX4_isJoined (g := 8) (p := k.toNat) (k := 1) (y := 0) rfl rfl (by omega) rfl (zLb_at _ g15.1) (zks_bar _ 1 1 1 _ rfl rfl rfl) rfl ?_
          refine xB.run oX4_isJoined 1 (s := (42, [some (.ref 3072), some (.int (zI a)), some (.int (zI b)), some (.int (zI k)), some (.ref (1024 * 8 + k.toNat))], [.int (zI b), .int (zI (s8 k.toNat 1))], [r0, r1, r2, zH s3 zL3 0, r4, r5, r6, r7, zH s8 (zLb ks) 0, r9])) rfl ?_
          obtain ⟨g14, H⟩ := zgd H
          have H := zif H
          refine xB.brE oX4_isJoined (P := (s8 k.toNat 1) ≠ b) rfl (zc_ne (a := s8 k.toNat 1) (b := b) g14) (fun h10 => ?_) (fun h10 => ?_)
          · have H := H.1 h10
            refine zB.inc oX4_isJoined rfl (lv2 := [some (.ref 3072), some (.int (zI a)), some (.int (zI b)), some (.int (zI (k + 1))), some (.ref (1024 * 8 + k.toNat))]) (zi_inc (a := 0) (zi_addp1 k) _ rfl) ?_
            refine xB.run oX4_isJoined 1 (s := (2, [some (.ref 3072), some (.int (zI a)), some (.int (zI b)), some (.int (zI (k + 1))), some (.ref (1024 * 8 + k.toNat))], [], [r0, r1, r2, zH s3 zL3 0, r4, r5, r6, r7, zH s8 (zLb ks) 0, r9])) rfl ?_
            refine xB.forget (lv1 := [some (.ref 3072), some (.int (zI a)), some (.int (zI b)), some (.int (zI (k + 1))), none]) (xle_same (xle_same (xle_same (xle_same (xle_none (xle_nil)))))) ?_
            exact ih (k + 1) H K
          · have H := H.2 h10
            refine xB.run oX4_isJoined 1 (s := (47, [some (.ref 3072), some (.int (zI a)), some (.int (zI b)), some (.int (zI k)), some (.ref (1024 * 8 + k.toNat))], [.ref (1024 * 8 + k.toNat)], [r0, r1, r2, zH s3 zL3 0, r4, r5, r6, r7, zH s8 (zLb ks) 0, r9])) rfl ?_
            obtain ⟨g13, H⟩ := zgd H
            refine zB.getI oX4_isJoined (g := 8) (p := k.toNat) (k := 2) (y := 0) rfl rfl (by omega) rfl (zLb_at _ g13.1) (zks_bar _ 2 2 2 _ rfl rfl rfl) rfl ?_
            refine xB.run oX4_isJoined 1 (s := (51, [some (.ref 3072), some (.int (zI a)), some (.int (zI b)), some (.int (zI k)), some (.ref (1024 * 8 + k.toNat))], [.int (zI a), .int (zI (s8 k.toNat 2))], [r0, r1, r2, zH s3 zL3 0, r4, r5, r6, r7, zH s8 (zLb ks) 0, r9])) rfl ?_
            obtain ⟨g12, H⟩ := zgd H
            have H := zif H
            refine xB.brE oX4_isJoined (P := (s8 k.toNat 2) ≠ a) rfl (zc_ne (a := s8 k.toNat 2) (b := a) g12) (fun h11 => ?_) (fun h11 => ?_)
            · have H := H.1 h11
              refine zB.inc oX4_isJoined rfl (lv2 := [some (.ref 3072), some (.int (zI a)), some (.int (zI b)), some (.int (zI (k + 1))), some (.ref (1024 * 8 + k.toNat))]) (zi_inc (a := 0) (zi_addp1 k) _ rfl) ?_
              refine xB.run oX4_isJoined 1 (s := (2, [some (.ref 3072), some (.int (zI a)), some (.int (zI b)), some (.int (zI (k + 1))), some (.ref (1024 * 8 + k.toNat))], [], [r0, r1, r2, zH s3 zL3 0, r4, r5, r6, r7, zH s8 (zLb ks) 0, r9])) rfl ?_
              refine xB.forget (lv1 := [some (.ref 3072), some (.int (zI a)), some (.int (zI b)), some (.int (zI (k + 1))), none]) (xle_same (xle_same (xle_same (xle_same (xle_none (xle_nil)))))) ?_
              exact ih (k + 1) H K
            · have H := H.2 h11
              refine xB.run oX4_isJoined 1 (s := (55, [some (.ref 3072), some (.int (zI a)), some (.int (zI b)), some (.int (zI k)), some (.ref (1024 * 8 + k.toNat))], [.int (zI 1)], [r0, r1, r2, zH s3 zL3 0, r4, r5, r6, r7, zH s8 (zLb ks) 0, r9])) rfl ?_
              obtain rfl := Option.some.inj H
              obtain ⟨kr, kh⟩ := K.2 _ rfl
              subst kr kh
              exact xB.ret oX4_isJoined (r1 := some (.int (zI 1))) rfl rfl rfl
set_option maxRecDepth 20000 in
theorem t_X4_isJoined (r0 : List va_E) (r1 : List va_E) (r2 : List va_E) (s3 : zZ) (r4 : List va_E) (r5 : List va_E) (r6 : List va_E) (r7 : List va_E) (s8 : zZ) (r9 : List va_E) (ks : List Int) (a : Int) (b : Int) {rr : Int} (H : d_X4_isJoined s3 s8 ks a b = some rr) : xC MX4_isJoined 0 [.ref 3072, .int (zI a), .int (zI b)] ([r0, r1, r2, zH s3 zL3 0, r4, r5, r6, r7, zH s8 (zLb ks) 0, r9]) (some (.int (zI rr))) ([r0, r1, r2, zH s3 zL3 0, r4, r5, r6, r7, zH s8 (zLb ks) 0, r9]) := by
  refine ⟨Nat.le_of_ble_eq_true rfl, ?_⟩
  show xBody MX4_isJoined 0 0 [some (.ref 3072), some (.int (zI a)), some (.int (zI b)), none, none] [] ([r0, r1, r2, zH s3 zL3 0, r4, r5, r6, r7, zH s8 (zLb ks) 0, r9]) _ _
  unfold d_X4_isJoined at H
  refine xB.run oX4_isJoined 2 (s := (2, [some (.ref 3072), some (.int (zI a)), some (.int (zI b)), some (.int (zI 0)), none], [], [r0, r1, r2, zH s3 zL3 0, r4, r5, r6, r7, zH s8 (zLb ks) 0, r9])) rfl ?_
  obtain ⟨y22, e23, H⟩ := zbd H
  refine l_X4_isJoined_2 r0 r1 r2 s3 r4 r5 r6 r7 s8 r9 ks a b _ 0 e23 ?_
  refine ⟨fun y24 uQ => ?_, fun y25 uQ => ?_⟩
  · subst uQ
    refine xB.run oX4_isJoined 1 (s := (63, [some (.ref 3072), some (.int (zI a)), some (.int (zI b)), some (.int (zI y24)), none], [.int (zI 0)], [r0, r1, r2, zH s3 zL3 0, r4, r5, r6, r7, zH s8 (zLb ks) 0, r9])) rfl ?_
    obtain rfl := Option.some.inj H
    exact xB.ret oX4_isJoined (r1 := some (.int (zI 0))) rfl rfl rfl
  · subst uQ
    obtain rfl := Option.some.inj H
    exact ⟨rfl, rfl⟩
def d_X4_hasRoomForBar (s3 : zZ) : Option (Int) := if (zr (s3 0 7)) then (if (16 : Int) ≤ (s3 0 7) then some 0 else some 1) else none
set_option maxRecDepth 20000 in
theorem t_X4_hasRoomForBar (r0 : List va_E) (r1 : List va_E) (r2 : List va_E) (s3 : zZ) (r4 : List va_E) (r5 : List va_E) (r6 : List va_E) (r7 : List va_E) (r8 : List va_E) (r9 : List va_E) {rr : Int} (H : d_X4_hasRoomForBar s3 = some rr) : xC MX4_hasRoomForBar 0 [.ref 3072] ([r0, r1, r2, zH s3 zL3 0, r4, r5, r6, r7, r8, r9]) (some (.int (zI rr))) ([r0, r1, r2, zH s3 zL3 0, r4, r5, r6, r7, r8, r9]) := by
  refine ⟨Nat.le_of_ble_eq_true rfl, ?_⟩
  show xBody MX4_hasRoomForBar 0 0 [some (.ref 3072)] [] ([r0, r1, r2, zH s3 zL3 0, r4, r5, r6, r7, r8, r9]) _ _
  unfold d_X4_hasRoomForBar at H
  refine xB.run oX4_hasRoomForBar 3 (s := (6, [some (.ref 3072)], [.int (zI 16), .int (zI (s3 0 7))], [r0, r1, r2, zH s3 zL3 0, r4, r5, r6, r7, r8, r9])) rfl ?_
  obtain ⟨g2, H⟩ := zgd H
  have H := zif H
  refine xB.brE oX4_hasRoomForBar (P := (16 : Int) ≤ (s3 0 7)) rfl (zc_ge (a := s3 0 7) (b := 16) ⟨g2, by decide⟩) (fun h1 => ?_) (fun h1 => ?_)
  · have H := H.1 h1
    refine xB.run oX4_hasRoomForBar 1 (s := (14, [some (.ref 3072)], [.int (zI 0)], [r0, r1, r2, zH s3 zL3 0, r4, r5, r6, r7, r8, r9])) rfl ?_
    obtain rfl := Option.some.inj H
    exact xB.ret oX4_hasRoomForBar (r1 := some (.int (zI 0))) rfl rfl rfl
  · have H := H.2 h1
    refine xB.run oX4_hasRoomForBar 2 (s := (14, [some (.ref 3072)], [.int (zI 1)], [r0, r1, r2, zH s3 zL3 0, r4, r5, r6, r7, r8, r9])) rfl ?_
    obtain rfl := Option.some.inj H
    exact xB.ret oX4_hasRoomForBar (r1 := some (.int (zI 1))) rfl rfl rfl
def d_X4_addBar (s0 : zZ) (s1 : zZ) (s2 : zZ) (s3 : zZ) (s4 : zZ) (s5 : zZ) (s6 : zZ) (s7 : zZ) (s8 : zZ) (ks : List Int) (kind : Int) (a : Int) (b : Int) (str : Int) : Option (Int × zZ × zZ × List Int) := (d_X4_hasRoomForBar s3).bind fun y1 => if (zr y1) then (if y1 ≠ 0 then (if zr kind then (if kind = 1 then (if (ks.length < 16) then ((d_X3_init (znew s8 ks.length) (ks ++ [1]) (s3 0 7) a b str ((ks.length : Nat) : Int)).bind fun y6 => if ((s3 0 7) = s3 5 0 ∧ ((ks.length : Nat) : Int).toNat = (s3 0 7).toNat ∧ (0 ≤ (s3 0 7) ∧ (s3 0 7) < 16) ∧ ((ks.length : Nat) : Int).toNat < (ks ++ [1]).length) then some (((upz (upz (upz s3 5 0 ((s3 0 7) + 1)) 0 10 1) 0 7 (((upz (upz s3 5 0 ((s3 0 7) + 1)) 0 10 1) 0 7) + 1)) 0 7) - 1, upz (upz (upz s3 5 0 ((s3 0 7) + 1)) 0 10 1) 0 7 (((upz (upz s3 5 0 ((s3 0 7) + 1)) 0 10 1) 0 7) + 1), y6, (ks ++ [1])) else none) else none) else (if kind = 2 then (if (ks.length < 16) then ((d_X1_init (znew s8 ks.length) (ks ++ [2]) (s3 0 7) a b str ((ks.length : Nat) : Int)).bind fun y11 => if ((s3 0 7) = s3 5 0 ∧ ((ks.length : Nat) : Int).toNat = (s3 0 7).toNat ∧ (0 ≤ (s3 0 7) ∧ (s3 0 7) < 16) ∧ ((ks.length : Nat) : Int).toNat < (ks ++ [2]).length) then some (((upz (upz (upz s3 5 0 ((s3 0 7) + 1)) 0 10 1) 0 7 (((upz (upz s3 5 0 ((s3 0 7) + 1)) 0 10 1) 0 7) + 1)) 0 7) - 1, upz (upz (upz s3 5 0 ((s3 0 7) + 1)) 0 10 1) 0 7 (((upz (upz s3 5 0 ((s3 0 7) + 1)) 0 10 1) 0 7) + 1), y11, (ks ++ [2])) else none) else none) else (if (ks.length < 16) then ((d_X0_init (znew s8 ks.length) (ks ++ [0]) (s3 0 7) a b str ((ks.length : Nat) : Int)).bind fun y15 => if ((s3 0 7) = s3 5 0 ∧ ((ks.length : Nat) : Int).toNat = (s3 0 7).toNat ∧ (0 ≤ (s3 0 7) ∧ (s3 0 7) < 16) ∧ ((ks.length : Nat) : Int).toNat < (ks ++ [0]).length) then some (((upz (upz (upz s3 5 0 ((s3 0 7) + 1)) 0 10 1) 0 7 (((upz (upz s3 5 0 ((s3 0 7) + 1)) 0 10 1) 0 7) + 1)) 0 7) - 1, upz (upz (upz s3 5 0 ((s3 0 7) + 1)) 0 10 1) 0 7 (((upz (upz s3 5 0 ((s3 0 7) + 1)) 0 10 1) 0 7) + 1), y15, (ks ++ [0])) else none) else none))) else none) else some ((-4), s3, s8, ks)) else none
set_option maxRecDepth 20000 in
theorem t_X4_addBar (s0 : zZ) (s1 : zZ) (s2 : zZ) (s3 : zZ) (s4 : zZ) (s5 : zZ) (s6 : zZ) (s7 : zZ) (s8 : zZ) (r9 : List va_E) (ks : List Int) (kind : Int) (a : Int) (b : Int) (str : Int) {rr : Int × zZ × zZ × List Int} (H : d_X4_addBar s0 s1 s2 s3 s4 s5 s6 s7 s8 ks kind a b str = some rr) : xC MX4_addBar 3 [.ref 3072, .int (zI kind), .int (zI a), .int (zI b), .int (zI str)] ([zH s0 zL0 0, zH s1 zL1 0, zH s2 zL2 0, zH s3 zL3 0, zH s4 zL4 0, zH s5 zL5 0, zH s6 zL6 0, zH s7 zL7 0, zH s8 (zLb ks) 0, r9]) (some (.int (zI rr.1))) ([zH s0 zL0 0, zH s1 zL1 0, zH s2 zL2 0, zH rr.2.1 zL3 0, zH s4 zL4 0, zH s5 zL5 0, zH s6 zL6 0, zH s7 zL7 0, zH rr.2.2.1 (zLb rr.2.2.2) 0, r9]) := by
  refine ⟨Nat.le_of_ble_eq_true rfl, ?_⟩
  show xBody MX4_addBar 3 0 [some (.ref 3072), some (.int (zI kind)), some (.int (zI a)), some (.int (zI b)), some (.int (zI str))] [] ([zH s0 zL0 0, zH s1 zL1 0, zH s2 zL2 0, zH s3 zL3 0, zH s4 zL4 0, zH s5 zL5 0, zH s6 zL6 0, zH s7 zL7 0, zH s8 (zLb ks) 0, r9]) _ _
  unfold d_X4_addBar at H
  refine xB.run oX4_addBar 1 (s := (1, [some (.ref 3072), some (.int (zI kind)), some (.int (zI a)), some (.int (zI b)), some (.int (zI str))], [.ref 3072], [zH s0 zL0 0, zH s1 zL1 0, zH s2 zL2 0, zH s3 zL3 0, zH s4 zL4 0, zH s5 zL5 0, zH s6 zL6 0, zH s7 zL7 0, zH s8 (zLb ks) 0, r9])) rfl ?_
  obtain ⟨y1, e2, H⟩ := zbd H
  refine xB.call oX4_addBar (M2 := MX4_hasRoomForBar) rfl rfl ((t_X4_hasRoomForBar (zH s0 zL0 0) (zH s1 zL1 0) (zH s2 zL2 0) s3 (zH s4 zL4 0) (zH s5 zL5 0) (zH s6 zL6 0) (zH s7 zL7 0) (zH s8 (zLb ks) 0) r9  e2).deep (by decide : 0 ≤ 2)) ?_
  show xBody MX4_addBar 3 4 [some (.ref 3072), some (.int (zI kind)), some (.int (zI a)), some (.int (zI b)), some (.int (zI str))] [.int (zI y1)] ([zH s0 zL0 0, zH s1 zL1 0, zH s2 zL2 0, zH s3 zL3 0, zH s4 zL4 0, zH s5 zL5 0, zH s6 zL6 0, zH s7 zL7 0, zH s8 (zLb ks) 0, r9]) _ _
  obtain ⟨g19, H⟩ := zgd H
  have H := zif H
  refine xB.brE oX4_addBar (P := y1 ≠ 0) rfl (zc_ne (a := y1) (b := 0) ⟨g19, by decide⟩) (fun h3 => ?_) (fun h3 => ?_)
  · have H := H.1 h3
    refine xB.run oX4_addBar 1 (s := (11, [some (.ref 3072), some (.int (zI kind)), some (.int (zI a)), some (.int (zI b)), some (.int (zI str))], [.int (zI kind)], [zH s0 zL0 0, zH s1 zL1 0, zH s2 zL2 0, zH s3 zL3 0, zH s4 zL4 0, zH s5 zL5 0, zH s6 zL6 0, zH s7 zL7 0, zH s8 (zLb ks) 0, r9])) rfl ?_
    obtain ⟨g4, H⟩ := zgd H
    have H := zif H
    by_cases h5 : kind = 1
    · have H := H.1 h5
      refine xB.next oX4_addBar (s := (36, [some (.ref 3072), some (.int (zI kind)), some (.int (zI a)), some (.int (zI b)), some (.int (zI str))], [], [zH s0 zL0 0, zH s1 zL1 0, zH s2 zL2 0, zH s3 zL3 0, zH s4 zL4 0, zH s5 zL5 0, zH s6 zL6 0, zH s7 zL7 0, zH s8 (zLb ks) 0, r9])) (xsw_at rfl (by rw [zsw g4 1 _ (by decide), if_pos (show kind = ((1 : Nat) : Int) from h5)])) ?_
      refine xB.run oX4_addBar 4 (s := (44, [some (.ref 3072), some (.int (zI kind)), some (.int (zI a)), some (.int (zI b)), some (.int (zI str))], [.int (zI (s3 0 7)), .ref 3077], [zH s0 zL0 0, zH s1 zL1 0, zH s2 zL2 0, zH s3 zL3 0, zH s4 zL4 0, zH s5 zL5 0, zH s6 zL6 0, zH s7 zL7 0, zH s8 (zLb ks) 0, r9])) rfl ?_
      obtain ⟨g9, H⟩ := zgd H
      refine zB.newbar oX4_addBar (kd := 1) rfl rfl rfl g9 (hp1 := [zH s0 zL0 0, zH s1 zL1 0, zH s2 zL2 0, zH s3 zL3 0, zH s4 zL4 0, zH s5 zL5 0, zH s6 zL6 0, zH s7 zL7 0, zH (znew s8 ks.length) (zLb (ks ++ [1])) 0, r9]) rfl ?_
      show xBody MX4_addBar 3 47 [some (.ref 3072), some (.int (zI kind)), some (.int (zI a)), some (.int (zI b)), some (.int (zI str))] [.ref (1024 * 8 + (((ks.length : Nat) : Int).toNat)), .int (zI (s3 0 7)), .ref 3077] ([zH s0 zL0 0, zH s1 zL1 0, zH s2 zL2 0, zH s3 zL3 0, zH s4 zL4 0, zH s5 zL5 0, zH s6 zL6 0, zH s7 zL7 0, zH (znew s8 ks.length) (zLb (ks ++ [1])) 0, r9]) _ _
      refine xB.run oX4_addBar 6 (s := (56, [some (.ref 3072), some (.int (zI kind)), some (.int (zI a)), some (.int (zI b)), some (.int (zI str))], [.int (zI str), .int (zI b), .int (zI a), .int (zI (s3 0 7)), .ref (1024 * 8 + (((ks.length : Nat) : Int).toNat)), .ref (1024 * 8 + (((ks.length : Nat) : Int).toNat)), .int (zI (s3 0 7)), .ref 3077], [zH s0 zL0 0, zH s1 zL1 0, zH s2 zL2 0, zH s3 zL3 0, zH s4 zL4 0, zH s5 zL5 0, zH s6 zL6 0, zH s7 zL7 0, zH (znew s8 ks.length) (zLb (ks ++ [1])) 0, r9])) rfl ?_
      obtain ⟨y6, e7, H⟩ := zbd H
      refine xB.call oX4_addBar (M2 := MX3_init) rfl rfl ((t_X3_init (zH s0 zL0 0) (zH s1 zL1 0) (zH s2 zL2 0) (zH s3 zL3 0) (zH s4 zL4 0) (zH s5 zL5 0) (zH s6 zL6 0) (zH s7 zL7 0) (znew s8 ks.length) r9 (ks ++ [1]) (s3 0 7) a b str ((ks.length : Nat) : Int) e7).deep (by decide : 1 ≤ 2)) ?_
      show xBody MX4_addBar 3 59 [some (.ref 3072), some (.int (zI kind)), some (.int (zI a)), some (.int (zI b)), some (.int (zI str))] [.ref (1024 * 8 + (((ks.length : Nat) : Int).toNat)), .int (zI (s3 0 7)), .ref 3077] ([zH s0 zL0 0, zH s1 zL1 0, zH s2 zL2 0, zH s3 zL3 0, zH s4 zL4 0, zH s5 zL5 0, zH s6 zL6 0, zH s7 zL7 0, zH y6 (zLb (ks ++ [1])) 0, r9]) _ _
      obtain ⟨g8, H⟩ := zgd H
      refine zB.aastB oX4_addBar (g := 3) (p := 5) (N := 16) (i := s3 0 7) (q := ((ks.length : Nat) : Int).toNat) (hp1 := [zH s0 zL0 0, zH s1 zL1 0, zH s2 zL2 0, zH (upz s3 5 0 ((s3 0 7) + 1)) zL3 0, zH s4 zL4 0, zH s5 zL5 0, zH s6 zL6 0, zH s7 zL7 0, zH y6 (zLb (ks ++ [1])) 0, r9]) rfl rfl (by decide) (by decide) rfl rfl (by decide) g8.2.2.1 g8.1 g8.2.1 (by omega) rfl (zLb_at _ g8.2.2.2) rfl ?_
      refine xB.run oX4_addBar 3 (s := (116, [some (.ref 3072), some (.int (zI kind)), some (.int (zI a)), some (.int (zI b)), some (.int (zI str))], [.int (zI 1), .ref 3072], [zH s0 zL0 0, zH s1 zL1 0, zH s2 zL2 0, zH (upz s3 5 0 ((s3 0 7) + 1)) zL3 0, zH s4 zL4 0, zH s5 zL5 0, zH s6 zL6 0, zH s7 zL7 0, zH y6 (zLb (ks ++ [1])) 0, r9])) rfl ?_
      refine zB.putI oX4_addBar (g := 3) (p := 0) (c := 4) (k := 10) (y := 0) (hp1 := [zH s0 zL0 0, zH s1 zL1 0, zH s2 zL2 0, zH (upz (upz s3 5 0 ((s3 0 7) + 1)) 0 10 1) zL3 0, zH s4 zL4 0, zH s5 zL5 0, zH s6 zL6 0, zH s7 zL7 0, zH y6 (zLb (ks ++ [1])) 0, r9]) rfl rfl (by decide) (by decide) rfl rfl rfl rfl rfl rfl ?_
      refine xB.run oX4_addBar 4 (s := (125, [some (.ref 3072), some (.int (zI kind)), some (.int (zI a)), some (.int (zI b)), some (.int (zI str))], [.int (zI 1), .int (zI ((upz (upz s3 5 0 ((s3 0 7) + 1)) 0 10 1) 0 7)), .ref 3072], [zH s0 zL0 0, zH s1 zL1 0, zH s2 zL2 0, zH (upz (upz s3 5 0 ((s3 0 7) + 1)) 0 10 1) zL3 0, zH s4 zL4 0, zH s5 zL5 0, zH s6 zL6 0, zH s7 zL7 0, zH y6 (zLb (ks ++ [1])) 0, r9])) rfl ?_
      refine zB.opi oX4_addBar rfl (zi_add ((upz (upz s3 5 0 ((s3 0 7) + 1)) 0 10 1) 0 7) 1) ?_
      refine zB.putI oX4_addBar (g := 3) (p := 0) (c := 4) (k := 7) (y := 0) (hp1 := [zH s0 zL0 0, zH s1 zL1 0, zH s2 zL2 0, zH (upz (upz (upz s3 5 0 ((s3 0 7) + 1)) 0 10 1) 0 7 (((upz (upz s3 5 0 ((s3 0 7) + 1)) 0 10 1) 0 7) + 1)) zL3 0, zH s4 zL4 0, zH s5 zL5 0, zH s6 zL6 0, zH s7 zL7 0, zH y6 (zLb (ks ++ [1])) 0, r9]) rfl rfl (by decide) (by decide) rfl rfl rfl rfl rfl rfl ?_
      refine xB.run oX4_addBar 3 (s := (134, [some (.ref 3072), some (.int (zI kind)), some (.int (zI a)), some (.int (zI b)), some (.int (zI str))], [.int (zI 1), .int (zI ((upz (upz (upz s3 5 0 ((s3 0 7) + 1)) 0 10 1) 0 7 (((upz (upz s3 5 0 ((s3 0 7) + 1)) 0 10 1) 0 7) + 1)) 0 7))], [zH s0 zL0 0, zH s1 zL1 0, zH s2 zL2 0, zH (upz (upz (upz s3 5 0 ((s3 0 7) + 1)) 0 10 1) 0 7 (((upz (upz s3 5 0 ((s3 0 7) + 1)) 0 10 1) 0 7) + 1)) zL3 0, zH s4 zL4 0, zH s5 zL5 0, zH s6 zL6 0, zH s7 zL7 0, zH y6 (zLb (ks ++ [1])) 0, r9])) rfl ?_
      refine zB.opi oX4_addBar rfl (zi_sub ((upz (upz (upz s3 5 0 ((s3 0 7) + 1)) 0 10 1) 0 7 (((upz (upz s3 5 0 ((s3 0 7) + 1)) 0 10 1) 0 7) + 1)) 0 7) 1) ?_
      obtain rfl := Option.some.inj H
      exact xB.ret oX4_addBar (r1 := some (.int (zI (((upz (upz (upz s3 5 0 ((s3 0 7) + 1)) 0 10 1) 0 7 (((upz (upz s3 5 0 ((s3 0 7) + 1)) 0 10 1) 0 7) + 1)) 0 7) - 1)))) rfl rfl rfl
    · have H := H.2 h5
      have H := zif H
      by_cases h10 : kind = 2
      · have H := H.1 h10
        refine xB.next oX4_addBar (s := (63, [some (.ref 3072), some (.int (zI kind)), some (.int (zI a)), some (.int (zI b)), some (.int (zI str))], [], [zH s0 zL0 0, zH s1 zL1 0, zH s2 zL2 0, zH s3 zL3 0, zH s4 zL4 0, zH s5 zL5 0, zH s6 zL6 0, zH s7 zL7 0, zH s8 (zLb ks) 0, r9])) (xsw_at rfl (by rw [zsw g4 1 _ (by decide), if_neg (show ¬ kind = ((1 : Nat) : Int) from h5)]; rw [zsw g4 2 _ (by decide), if_pos (show kind = ((2 : Nat) : Int) from h10)])) ?_
        refine xB.run oX4_addBar 4 (s := (71, [some (.ref 3072), some (.int (zI kind)), some (.int (zI a)), some (.int (zI b)), some (.int (zI str))], [.int (zI (s3 0 7)), .ref 3077], [zH s0 zL0 0, zH s1 zL1 0, zH s2 zL2 0, zH s3 zL3 0, zH s4 zL4 0, zH s5 zL5 0, zH s6 zL6 0, zH s7 zL7 0, zH s8 (zLb ks) 0, r9])) rfl ?_
        obtain ⟨g14, H⟩ := zgd H
        refine zB.newbar oX4_addBar (kd := 2) rfl rfl rfl g14 (hp1 := [zH s0 zL0 0, zH s1 zL1 0, zH s2 zL2 0, zH s3 zL3 0, zH s4 zL4 0, zH s5 zL5 0, zH s6 zL6 0, zH s7 zL7 0, zH (znew s8 ks.length) (zLb (ks ++ [2])) 0, r9]) rfl ?_
        show xBody MX4_addBar 3 74 [some (.ref 3072), some (.int (zI kind)), some (.int (zI a)), some (.int (zI b)), some (.int (zI str))] [.ref (1024 * 8 + (((ks.length : Nat) : Int).toNat)), .int (zI (s3 0 7)), .ref 3077] ([zH s0 zL0 0, zH s1 zL1 0, zH s2 zL2 0, zH s3 zL3 0, zH s4 zL4 0, zH s5 zL5 0, zH s6 zL6 0, zH s7 zL7 0, zH (znew s8 ks.length) (zLb (ks ++ [2])) 0, r9]) _ _
        refine xB.run oX4_addBar 6 (s := (83, [some (.ref 3072), some (.int (zI kind)), some (.int (zI a)), some (.int (zI b)), some (.int (zI str))], [.int (zI str), .int (zI b), .int (zI a), .int (zI (s3 0 7)), .ref (1024 * 8 + (((ks.length : Nat) : Int).toNat)), .ref (1024 * 8 + (((ks.length : Nat) : Int).toNat)), .int (zI (s3 0 7)), .ref 3077], [zH s0 zL0 0, zH s1 zL1 0, zH s2 zL2 0, zH s3 zL3 0, zH s4 zL4 0, zH s5 zL5 0, zH s6 zL6 0, zH s7 zL7 0, zH (znew s8 ks.length) (zLb (ks ++ [2])) 0, r9])) rfl ?_
        obtain ⟨y11, e12, H⟩ := zbd H
        refine xB.call oX4_addBar (M2 := MX1_init) rfl rfl ((t_X1_init (zH s0 zL0 0) (zH s1 zL1 0) (zH s2 zL2 0) (zH s3 zL3 0) (zH s4 zL4 0) (zH s5 zL5 0) (zH s6 zL6 0) (zH s7 zL7 0) (znew s8 ks.length) r9 (ks ++ [2]) (s3 0 7) a b str ((ks.length : Nat) : Int) e12).deep (by decide : 2 ≤ 2)) ?_
        show xBody MX4_addBar 3 86 [some (.ref 3072), some (.int (zI kind)), some (.int (zI a)), some (.int (zI b)), some (.int (zI str))] [.ref (1024 * 8 + (((ks.length : Nat) : Int).toNat)), .int (zI (s3 0 7)), .ref 3077] ([zH s0 zL0 0, zH s1 zL1 0, zH s2 zL2 0, zH s3 zL3 0, zH s4 zL4 0, zH s5 zL5 0, zH s6 zL6 0, zH s7 zL7 0, zH y11 (zLb (ks ++ [2])) 0, r9]) _ _
        obtain ⟨g13, H⟩ := zgd H
        refine zB.aastB oX4_addBar (g := 3) (p := 5) (N := 16) (i := s3 0 7) (q := ((ks.length : Nat) : Int).toNat) (hp1 := [zH s0 zL0 0, zH s1 zL1 0, zH s2 zL2 0, zH (upz s3 5 0 ((s3 0 7) + 1)) zL3 0, zH s4 zL4 0, zH s5 zL5 0, zH s6 zL6 0, zH s7 zL7 0, zH y11 (zLb (ks ++ [2])) 0, r9]) rfl rfl (by decide) (by decide) rfl rfl (by decide) g13.2.2.1 g13.1 g13.2.1 (by omega) rfl (zLb_at _ g13.2.2.2) rfl ?_
        refine xB.run oX4_addBar 3 (s := (116, [some (.ref 3072), some (.int (zI kind)), some (.int (zI a)), some (.int (zI b)), some (.int (zI str))], [.int (zI 1), .ref 3072], [zH s0 zL0 0, zH s1 zL1 0, zH s2 zL2 0, zH (upz s3 5 0 ((s3 0 7) + 1)) zL3 0, zH s4 zL4 0, zH s5 zL5 0, zH s6 zL6 0, zH s7 zL7 0, zH y11 (zLb (ks ++ [2])) 0, r9])) rfl ?_
        refine zB.putI oX4_addBar (g := 3) (p := 0) (c := 4) (k := 10) (y := 0) (hp1 := [zH s0 zL0 0, zH s1 zL1 0, zH s2 zL2 0, zH (upz (upz s3 5 0 ((s3 0 7) + 1)) 0 10 1) zL3 0, zH s4 zL4 0, zH s5 zL5 0, zH s6 zL6 0, zH s7 zL7 0, zH y11 (zLb (ks ++ [2])) 0, r9]) rfl rfl (by decide) (by decide) rfl rfl rfl rfl rfl rfl ?_
        refine xB.run oX4_addBar 4 (s := (125, [some (.ref 3072), some (.int (zI kind)), some (.int (zI a)), some (.int (zI b)), some (.int (zI str))], [.int (zI 1), .int (zI ((upz (upz s3 5 0 ((s3 0 7) + 1)) 0 10 1) 0 7)), .ref 3072], [zH s0 zL0 0, zH s1 zL1 0, zH s2 zL2 0, zH (upz (upz s3 5 0 ((s3 0 7) + 1)) 0 10 1) zL3 0, zH s4 zL4 0, zH s5 zL5 0, zH s6 zL6 0, zH s7 zL7 0, zH y11 (zLb (ks ++ [2])) 0, r9])) rfl ?_
        refine zB.opi oX4_addBar rfl (zi_add ((upz (upz s3 5 0 ((s3 0 7) + 1)) 0 10 1) 0 7) 1) ?_
        refine zB.putI oX4_addBar (g := 3) (p := 0) (c := 4) (k := 7) (y := 0) (hp1 := [zH s0 zL0 0, zH s1 zL1 0, zH s2 zL2 0, zH (upz (upz (upz s3 5 0 ((s3 0 7) + 1)) 0 10 1) 0 7 (((upz (upz s3 5 0 ((s3 0 7) + 1)) 0 10 1) 0 7) + 1)) zL3 0, zH s4 zL4 0, zH s5 zL5 0, zH s6 zL6 0, zH s7 zL7 0, zH y11 (zLb (ks ++ [2])) 0, r9]) rfl rfl (by decide) (by decide) rfl rfl rfl rfl rfl rfl ?_
        refine xB.run oX4_addBar 3 (s := (134, [some (.ref 3072), some (.int (zI kind)), some (.int (zI a)), some (.int (zI b)), some (.int (zI str))], [.int (zI 1), .int (zI ((upz (upz (upz s3 5 0 ((s3 0 7) + 1)) 0 10 1) 0 7 (((upz (upz s3 5 0 ((s3 0 7) + 1)) 0 10 1) 0 7) + 1)) 0 7))], [zH s0 zL0 0, zH s1 zL1 0, zH s2 zL2 0, zH (upz (upz (upz s3 5 0 ((s3 0 7) + 1)) 0 10 1) 0 7 (((upz (upz s3 5 0 ((s3 0 7) + 1)) 0 10 1) 0 7) + 1)) zL3 0, zH s4 zL4 0, zH s5 zL5 0, zH s6 zL6 0, zH s7 zL7 0, zH y11 (zLb (ks ++ [2])) 0, r9])) rfl ?_
        refine zB.opi oX4_addBar rfl (zi_sub ((upz (upz (upz s3 5 0 ((s3 0 7) + 1)) 0 10 1) 0 7 (((upz (upz s3 5 0 ((s3 0 7) + 1)) 0 10 1) 0 7) + 1)) 0 7) 1) ?_
        obtain rfl := Option.some.inj H
        exact xB.ret oX4_addBar (r1 := some (.int (zI (((upz (upz (upz s3 5 0 ((s3 0 7) + 1)) 0 10 1) 0 7 (((upz (upz s3 5 0 ((s3 0 7) + 1)) 0 10 1) 0 7) + 1)) 0 7) - 1)))) rfl rfl rfl
      · have H := H.2 h10
        refine xB.next oX4_addBar (s := (90, [some (.ref 3072), some (.int (zI kind)), some (.int (zI a)), some (.int (zI b)), some (.int (zI str))], [], [zH s0 zL0 0, zH s1 zL1 0, zH s2 zL2 0, zH s3 zL3 0, zH s4 zL4 0, zH s5 zL5 0, zH s6 zL6 0, zH s7 zL7 0, zH s8 (zLb ks) 0, r9])) (xsw_at rfl (by rw [zsw g4 1 _ (by decide), if_neg (show ¬ kind = ((1 : Nat) : Int) from h5)]; rw [zsw g4 2 _ (by decide), if_neg (show ¬ kind = ((2 : Nat) : Int) from h10)]; rfl)) ?_
        refine xB.run oX4_addBar 4 (s := (98, [some (.ref 3072), some (.int (zI kind)), some (.int (zI a)), some (.int (zI b)), some (.int (zI str))], [.int (zI (s3 0 7)), .ref 3077], [zH s0 zL0 0, zH s1 zL1 0, zH s2 zL2 0, zH s3 zL3 0, zH s4 zL4 0, zH s5 zL5 0, zH s6 zL6 0, zH s7 zL7 0, zH s8 (zLb ks) 0, r9])) rfl ?_
        obtain ⟨g18, H⟩ := zgd H
        refine zB.newbar oX4_addBar (kd := 0) rfl rfl rfl g18 (hp1 := [zH s0 zL0 0, zH s1 zL1 0, zH s2 zL2 0, zH s3 zL3 0, zH s4 zL4 0, zH s5 zL5 0, zH s6 zL6 0, zH s7 zL7 0, zH (znew s8 ks.length) (zLb (ks ++ [0])) 0, r9]) rfl ?_
        show xBody MX4_addBar 3 101 [some (.ref 3072), some (.int (zI kind)), some (.int (zI a)), some (.int (zI b)), some (.int (zI str))] [.ref (1024 * 8 + (((ks.length : Nat) : Int).toNat)), .int (zI (s3 0 7)), .ref 3077] ([zH s0 zL0 0, zH s1 zL1 0, zH s2 zL2 0, zH s3 zL3 0, zH s4 zL4 0, zH s5 zL5 0, zH s6 zL6 0, zH s7 zL7 0, zH (znew s8 ks.length) (zLb (ks ++ [0])) 0, r9]) _ _
        refine xB.run oX4_addBar 6 (s := (110, [some (.ref 3072), some (.int (zI kind)), some (.int (zI a)), some (.int (zI b)), some (.int (zI str))], [.int (zI str), .int (zI b), .int (zI a), .int (zI (s3 0 7)), .ref (1024 * 8 + (((ks.length : Nat) : Int).toNat)), .ref (1024 * 8 + (((ks.length : Nat) : Int).toNat)), .int (zI (s3 0 7)), .ref 3077], [zH s0 zL0 0, zH s1 zL1 0, zH s2 zL2 0, zH s3 zL3 0, zH s4 zL4 0, zH s5 zL5 0, zH s6 zL6 0, zH s7 zL7 0, zH (znew s8 ks.length) (zLb (ks ++ [0])) 0, r9])) rfl ?_
        obtain ⟨y15, e16, H⟩ := zbd H
        refine xB.call oX4_addBar (M2 := MX0_init) rfl rfl ((t_X0_init (zH s0 zL0 0) (zH s1 zL1 0) (zH s2 zL2 0) (zH s3 zL3 0) (zH s4 zL4 0) (zH s5 zL5 0) (zH s6 zL6 0) (zH s7 zL7 0) (znew s8 ks.length) r9 (ks ++ [0]) (s3 0 7) a b str ((ks.length : Nat) : Int) e16).deep (by decide : 0 ≤ 2)) ?_
        show xBody MX4_addBar 3 113 [some (.ref 3072), some (.int (zI kind)), some (.int (zI a)), some (.int (zI b)), some (.int (zI str))] [.ref (1024 * 8 + (((ks.length : Nat) : Int).toNat)), .int (zI (s3 0 7)), .ref 3077] ([zH s0 zL0 0, zH s1 zL1 0, zH s2 zL2 0, zH s3 zL3 0, zH s4 zL4 0, zH s5 zL5 0, zH s6 zL6 0, zH s7 zL7 0, zH y15 (zLb (ks ++ [0])) 0, r9]) _ _
        obtain ⟨g17, H⟩ := zgd H
        refine zB.aastB oX4_addBar (g := 3) (p := 5) (N := 16) (i := s3 0 7) (q := ((ks.length : Nat) : Int).toNat) (hp1 := [zH s0 zL0 0, zH s1 zL1 0, zH s2 zL2 0, zH (upz s3 5 0 ((s3 0 7) + 1)) zL3 0, zH s4 zL4 0, zH s5 zL5 0, zH s6 zL6 0, zH s7 zL7 0, zH y15 (zLb (ks ++ [0])) 0, r9]) rfl rfl (by decide) (by decide) rfl rfl (by decide) g17.2.2.1 g17.1 g17.2.1 (by omega) rfl (zLb_at _ g17.2.2.2) rfl ?_
        refine xB.run oX4_addBar 2 (s := (116, [some (.ref 3072), some (.int (zI kind)), some (.int (zI a)), some (.int (zI b)), some (.int (zI str))], [.int (zI 1), .ref 3072], [zH s0 zL0 0, zH s1 zL1 0, zH s2 zL2 0, zH (upz s3 5 0 ((s3 0 7) + 1)) zL3 0, zH s4 zL4 0, zH s5 zL5 0, zH s6 zL6 0, zH s7 zL7 0, zH y15 (zLb (ks ++ [0])) 0, r9])) rfl ?_
        refine zB.putI oX4_addBar (g := 3) (p := 0) (c := 4) (k := 10) (y := 0) (hp1 := [zH s0 zL0 0, zH s1 zL1 0, zH s2 zL2 0, zH (upz (upz s3 5 0 ((s3 0 7) + 1)) 0 10 1) zL3 0, zH s4 zL4 0, zH s5 zL5 0, zH s6 zL6 0, zH s7 zL7 0, zH y15 (zLb (ks ++ [0])) 0, r9]) rfl rfl (by decide) (by decide) rfl rfl rfl rfl rfl rfl ?_
        refine xB.run oX4_addBar 4 (s := (125, [some (.ref 3072), some (.int (zI kind)), some (.int (zI a)), some (.int (zI b)), some (.int (zI str))], [.int (zI 1), .int (zI ((upz (upz s3 5 0 ((s3 0 7) + 1)) 0 10 1) 0 7)), .ref 3072], [zH s0 zL0 0, zH s1 zL1 0, zH s2 zL2 0, zH (upz (upz s3 5 0 ((s3 0 7) + 1)) 0 10 1) zL3 0, zH s4 zL4 0, zH s5 zL5 0, zH s6 zL6 0, zH s7 zL7 0, zH y15 (zLb (ks ++ [0])) 0, r9])) rfl ?_
        refine zB.opi oX4_addBar rfl (zi_add ((upz (upz s3 5 0 ((s3 0 7) + 1)) 0 10 1) 0 7) 1) ?_
        refine zB.putI oX4_addBar (g := 3) (p := 0) (c := 4) (k := 7) (y := 0) (hp1 := [zH s0 zL0 0, zH s1 zL1 0, zH s2 zL2 0, zH (upz (upz (upz s3 5 0 ((s3 0 7) + 1)) 0 10 1) 0 7 (((upz (upz s3 5 0 ((s3 0 7) + 1)) 0 10 1) 0 7) + 1)) zL3 0, zH s4 zL4 0, zH s5 zL5 0, zH s6 zL6 0, zH s7 zL7 0, zH y15 (zLb (ks ++ [0])) 0, r9]) rfl rfl (by decide) (by decide) rfl rfl rfl rfl rfl rfl ?_
        refine xB.run oX4_addBar 3 (s := (134, [some (.ref 3072), some (.int (zI kind)), some (.int (zI a)), some (.int (zI b)), some (.int (zI str))], [.int (zI 1), .int (zI ((upz (upz (upz s3 5 0 ((s3 0 7) + 1)) 0 10 1) 0 7 (((upz (upz s3 5 0 ((s3 0 7) + 1)) 0 10 1) 0 7) + 1)) 0 7))], [zH s0 zL0 0, zH s1 zL1 0, zH s2 zL2 0, zH (upz (upz (upz s3 5 0 ((s3 0 7) + 1)) 0 10 1) 0 7 (((upz (upz s3 5 0 ((s3 0 7) + 1)) 0 10 1) 0 7) + 1)) zL3 0, zH s4 zL4 0, zH s5 zL5 0, zH s6 zL6 0, zH s7 zL7 0, zH y15 (zLb (ks ++ [0])) 0, r9])) rfl ?_
        refine zB.opi oX4_addBar rfl (zi_sub ((upz (upz (upz s3 5 0 ((s3 0 7) + 1)) 0 10 1) 0 7 (((upz (upz s3 5 0 ((s3 0 7) + 1)) 0 10 1) 0 7) + 1)) 0 7) 1) ?_
        obtain rfl := Option.some.inj H
        exact xB.ret oX4_addBar (r1 := some (.int (zI (((upz (upz (upz s3 5 0 ((s3 0 7) + 1)) 0 10 1) 0 7 (((upz (upz s3 5 0 ((s3 0 7) + 1)) 0 10 1) 0 7) + 1)) 0 7) - 1)))) rfl rfl rfl
  · have H := H.2 h3
    refine xB.run oX4_addBar 1 (s := (9, [some (.ref 3072), some (.int (zI kind)), some (.int (zI a)), some (.int (zI b)), some (.int (zI str))], [.int (zI (-4))], [zH s0 zL0 0, zH s1 zL1 0, zH s2 zL2 0, zH s3 zL3 0, zH s4 zL4 0, zH s5 zL5 0, zH s6 zL6 0, zH s7 zL7 0, zH s8 (zLb ks) 0, r9])) rfl ?_
    obtain rfl := Option.some.inj H
    exact xB.ret oX4_addBar (r1 := some (.int (zI (-4)))) rfl rfl rfl
def d_X4_changeCut (s3 : zZ) (s8 : zZ) (ks : List Int) (is : Int) (b : Int) : Option (zZ × zZ) := if (b.toNat < ks.length ∧ b.toNat < 1024 ∧ (is = 0 ∨ is = 1)) then some (upz s3 0 10 1, upz s8 b.toNat 4 is) else none
set_option maxRecDepth 20000 in
theorem t_X4_changeCut (r0 : List va_E) (r1 : List va_E) (r2 : List va_E) (s3 : zZ) (r4 : List va_E) (r5 : List va_E) (r6 : List va_E) (r7 : List va_E) (s8 : zZ) (r9 : List va_E) (ks : List Int) (is : Int) (b : Int) {rr : zZ × zZ} (H : d_X4_changeCut s3 s8 ks is b = some rr) : xC MX4_changeCut 0 [.ref 3072, .ref (1024 * 8 + b.toNat), .int (zI is)] ([r0, r1, r2, zH s3 zL3 0, r4, r5, r6, r7, zH s8 (zLb ks) 0, r9]) (none) ([r0, r1, r2, zH rr.1 zL3 0, r4, r5, r6, r7, zH rr.2 (zLb ks) 0, r9]) := by
  refine ⟨Nat.le_of_ble_eq_true rfl, ?_⟩
  show xBody MX4_changeCut 0 0 [some (.ref 3072), some (.ref (1024 * 8 + b.toNat)), some (.int (zI is))] [] ([r0, r1, r2, zH s3 zL3 0, r4, r5, r6, r7, zH s8 (zLb ks) 0, r9]) _ _
  unfold d_X4_changeCut at H
  refine xB.run oX4_changeCut 2 (s := (2, [some (.ref 3072), some (.ref (1024 * 8 + b.toNat)), some (.int (zI is))], [.int (zI is), .ref (1024 * 8 + b.toNat)], [r0, r1, r2, zH s3 zL3 0, r4, r5, r6, r7, zH s8 (zLb ks) 0, r9])) rfl ?_
  obtain ⟨g1, H⟩ := zgd H
  refine zB.putI oX4_changeCut (g := 8) (p := b.toNat) (k := 4) (y := 0) (hp1 := [r0, r1, r2, zH s3 zL3 0, r4, r5, r6, r7, zH (upz s8 b.toNat 4 is) (zLb ks) 0, r9]) rfl rfl (by omega) (by decide) rfl (zLb_at _ g1.1) (zks_bar _ 4 4 4 _ rfl rfl rfl) rfl (zfitbar4 _ g1.2.2) rfl ?_
  refine xB.run oX4_changeCut 2 (s := (7, [some (.ref 3072), some (.ref (1024 * 8 + b.toNat)), some (.int (zI is))], [.int (zI 1), .ref 3072], [r0, r1, r2, zH s3 zL3 0, r4, r5, r6, r7, zH (upz s8 b.toNat 4 is) (zLb ks) 0, r9])) rfl ?_
  refine zB.putI oX4_changeCut (g := 3) (p := 0) (c := 4) (k := 10) (y := 0) (hp1 := [r0, r1, r2, zH (upz s3 0 10 1) zL3 0, r4, r5, r6, r7, zH (upz s8 b.toNat 4 is) (zLb ks) 0, r9]) rfl rfl (by decide) (by decide) rfl rfl rfl rfl rfl rfl ?_
  obtain rfl := Option.some.inj H
  exact xB.ret oX4_changeCut (r1 := none) rfl rfl rfl
def d_X4_changeLoad (s3 : zZ) (c : Int) (jt : Int) (x : Int) (y : Int) : Option (zZ) := (d_X4_isCase c).bind fun y1 => if (zr y1) then (if y1 = 0 then some s3 else ((d_X4_isFree s3 jt).bind fun y4 => if (zr y4) then (if y4 = 0 then some s3 else (if (0 ≤ c ∧ c < 6) then (if (0 ≤ jt ∧ jt < 8) then (if ((c.toNat < 6) ∧ (0 ≤ (2 * (s3 4 jt.toNat)) ∧ (2 * (s3 4 jt.toNat)) < 8)) then (if (0 ≤ c ∧ c < 6) then (if (0 ≤ jt ∧ jt < 8) then (if ((c.toNat < 6) ∧ (0 ≤ ((2 * ((upz s3 (7 + c.toNat) (2 * (s3 4 jt.toNat)).toNat x) 4 jt.toNat)) + 1) ∧ ((2 * ((upz s3 (7 + c.toNat) (2 * (s3 4 jt.toNat)).toNat x) 4 jt.toNat)) + 1) < 8)) then some (upz (upz (upz s3 (7 + c.toNat) (2 * (s3 4 jt.toNat)).toNat x) (7 + c.toNat) ((2 * ((upz s3 (7 + c.toNat) (2 * (s3 4 jt.toNat)).toNat x) 4 jt.toNat)) + 1).toNat y) 0 10 1) else none) else none) else none) else none) else none) else none)) else none)) else none
set_option maxRecDepth 20000 in
theorem t_X4_changeLoad (r0 : List va_E) (r1 : List va_E) (r2 : List va_E) (s3 : zZ) (r4 : List va_E) (r5 : List va_E) (r6 : List va_E) (r7 : List va_E) (r8 : List va_E) (r9 : List va_E) (c : Int) (jt : Int) (x : Int) (y : Int) {rr : zZ} (H : d_X4_changeLoad s3 c jt x y = some rr) : xC MX4_changeLoad 2 [.ref 3072, .int (zI c), .int (zI jt), .int (zI x), .int (zI y)] ([r0, r1, r2, zH s3 zL3 0, r4, r5, r6, r7, r8, r9]) (none) ([r0, r1, r2, zH rr zL3 0, r4, r5, r6, r7, r8, r9]) := by
  refine ⟨Nat.le_of_ble_eq_true rfl, ?_⟩
  show xBody MX4_changeLoad 2 0 [some (.ref 3072), some (.int (zI c)), some (.int (zI jt)), some (.int (zI x)), some (.int (zI y))] [] ([r0, r1, r2, zH s3 zL3 0, r4, r5, r6, r7, r8, r9]) _ _
  unfold d_X4_changeLoad at H
  refine xB.run oX4_changeLoad 1 (s := (1, [some (.ref 3072), some (.int (zI c)), some (.int (zI jt)), some (.int (zI x)), some (.int (zI y))], [.int (zI c)], [r0, r1, r2, zH s3 zL3 0, r4, r5, r6, r7, r8, r9])) rfl ?_
  obtain ⟨y1, e2, H⟩ := zbd H
  refine xB.call oX4_changeLoad (M2 := MX4_isCase) rfl rfl ((t_X4_isCase r0 r1 r2 (zH s3 zL3 0) r4 r5 r6 r7 r8 r9 c e2).deep (by decide : 0 ≤ 1)) ?_
  show xBody MX4_changeLoad 2 4 [some (.ref 3072), some (.int (zI c)), some (.int (zI jt)), some (.int (zI x)), some (.int (zI y))] [.int (zI y1)] ([r0, r1, r2, zH s3 zL3 0, r4, r5, r6, r7, r8, r9]) _ _
  obtain ⟨g14, H⟩ := zgd H
  have H := zif H
  refine xB.brE oX4_changeLoad (P := y1 = 0) rfl (zc_eq (a := y1) (b := 0) ⟨g14, by decide⟩) (fun h3 => ?_) (fun h3 => ?_)
  · have H := H.1 h3
    obtain rfl := Option.some.inj H
    exact xB.ret oX4_changeLoad (r1 := none) rfl rfl rfl
  · have H := H.2 h3
    refine xB.run oX4_changeLoad 2 (s := (9, [some (.ref 3072), some (.int (zI c)), some (.int (zI jt)), some (.int (zI x)), some (.int (zI y))], [.int (zI jt), .ref 3072], [r0, r1, r2, zH s3 zL3 0, r4, r5, r6, r7, r8, r9])) rfl ?_
    obtain ⟨y4, e5, H⟩ := zbd H
    refine xB.call oX4_changeLoad (M2 := MX4_isFree) rfl rfl ((t_X4_isFree r0 r1 r2 s3 r4 r5 r6 r7 r8 r9 jt e5).deep (by decide : 1 ≤ 1)) ?_
    show xBody MX4_changeLoad 2 12 [some (.ref 3072), some (.int (zI c)), some (.int (zI jt)), some (.int (zI x)), some (.int (zI y))] [.int (zI y4)] ([r0, r1, r2, zH s3 zL3 0, r4, r5, r6, r7, r8, r9]) _ _
    obtain ⟨g13, H⟩ := zgd H
    have H := zif H
    refine xB.brE oX4_changeLoad (P := y4 = 0) rfl (zc_eq (a := y4) (b := 0) ⟨g13, by decide⟩) (fun h6 => ?_) (fun h6 => ?_)
    · have H := H.1 h6
      obtain rfl := Option.some.inj H
      exact xB.ret oX4_changeLoad (r1 := none) rfl rfl rfl
    · have H := H.2 h6
      refine xB.run oX4_changeLoad 3 (s := (20, [some (.ref 3072), some (.int (zI c)), some (.int (zI jt)), some (.int (zI x)), some (.int (zI y))], [.int (zI c), .ref 3078], [r0, r1, r2, zH s3 zL3 0, r4, r5, r6, r7, r8, r9])) rfl ?_
      obtain ⟨g12, H⟩ := zgd H
      refine zB.aaldG oX4_changeLoad (g := 3) (p := 6) (N := 6) (c := 3) (g2 := 3) (p2 := 7) rfl rfl (by decide) rfl rfl (by decide) (by decide) g12 ?_
      refine xB.run oX4_changeLoad 4 (s := (27, [some (.ref 3072), some (.int (zI c)), some (.int (zI jt)), some (.int (zI x)), some (.int (zI y))], [.int (zI jt), .ref 3076, .int (zI 2), .ref (1024 * 3 + (7 + c.toNat))], [r0, r1, r2, zH s3 zL3 0, r4, r5, r6, r7, r8, r9])) rfl ?_
      obtain ⟨g11, H⟩ := zgd H
      refine zB.iald oX4_changeLoad (g := 3) (p := 4) (N := 8) (i := jt) rfl rfl (by decide) rfl rfl (by decide) g11 ?_
      refine zB.opi oX4_changeLoad rfl (zi_mul 2 (s3 4 jt.toNat)) ?_
      refine xB.run oX4_changeLoad 1 (s := (30, [some (.ref 3072), some (.int (zI c)), some (.int (zI jt)), some (.int (zI x)), some (.int (zI y))], [.int (zI x), .int (zI (2 * (s3 4 jt.toNat))), .ref (1024 * 3 + (7 + c.toNat))], [r0, r1, r2, zH s3 zL3 0, r4, r5, r6, r7, r8, r9])) rfl ?_
      obtain ⟨g10, H⟩ := zgd H
      refine zB.iast oX4_changeLoad (g := 3) (p := 7 + c.toNat) (N := 8) (i := 2 * (s3 4 jt.toNat)) (hp1 := [r0, r1, r2, zH (upz s3 (7 + c.toNat) (2 * (s3 4 jt.toNat)).toNat x) zL3 0, r4, r5, r6, r7, r8, r9]) rfl rfl (by omega) (by decide) rfl (zg_3_7 _ (by omega)) (by decide) g10.2 rfl ?_
      refine xB.run oX4_changeLoad 3 (s := (36, [some (.ref 3072), some (.int (zI c)), some (.int (zI jt)), some (.int (zI x)), some (.int (zI y))], [.int (zI c), .ref 3078], [r0, r1, r2, zH (upz s3 (7 + c.toNat) (2 * (s3 4 jt.toNat)).toNat x) zL3 0, r4, r5, r6, r7, r8, r9])) rfl ?_
      obtain ⟨g9, H⟩ := zgd H
      refine zB.aaldG oX4_changeLoad (g := 3) (p := 6) (N := 6) (c := 3) (g2 := 3) (p2 := 7) rfl rfl (by decide) rfl rfl (by decide) (by decide) g9 ?_
      refine xB.run oX4_changeLoad 4 (s := (43, [some (.ref 3072), some (.int (zI c)), some (.int (zI jt)), some (.int (zI x)), some (.int (zI y))], [.int (zI jt), .ref 3076, .int (zI 2), .ref (1024 * 3 + (7 + c.toNat))], [r0, r1, r2, zH (upz s3 (7 + c.toNat) (2 * (s3 4 jt.toNat)).toNat x) zL3 0, r4, r5, r6, r7, r8, r9])) rfl ?_
      obtain ⟨g8, H⟩ := zgd H
      refine zB.iald oX4_changeLoad (g := 3) (p := 4) (N := 8) (i := jt) rfl rfl (by decide) rfl rfl (by decide) g8 ?_
      refine zB.opi oX4_changeLoad rfl (zi_mul 2 ((upz s3 (7 + c.toNat) (2 * (s3 4 jt.toNat)).toNat x) 4 jt.toNat)) ?_
      refine xB.run oX4_changeLoad 1 (s := (46, [some (.ref 3072), some (.int (zI c)), some (.int (zI jt)), some (.int (zI x)), some (.int (zI y))], [.int (zI 1), .int (zI (2 * ((upz s3 (7 + c.toNat) (2 * (s3 4 jt.toNat)).toNat x) 4 jt.toNat))), .ref (1024 * 3 + (7 + c.toNat))], [r0, r1, r2, zH (upz s3 (7 + c.toNat) (2 * (s3 4 jt.toNat)).toNat x) zL3 0, r4, r5, r6, r7, r8, r9])) rfl ?_
      refine zB.opi oX4_changeLoad rfl (zi_add (2 * ((upz s3 (7 + c.toNat) (2 * (s3 4 jt.toNat)).toNat x) 4 jt.toNat)) 1) ?_
      refine xB.run oX4_changeLoad 1 (s := (49, [some (.ref 3072), some (.int (zI c)), some (.int (zI jt)), some (.int (zI x)), some (.int (zI y))], [.int (zI y), .int (zI ((2 * ((upz s3 (7 + c.toNat) (2 * (s3 4 jt.toNat)).toNat x) 4 jt.toNat)) + 1)), .ref (1024 * 3 + (7 + c.toNat))], [r0, r1, r2, zH (upz s3 (7 + c.toNat) (2 * (s3 4 jt.toNat)).toNat x) zL3 0, r4, r5, r6, r7, r8, r9])) rfl ?_
      obtain ⟨g7, H⟩ := zgd H
      refine zB.iast oX4_changeLoad (g := 3) (p := 7 + c.toNat) (N := 8) (i := (2 * ((upz s3 (7 + c.toNat) (2 * (s3 4 jt.toNat)).toNat x) 4 jt.toNat)) + 1) (hp1 := [r0, r1, r2, zH (upz (upz s3 (7 + c.toNat) (2 * (s3 4 jt.toNat)).toNat x) (7 + c.toNat) ((2 * ((upz s3 (7 + c.toNat) (2 * (s3 4 jt.toNat)).toNat x) 4 jt.toNat)) + 1).toNat y) zL3 0, r4, r5, r6, r7, r8, r9]) rfl rfl (by omega) (by decide) rfl (zg_3_7 _ (by omega)) (by decide) g7.2 rfl ?_
      refine xB.run oX4_changeLoad 2 (s := (52, [some (.ref 3072), some (.int (zI c)), some (.int (zI jt)), some (.int (zI x)), some (.int (zI y))], [.int (zI 1), .ref 3072], [r0, r1, r2, zH (upz (upz s3 (7 + c.toNat) (2 * (s3 4 jt.toNat)).toNat x) (7 + c.toNat) ((2 * ((upz s3 (7 + c.toNat) (2 * (s3 4 jt.toNat)).toNat x) 4 jt.toNat)) + 1).toNat y) zL3 0, r4, r5, r6, r7, r8, r9])) rfl ?_
      refine zB.putI oX4_changeLoad (g := 3) (p := 0) (c := 4) (k := 10) (y := 0) (hp1 := [r0, r1, r2, zH (upz (upz (upz s3 (7 + c.toNat) (2 * (s3 4 jt.toNat)).toNat x) (7 + c.toNat) ((2 * ((upz s3 (7 + c.toNat) (2 * (s3 4 jt.toNat)).toNat x) 4 jt.toNat)) + 1).toNat y) 0 10 1) zL3 0, r4, r5, r6, r7, r8, r9]) rfl rfl (by decide) (by decide) rfl rfl rfl rfl rfl rfl ?_
      obtain rfl := Option.some.inj H
      exact xB.ret oX4_changeLoad (r1 := none) rfl rfl rfl
def d_X4_howManyJoints (s3 : zZ) : Option (Int) := some (s3 0 4)
set_option maxRecDepth 20000 in
theorem t_X4_howManyJoints (r0 : List va_E) (r1 : List va_E) (r2 : List va_E) (s3 : zZ) (r4 : List va_E) (r5 : List va_E) (r6 : List va_E) (r7 : List va_E) (r8 : List va_E) (r9 : List va_E) {rr : Int} (H : d_X4_howManyJoints s3 = some rr) : xC MX4_howManyJoints 0 [.ref 3072] ([r0, r1, r2, zH s3 zL3 0, r4, r5, r6, r7, r8, r9]) (some (.int (zI rr))) ([r0, r1, r2, zH s3 zL3 0, r4, r5, r6, r7, r8, r9]) := by
  refine ⟨Nat.le_of_ble_eq_true rfl, ?_⟩
  show xBody MX4_howManyJoints 0 0 [some (.ref 3072)] [] ([r0, r1, r2, zH s3 zL3 0, r4, r5, r6, r7, r8, r9]) _ _
  unfold d_X4_howManyJoints at H
  refine xB.run oX4_howManyJoints 2 (s := (4, [some (.ref 3072)], [.int (zI (s3 0 4))], [r0, r1, r2, zH s3 zL3 0, r4, r5, r6, r7, r8, r9])) rfl ?_
  obtain rfl := Option.some.inj H
  exact xB.ret oX4_howManyJoints (r1 := some (.int (zI (s3 0 4)))) rfl rfl rfl
def d_X4_howManyFree (s3 : zZ) : Option (Int) := some (s3 0 5)
set_option maxRecDepth 20000 in
theorem t_X4_howManyFree (r0 : List va_E) (r1 : List va_E) (r2 : List va_E) (s3 : zZ) (r4 : List va_E) (r5 : List va_E) (r6 : List va_E) (r7 : List va_E) (r8 : List va_E) (r9 : List va_E) {rr : Int} (H : d_X4_howManyFree s3 = some rr) : xC MX4_howManyFree 0 [.ref 3072] ([r0, r1, r2, zH s3 zL3 0, r4, r5, r6, r7, r8, r9]) (some (.int (zI rr))) ([r0, r1, r2, zH s3 zL3 0, r4, r5, r6, r7, r8, r9]) := by
  refine ⟨Nat.le_of_ble_eq_true rfl, ?_⟩
  show xBody MX4_howManyFree 0 0 [some (.ref 3072)] [] ([r0, r1, r2, zH s3 zL3 0, r4, r5, r6, r7, r8, r9]) _ _
  unfold d_X4_howManyFree at H
  refine xB.run oX4_howManyFree 2 (s := (4, [some (.ref 3072)], [.int (zI (s3 0 5))], [r0, r1, r2, zH s3 zL3 0, r4, r5, r6, r7, r8, r9])) rfl ?_
  obtain rfl := Option.some.inj H
  exact xB.ret oX4_howManyFree (r1 := some (.int (zI (s3 0 5)))) rfl rfl rfl
def d_X4_howManyBars (s3 : zZ) : Option (Int) := some (s3 0 7)
set_option maxRecDepth 20000 in
theorem t_X4_howManyBars (r0 : List va_E) (r1 : List va_E) (r2 : List va_E) (s3 : zZ) (r4 : List va_E) (r5 : List va_E) (r6 : List va_E) (r7 : List va_E) (r8 : List va_E) (r9 : List va_E) {rr : Int} (H : d_X4_howManyBars s3 = some rr) : xC MX4_howManyBars 0 [.ref 3072] ([r0, r1, r2, zH s3 zL3 0, r4, r5, r6, r7, r8, r9]) (some (.int (zI rr))) ([r0, r1, r2, zH s3 zL3 0, r4, r5, r6, r7, r8, r9]) := by
  refine ⟨Nat.le_of_ble_eq_true rfl, ?_⟩
  show xBody MX4_howManyBars 0 0 [some (.ref 3072)] [] ([r0, r1, r2, zH s3 zL3 0, r4, r5, r6, r7, r8, r9]) _ _
  unfold d_X4_howManyBars at H
  refine xB.run oX4_howManyBars 2 (s := (4, [some (.ref 3072)], [.int (zI (s3 0 7))], [r0, r1, r2, zH s3 zL3 0, r4, r5, r6, r7, r8, r9])) rfl ?_
  obtain rfl := Option.some.inj H
  exact xB.ret oX4_howManyBars (r1 := some (.int (zI (s3 0 7)))) rfl rfl rfl
def d_X4_howManyCut_4 (s3 : zZ) (s8 : zZ) (ks : List Int) : Nat → Int → Int → Option (Int × Int)
  | 0, _, _ => none
  | uN + 1, gn, b => if (zr b ∧ zr (s3 0 7)) then (if (s3 0 7) ≤ b then some (gn, b) else (if ((0 ≤ b ∧ b < 16) ∧ b < s3 5 0) then (if (b.toNat < ks.length ∧ b.toNat < 1024) then (if (zr (s8 b.toNat 4)) then (if (s8 b.toNat 4) = 0 then (d_X4_howManyCut_4 s3 s8 ks uN (gn + 0) (b + 1)) else (d_X4_howManyCut_4 s3 s8 ks uN (gn + 1) (b + 1))) else none) else none) else none)) else none
def d_X4_howManyCut (s3 : zZ) (s8 : zZ) (ks : List Int) : Option (Int) := (d_X4_howManyCut_4 s3 s8 ks zF 0 0).bind fun y7 => some y7.1
set_option maxRecDepth 20000 in
theorem l_X4_howManyCut_4 (r0 : List va_E) (r1 : List va_E) (r2 : List va_E) (s3 : zZ) (r4 : List va_E) (r5 : List va_E) (r6 : List va_E) (r7 : List va_E) (s8 : zZ) (r9 : List va_E) (ks : List Int) {r : Option Value} {hp1 : xH} : ∀ (uN : Nat) (gn : Int) (b : Int) {uX : Int × Int}, d_X4_howManyCut_4 s3 s8 ks uN gn b = some uX → (xBody MX4_howManyCut 0 38 [some (.ref 3072), some (.int (zI uX.1)), some (.int (zI uX.2))] [] ([r0, r1, r2, zH s3 zL3 0, r4, r5, r6, r7, zH s8 (zLb ks) 0, r9]) r hp1) → xBody MX4_howManyCut 0 4 [some (.ref 3072), some (.int (zI gn)), some (.int (zI b))] [] ([r0, r1, r2, zH s3 zL3 0, r4, r5, r6, r7, zH s8 (zLb ks) 0, r9]) r hp1 := by
  intro uN
  induction uN with
  | zero => intro gn b uX H K; cases H
  | succ uN ih =>
    intro gn b uX H K
    unfold d_X4_howManyCut_4 at H
    refine xB.run oX4_howManyCut 3 (s := (9, [some (.ref 3072), some (.int (zI gn)), some (.int (zI b))], [.int (zI (s3 0 7)), .int (zI b)], [r0, r1, r2, zH s3 zL3 0, r4, r5, r6, r7, zH s8 (zLb ks) 0, r9])) rfl ?_
    obtain ⟨g6, H⟩ := zgd H
    have H := zif H
    refine xB.brE oX4_howManyCut (P := (s3 0 7) ≤ b) rfl (zc_ge (a := b) (b := s3 0 7) g6) (fun h1 => ?_) (fun h1 => ?_)
    · have H := H.1 h1
      obtain rfl := Option.some.inj H
      exact K
    · have H := H.2 h1
      refine xB.run oX4_howManyCut 4 (s := (18, [some (.ref 3072), some (.int (zI gn)), some (.int (zI b))], [.int (zI b), .ref 3077, .int (zI gn)], [r0, r1, r2, zH s3 zL3 0, r4, r5, r6, r7, zH s8 (zLb ks) 0, r9])) rfl ?_
      obtain ⟨g5, H⟩ := zgd H
      refine zB.aaldB oX4_howManyCut (g := 3) (p := 5) (N := 16) rfl rfl (by decide) rfl rfl (by decide) g5 ?_
      obtain ⟨g4, H⟩ := zgd H
      refine zB.getI oX4_howManyCut (g := 8) (p := b.toNat) (k := 4) (y := 0) rfl rfl (by omega) rfl (zLb_at _ g4.1) (zks_bar _ 4 4 4 _ rfl rfl rfl) rfl ?_
      obtain ⟨g3, H⟩ := zgd H
      have H := zif H
      refine xB.brE oX4_howManyCut (P := (s8 b.toNat 4) = 0) rfl (zc_eq (a := s8 b.toNat 4) (b := 0) ⟨g3, by decide⟩) (fun h2 => ?_) (fun h2 => ?_)
      · have H := H.1 h2
        refine xB.run oX4_howManyCut 1 (s := (30, [some (.ref 3072), some (.int (zI gn)), some (.int (zI b))], [.int (zI 0), .int (zI gn)], [r0, r1, r2, zH s3 zL3 0, r4, r5, r6, r7, zH s8 (zLb ks) 0, r9])) rfl ?_
        refine zB.opi oX4_howManyCut rfl (zi_add gn 0) ?_
        refine xB.run oX4_howManyCut 1 (s := (32, [some (.ref 3072), some (.int (zI (gn + 0))), some (.int (zI b))], [], [r0, r1, r2, zH s3 zL3 0, r4, r5, r6, r7, zH s8 (zLb ks) 0, r9])) rfl ?_
        refine zB.inc oX4_howManyCut rfl (lv2 := [some (.ref 3072), some (.int (zI (gn + 0))), some (.int (zI (b + 1)))]) (zi_inc (a := 0) (zi_addp1 b) _ rfl) ?_
        refine xB.run oX4_howManyCut 1 (s := (4, [some (.ref 3072), some (.int (zI (gn + 0))), some (.int (zI (b + 1)))], [], [r0, r1, r2, zH s3 zL3 0, r4, r5, r6, r7, zH s8 (zLb ks) 0, r9])) rfl ?_
        exact ih (gn + 0) (b + 1) H K
      · have H := H.2 h2
        refine xB.run oX4_howManyCut 2 (s := (30, [some (.ref 3072), some (.int (zI gn)), some (.int (zI b))], [.int (zI 1), .int (zI gn)], [r0, r1, r2, zH s3 zL3 0, r4, r5, r6, r7, zH s8 (zLb ks) 0, r9])) rfl ?_
        refine zB.opi oX4_howManyCut rfl (zi_add gn 1) ?_
        refine xB.run oX4_howManyCut 1 (s := (32, [some (.ref 3072), some (.int (zI (gn + 1))), some (.int (zI b))], [], [r0, r1, r2, zH s3 zL3 0, r4, r5, r6, r7, zH s8 (zLb ks) 0, r9])) rfl ?_
        refine zB.inc oX4_howManyCut rfl (lv2 := [some (.ref 3072), some (.int (zI (gn + 1))), some (.int (zI (b + 1)))]) (zi_inc (a := 0) (zi_addp1 b) _ rfl) ?_
        refine xB.run oX4_howManyCut 1 (s := (4, [some (.ref 3072), some (.int (zI (gn + 1))), some (.int (zI (b + 1)))], [], [r0, r1, r2, zH s3 zL3 0, r4, r5, r6, r7, zH s8 (zLb ks) 0, r9])) rfl ?_
        exact ih (gn + 1) (b + 1) H K
set_option maxRecDepth 20000 in
theorem t_X4_howManyCut (r0 : List va_E) (r1 : List va_E) (r2 : List va_E) (s3 : zZ) (r4 : List va_E) (r5 : List va_E) (r6 : List va_E) (r7 : List va_E) (s8 : zZ) (r9 : List va_E) (ks : List Int) {rr : Int} (H : d_X4_howManyCut s3 s8 ks = some rr) : xC MX4_howManyCut 0 [.ref 3072] ([r0, r1, r2, zH s3 zL3 0, r4, r5, r6, r7, zH s8 (zLb ks) 0, r9]) (some (.int (zI rr))) ([r0, r1, r2, zH s3 zL3 0, r4, r5, r6, r7, zH s8 (zLb ks) 0, r9]) := by
  refine ⟨Nat.le_of_ble_eq_true rfl, ?_⟩
  show xBody MX4_howManyCut 0 0 [some (.ref 3072), none, none] [] ([r0, r1, r2, zH s3 zL3 0, r4, r5, r6, r7, zH s8 (zLb ks) 0, r9]) _ _
  unfold d_X4_howManyCut at H
  refine xB.run oX4_howManyCut 4 (s := (4, [some (.ref 3072), some (.int (zI 0)), some (.int (zI 0))], [], [r0, r1, r2, zH s3 zL3 0, r4, r5, r6, r7, zH s8 (zLb ks) 0, r9])) rfl ?_
  obtain ⟨y7, e8, H⟩ := zbd H
  refine l_X4_howManyCut_4 r0 r1 r2 s3 r4 r5 r6 r7 s8 r9 ks  _ 0 0 e8 ?_
  refine xB.run oX4_howManyCut 1 (s := (39, [some (.ref 3072), some (.int (zI y7.1)), some (.int (zI y7.2))], [.int (zI y7.1)], [r0, r1, r2, zH s3 zL3 0, r4, r5, r6, r7, zH s8 (zLb ks) 0, r9])) rfl ?_
  obtain rfl := Option.some.inj H
  exact xB.ret oX4_howManyCut (r1 := some (.int (zI y7.1))) rfl rfl rfl
def d_X4_giveColumns_4 (s3 : zZ) (ks : List Int) : Nat → Int → Int → zZ → Option (Int × Int × zZ)
  | 0, _, _, _ => none
  | uN + 1, cols, b, s8 => if (zr b ∧ zr (s3 0 7)) then (if (s3 0 7) ≤ b then some (cols, b, s8) else (if ((0 ≤ b ∧ b < 16) ∧ b < s3 5 0) then (if ((0 ≤ b ∧ b < 16) ∧ b < s3 5 0) then (if (b.toNat < ks.length ∧ b.toNat < 1024) then (if (zr (s8 b.toNat 4)) then (if (s8 b.toNat 4) = 0 then (if (b.toNat < ks.length ∧ b.toNat < 1024) then (if ((0 ≤ b ∧ b < 16) ∧ b < s3 5 0) then (if (b.toNat < ks.length ∧ b.toNat < 1024) then (if (zr ((upz s8 b.toNat 5 cols) b.toNat 4)) then (if ((upz s8 b.toNat 5 cols) b.toNat 4) = 0 then (d_X4_giveColumns_4 s3 ks uN (cols + 1) (b + 1) (upz s8 b.toNat 5 cols)) else (d_X4_giveColumns_4 s3 ks uN (cols + 0) (b + 1) (upz s8 b.toNat 5 cols))) else none) else none) else none) else none) else (if (b.toNat < ks.length ∧ b.toNat < 1024) then (if ((0 ≤ b ∧ b < 16) ∧ b < s3 5 0) then (if (b.toNat < ks.length ∧ b.toNat < 1024) then (if (zr ((upz s8 b.toNat 5 (-1)) b.toNat 4)) then (if ((upz s8 b.toNat 5 (-1)) b.toNat 4) = 0 then (d_X4_giveColumns_4 s3 ks uN (cols + 1) (b + 1) (upz s8 b.toNat 5 (-1))) else (d_X4_giveColumns_4 s3 ks uN (cols + 0) (b + 1) (upz s8 b.toNat 5 (-1)))) else none) else none) else none) else none)) else none) else none) else none) else none)) else none
def d_X4_giveColumns (s3 : zZ) (s8 : zZ) (ks : List Int) : Option (Int × zZ) := (d_X4_giveColumns_4 s3 ks zF 0 0 s8).bind fun y18 => some (y18.1, y18.2.2)
set_option maxRecDepth 20000 in
theorem l_X4_giveColumns_4 (r0 : List va_E) (r1 : List va_E) (r2 : List va_E) (s3 : zZ) (r4 : List va_E) (r5 : List va_E) (r6 : List va_E) (r7 : List va_E) (r9 : List va_E) (ks : List Int) {r : Option Value} {hp1 : xH} : ∀ (uN : Nat) (cols : Int) (b : Int) (s8 : zZ) {uX : Int × Int × zZ}, d_X4_giveColumns_4 s3 ks uN cols b s8 = some uX → (xBody MX4_giveColumns 0 64 [some (.ref 3072), some (.int (zI uX.1)), some (.int (zI uX.2.1))] [] ([r0, r1, r2, zH s3 zL3 0, r4, r5, r6, r7, zH uX.2.2 (zLb ks) 0, r9]) r hp1) → xBody MX4_giveColumns 0 4 [some (.ref 3072), some (.int (zI cols)), some (.int (zI b))] [] ([r0, r1, r2, zH s3 zL3 0, r4, r5, r6, r7, zH s8 (zLb ks) 0, r9]) r hp1 := by
  intro uN
  induction uN with
  | zero => intro cols b s8 uX H K; cases H
  | succ uN ih =>
    intro cols b s8 uX H K
    unfold d_X4_giveColumns_4 at H
    refine xB.run oX4_giveColumns 3 (s := (9, [some (.ref 3072), some (.int (zI cols)), some (.int (zI b))], [.int (zI (s3 0 7)), .int (zI b)], [r0, r1, r2, zH s3 zL3 0, r4, r5, r6, r7, zH s8 (zLb ks) 0, r9])) rfl ?_
    obtain ⟨g17, H⟩ := zgd H
    have H := zif H
    refine xB.brE oX4_giveColumns (P := (s3 0 7) ≤ b) rfl (zc_ge (a := b) (b := s3 0 7) g17) (fun h1 => ?_) (fun h1 => ?_)
    · have H := H.1 h1
      obtain rfl := Option.some.inj H
      exact K
    · have H := H.2 h1
      refine xB.run oX4_giveColumns 3 (s := (17, [some (.ref 3072), some (.int (zI cols)), some (.int (zI b))], [.int (zI b), .ref 3077], [r0, r1, r2, zH s3 zL3 0, r4, r5, r6, r7, zH s8 (zLb ks) 0, r9])) rfl ?_
      obtain ⟨g16, H⟩ := zgd H
      refine zB.aaldB oX4_giveColumns (g := 3) (p := 5) (N := 16) rfl rfl (by decide) rfl rfl (by decide) g16 ?_
      refine xB.run oX4_giveColumns 3 (s := (23, [some (.ref 3072), some (.int (zI cols)), some (.int (zI b))], [.int (zI b), .ref 3077, .ref (1024 * 8 + b.toNat)], [r0, r1, r2, zH s3 zL3 0, r4, r5, r6, r7, zH s8 (zLb ks) 0, r9])) rfl ?_
      obtain ⟨g15, H⟩ := zgd H
      refine zB.aaldB oX4_giveColumns (g := 3) (p := 5) (N := 16) rfl rfl (by decide) rfl rfl (by decide) g15 ?_
      obtain ⟨g14, H⟩ := zgd H
      refine zB.getI oX4_giveColumns (g := 8) (p := b.toNat) (k := 4) (y := 0) rfl rfl (by omega) rfl (zLb_at _ g14.1) (zks_bar _ 4 4 4 _ rfl rfl rfl) rfl ?_
      obtain ⟨g13, H⟩ := zgd H
      have H := zif H
      refine xB.brE oX4_giveColumns (P := (s8 b.toNat 4) = 0) rfl (zc_eq (a := s8 b.toNat 4) (b := 0) ⟨g13, by decide⟩) (fun h2 => ?_) (fun h2 => ?_)
      · have H := H.1 h2
        refine xB.run oX4_giveColumns 1 (s := (35, [some (.ref 3072), some (.int (zI cols)), some (.int (zI b))], [.int (zI cols), .ref (1024 * 8 + b.toNat)], [r0, r1, r2, zH s3 zL3 0, r4, r5, r6, r7, zH s8 (zLb ks) 0, r9])) rfl ?_
        obtain ⟨g7, H⟩ := zgd H
        refine zB.putI oX4_giveColumns (g := 8) (p := b.toNat) (k := 5) (y := 0) (hp1 := [r0, r1, r2, zH s3 zL3 0, r4, r5, r6, r7, zH (upz s8 b.toNat 5 cols) (zLb ks) 0, r9]) rfl rfl (by omega) (by decide) rfl (zLb_at _ g7.1) (zks_bar _ 5 5 5 _ rfl rfl rfl) rfl (zfitbar5 _) rfl ?_
        refine xB.run oX4_giveColumns 4 (s := (44, [some (.ref 3072), some (.int (zI cols)), some (.int (zI b))], [.int (zI b), .ref 3077, .int (zI cols)], [r0, r1, r2, zH s3 zL3 0, r4, r5, r6, r7, zH (upz s8 b.toNat 5 cols) (zLb ks) 0, r9])) rfl ?_
        obtain ⟨g6, H⟩ := zgd H
        refine zB.aaldB oX4_giveColumns (g := 3) (p := 5) (N := 16) rfl rfl (by decide) rfl rfl (by decide) g6 ?_
        obtain ⟨g5, H⟩ := zgd H
        refine zB.getI oX4_giveColumns (g := 8) (p := b.toNat) (k := 4) (y := 0) rfl rfl (by omega) rfl (zLb_at _ g5.1) (zks_bar _ 4 4 4 _ rfl rfl rfl) rfl ?_
        obtain ⟨g4, H⟩ := zgd H
        have H := zif H
        refine xB.brE oX4_giveColumns (P := ((upz s8 b.toNat 5 cols) b.toNat 4) = 0) rfl (zc_eq (a := (upz s8 b.toNat 5 cols) b.toNat 4) (b := 0) ⟨g4, by decide⟩) (fun h3 => ?_) (fun h3 => ?_)
        · have H := H.1 h3
          refine xB.run oX4_giveColumns 1 (s := (56, [some (.ref 3072), some (.int (zI cols)), some (.int (zI b))], [.int (zI 1), .int (zI cols)], [r0, r1, r2, zH s3 zL3 0, r4, r5, r6, r7, zH (upz s8 b.toNat 5 cols) (zLb ks) 0, r9])) rfl ?_
          refine zB.opi oX4_giveColumns rfl (zi_add cols 1) ?_
          refine xB.run oX4_giveColumns 1 (s := (58, [some (.ref 3072), some (.int (zI (cols + 1))), some (.int (zI b))], [], [r0, r1, r2, zH s3 zL3 0, r4, r5, r6, r7, zH (upz s8 b.toNat 5 cols) (zLb ks) 0, r9])) rfl ?_
          refine zB.inc oX4_giveColumns rfl (lv2 := [some (.ref 3072), some (.int (zI (cols + 1))), some (.int (zI (b + 1)))]) (zi_inc (a := 0) (zi_addp1 b) _ rfl) ?_
          refine xB.run oX4_giveColumns 1 (s := (4, [some (.ref 3072), some (.int (zI (cols + 1))), some (.int (zI (b + 1)))], [], [r0, r1, r2, zH s3 zL3 0, r4, r5, r6, r7, zH (upz s8 b.toNat 5 cols) (zLb ks) 0, r9])) rfl ?_
          exact ih (cols + 1) (b + 1) (upz s8 b.toNat 5 cols) H K
        · have H := H.2 h3
          refine xB.run oX4_giveColumns 2 (s := (56, [some (.ref 3072), some (.int (zI cols)), some (.int (zI b))], [.int (zI 0), .int (zI cols)], [r0, r1, r2, zH s3 zL3 0, r4, r5, r6, r7, zH (upz s8 b.toNat 5 cols) (zLb ks) 0, r9])) rfl ?_
          refine zB.opi oX4_giveColumns rfl (zi_add cols 0) ?_
          refine xB.run oX4_giveColumns 1 (s := (58, [some (.ref 3072), some (.int (zI (cols + 0))), some (.int (zI b))], [], [r0, r1, r2, zH s3 zL3 0, r4, r5, r6, r7, zH (upz s8 b.toNat 5 cols) (zLb ks) 0, r9])) rfl ?_
          refine zB.inc oX4_giveColumns rfl (lv2 := [some (.ref 3072), some (.int (zI (cols + 0))), some (.int (zI (b + 1)))]) (zi_inc (a := 0) (zi_addp1 b) _ rfl) ?_
          refine xB.run oX4_giveColumns 1 (s := (4, [some (.ref 3072), some (.int (zI (cols + 0))), some (.int (zI (b + 1)))], [], [r0, r1, r2, zH s3 zL3 0, r4, r5, r6, r7, zH (upz s8 b.toNat 5 cols) (zLb ks) 0, r9])) rfl ?_
          exact ih (cols + 0) (b + 1) (upz s8 b.toNat 5 cols) H K
      · have H := H.2 h2
        refine xB.run oX4_giveColumns 2 (s := (35, [some (.ref 3072), some (.int (zI cols)), some (.int (zI b))], [.int (zI (-1)), .ref (1024 * 8 + b.toNat)], [r0, r1, r2, zH s3 zL3 0, r4, r5, r6, r7, zH s8 (zLb ks) 0, r9])) rfl ?_
        obtain ⟨g12, H⟩ := zgd H
        refine zB.putI oX4_giveColumns (g := 8) (p := b.toNat) (k := 5) (y := 0) (hp1 := [r0, r1, r2, zH s3 zL3 0, r4, r5, r6, r7, zH (upz s8 b.toNat 5 (-1)) (zLb ks) 0, r9]) rfl rfl (by omega) (by decide) rfl (zLb_at _ g12.1) (zks_bar _ 5 5 5 _ rfl rfl rfl) rfl (zfitbar5 _) rfl ?_
        refine xB.run oX4_giveColumns 4 (s := (44, [some (.ref 3072), some (.int (zI cols)), some (.int (zI b))], [.int (zI b), .ref 3077, .int (zI cols)], [r0, r1, r2, zH s3 zL3 0, r4, r5, r6, r7, zH (upz s8 b.toNat 5 (-1)) (zLb ks) 0, r9])) rfl ?_
        obtain ⟨g11, H⟩ := zgd H
        refine zB.aaldB oX4_giveColumns (g := 3) (p := 5) (N := 16) rfl rfl (by decide) rfl rfl (by decide) g11 ?_
        obtain ⟨g10, H⟩ := zgd H
        refine zB.getI oX4_giveColumns (g := 8) (p := b.toNat) (k := 4) (y := 0) rfl rfl (by omega) rfl (zLb_at _ g10.1) (zks_bar _ 4 4 4 _ rfl rfl rfl) rfl ?_
        obtain ⟨g9, H⟩ := zgd H
        have H := zif H
        refine xB.brE oX4_giveColumns (P := ((upz s8 b.toNat 5 (-1)) b.toNat 4) = 0) rfl (zc_eq (a := (upz s8 b.toNat 5 (-1)) b.toNat 4) (b := 0) ⟨g9, by decide⟩) (fun h8 => ?_) (fun h8 => ?_)
        · have H := H.1 h8
          refine xB.run oX4_giveColumns 1 (s := (56, [some (.ref 3072), some (.int (zI cols)), some (.int (zI b))], [.int (zI 1), .int (zI cols)], [r0, r1, r2, zH s3 zL3 0, r4, r5, r6, r7, zH (upz s8 b.toNat 5 (-1)) (zLb ks) 0, r9])) rfl ?_
          refine zB.opi oX4_giveColumns rfl (zi_add cols 1) ?_
          refine xB.run oX4_giveColumns 1 (s := (58, [some (.ref 3072), some (.int (zI (cols + 1))), some (.int (zI b))], [], [r0, r1, r2, zH s3 zL3 0, r4, r5, r6, r7, zH (upz s8 b.toNat 5 (-1)) (zLb ks) 0, r9])) rfl ?_
          refine zB.inc oX4_giveColumns rfl (lv2 := [some (.ref 3072), some (.int (zI (cols + 1))), some (.int (zI (b + 1)))]) (zi_inc (a := 0) (zi_addp1 b) _ rfl) ?_
          refine xB.run oX4_giveColumns 1 (s := (4, [some (.ref 3072), some (.int (zI (cols + 1))), some (.int (zI (b + 1)))], [], [r0, r1, r2, zH s3 zL3 0, r4, r5, r6, r7, zH (upz s8 b.toNat 5 (-1)) (zLb ks) 0, r9])) rfl ?_
          exact ih (cols + 1) (b + 1) (upz s8 b.toNat 5 (-1)) H K
        · have H := H.2 h8
          refine xB.run oX4_giveColumns 2 (s := (56, [some (.ref 3072), some (.int (zI cols)), some (.int (zI b))], [.int (zI 0), .int (zI cols)], [r0, r1, r2, zH s3 zL3 0, r4, r5, r6, r7, zH (upz s8 b.toNat 5 (-1)) (zLb ks) 0, r9])) rfl ?_
          refine zB.opi oX4_giveColumns rfl (zi_add cols 0) ?_
          refine xB.run oX4_giveColumns 1 (s := (58, [some (.ref 3072), some (.int (zI (cols + 0))), some (.int (zI b))], [], [r0, r1, r2, zH s3 zL3 0, r4, r5, r6, r7, zH (upz s8 b.toNat 5 (-1)) (zLb ks) 0, r9])) rfl ?_
          refine zB.inc oX4_giveColumns rfl (lv2 := [some (.ref 3072), some (.int (zI (cols + 0))), some (.int (zI (b + 1)))]) (zi_inc (a := 0) (zi_addp1 b) _ rfl) ?_
          refine xB.run oX4_giveColumns 1 (s := (4, [some (.ref 3072), some (.int (zI (cols + 0))), some (.int (zI (b + 1)))], [], [r0, r1, r2, zH s3 zL3 0, r4, r5, r6, r7, zH (upz s8 b.toNat 5 (-1)) (zLb ks) 0, r9])) rfl ?_
          exact ih (cols + 0) (b + 1) (upz s8 b.toNat 5 (-1)) H K
set_option maxRecDepth 20000 in
theorem t_X4_giveColumns (r0 : List va_E) (r1 : List va_E) (r2 : List va_E) (s3 : zZ) (r4 : List va_E) (r5 : List va_E) (r6 : List va_E) (r7 : List va_E) (s8 : zZ) (r9 : List va_E) (ks : List Int) {rr : Int × zZ} (H : d_X4_giveColumns s3 s8 ks = some rr) : xC MX4_giveColumns 0 [.ref 3072] ([r0, r1, r2, zH s3 zL3 0, r4, r5, r6, r7, zH s8 (zLb ks) 0, r9]) (some (.int (zI rr.1))) ([r0, r1, r2, zH s3 zL3 0, r4, r5, r6, r7, zH rr.2 (zLb ks) 0, r9]) := by
  refine ⟨Nat.le_of_ble_eq_true rfl, ?_⟩
  show xBody MX4_giveColumns 0 0 [some (.ref 3072), none, none] [] ([r0, r1, r2, zH s3 zL3 0, r4, r5, r6, r7, zH s8 (zLb ks) 0, r9]) _ _
  unfold d_X4_giveColumns at H
  refine xB.run oX4_giveColumns 4 (s := (4, [some (.ref 3072), some (.int (zI 0)), some (.int (zI 0))], [], [r0, r1, r2, zH s3 zL3 0, r4, r5, r6, r7, zH s8 (zLb ks) 0, r9])) rfl ?_
  obtain ⟨y18, e19, H⟩ := zbd H
  refine l_X4_giveColumns_4 r0 r1 r2 s3 r4 r5 r6 r7 r9 ks  _ 0 0 s8 e19 ?_
  refine xB.run oX4_giveColumns 1 (s := (65, [some (.ref 3072), some (.int (zI y18.1)), some (.int (zI y18.2.1))], [.int (zI y18.1)], [r0, r1, r2, zH s3 zL3 0, r4, r5, r6, r7, zH y18.2.2 (zLb ks) 0, r9])) rfl ?_
  obtain rfl := Option.some.inj H
  exact xB.ret oX4_giveColumns (r1 := some (.int (zI y18.1))) rfl rfl rfl
