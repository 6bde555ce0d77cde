/-! 36.zm3 -/
def d_X12_isJoint (s7 : zZ) (p : Int) : Option (Int) := if (zr p) then (if p < 0 then some 0 else (if (zr p ∧ zr (s7 0 20)) then (if (s7 0 20) ≤ p then some 0 else some 1) else none)) else none
set_option maxRecDepth 20000 in
theorem t_X12_isJoint (r0 : List va_E) (r1 : List va_E) (r2 : List va_E) (r3 : List va_E) (r4 : List va_E) (r5 : List va_E) (r6 : List va_E) (s7 : zZ) (r8 : List va_E) (r9 : List va_E) (p : Int) {rr : Int} (H : d_X12_isJoint s7 p = some rr) : xC MX12_isJoint 0 [.ref 7168, .int (zI p)] ([r0, r1, r2, r3, r4, r5, r6, zH s7 zL7 0, r8, r9]) (some (.int (zI rr))) ([r0, r1, r2, r3, r4, r5, r6, zH s7 zL7 0, r8, r9]) := by
  refine ⟨Nat.le_of_ble_eq_true rfl, ?_⟩
  show xBody MX12_isJoint 0 0 [some (.ref 7168), some (.int (zI p))] [] ([r0, r1, r2, r3, r4, r5, r6, zH s7 zL7 0, r8, r9]) _ _
  unfold d_X12_isJoint at H
  refine xB.run oX12_isJoint 1 (s := (1, [some (.ref 7168), some (.int (zI p))], [.int (zI p)], [r0, r1, r2, r3, r4, r5, r6, zH s7 zL7 0, r8, r9])) rfl ?_
  obtain ⟨g4, H⟩ := zgd H
  have H := zif H
  refine xB.brE oX12_isJoint (P := p < 0) rfl (zc_lt (a := p) (b := 0) ⟨g4, by decide⟩) (fun h1 => ?_) (fun h1 => ?_)
  · have H := H.1 h1
    refine xB.run oX12_isJoint 1 (s := (17, [some (.ref 7168), some (.int (zI p))], [.int (zI 0)], [r0, r1, r2, r3, r4, r5, r6, zH s7 zL7 0, r8, r9])) rfl ?_
    obtain rfl := Option.some.inj H
    exact xB.ret oX12_isJoint (r1 := some (.int (zI 0))) rfl rfl rfl
  · have H := H.2 h1
    refine xB.run oX12_isJoint 3 (s := (9, [some (.ref 7168), some (.int (zI p))], [.int (zI (s7 0 20)), .int (zI p)], [r0, r1, r2, r3, r4, r5, r6, zH s7 zL7 0, r8, r9])) rfl ?_
    obtain ⟨g3, H⟩ := zgd H
    have H := zif H
    refine xB.brE oX12_isJoint (P := (s7 0 20) ≤ p) rfl (zc_ge (a := p) (b := s7 0 20) g3) (fun h2 => ?_) (fun h2 => ?_)
    · have H := H.1 h2
      refine xB.run oX12_isJoint 1 (s := (17, [some (.ref 7168), some (.int (zI p))], [.int (zI 0)], [r0, r1, r2, r3, r4, r5, r6, zH s7 zL7 0, r8, r9])) rfl ?_
      obtain rfl := Option.some.inj H
      exact xB.ret oX12_isJoint (r1 := some (.int (zI 0))) rfl rfl rfl
    · have H := H.2 h2
      refine xB.run oX12_isJoint 2 (s := (17, [some (.ref 7168), some (.int (zI p))], [.int (zI 1)], [r0, r1, r2, r3, r4, r5, r6, zH s7 zL7 0, r8, r9])) rfl ?_
      obtain rfl := Option.some.inj H
      exact xB.ret oX12_isJoint (r1 := some (.int (zI 1))) rfl rfl rfl
def d_X12_isBar (s7 : zZ) (p : Int) : Option (Int) := if (zr p) then (if p < 0 then some 0 else (if (zr p ∧ zr (s7 0 25)) then (if (s7 0 25) ≤ p then some 0 else some 1) else none)) else none
set_option maxRecDepth 20000 in
theorem t_X12_isBar (r0 : List va_E) (r1 : List va_E) (r2 : List va_E) (r3 : List va_E) (r4 : List va_E) (r5 : List va_E) (r6 : List va_E) (s7 : zZ) (r8 : List va_E) (r9 : List va_E) (p : Int) {rr : Int} (H : d_X12_isBar s7 p = some rr) : xC MX12_isBar 0 [.ref 7168, .int (zI p)] ([r0, r1, r2, r3, r4, r5, r6, zH s7 zL7 0, r8, r9]) (some (.int (zI rr))) ([r0, r1, r2, r3, r4, r5, r6, zH s7 zL7 0, r8, r9]) := by
  refine ⟨Nat.le_of_ble_eq_true rfl, ?_⟩
  show xBody MX12_isBar 0 0 [some (.ref 7168), some (.int (zI p))] [] ([r0, r1, r2, r3, r4, r5, r6, zH s7 zL7 0, r8, r9]) _ _
  unfold d_X12_isBar at H
  refine xB.run oX12_isBar 1 (s := (1, [some (.ref 7168), some (.int (zI p))], [.int (zI p)], [r0, r1, r2, r3, r4, r5, r6, zH s7 zL7 0, r8, r9])) rfl ?_
  obtain ⟨g4, H⟩ := zgd H
  have H := zif H
  refine xB.brE oX12_isBar (P := p < 0) rfl (zc_lt (a := p) (b := 0) ⟨g4, by decide⟩) (fun h1 => ?_) (fun h1 => ?_)
  · have H := H.1 h1
    refine xB.run oX12_isBar 1 (s := (17, [some (.ref 7168), some (.int (zI p))], [.int (zI 0)], [r0, r1, r2, r3, r4, r5, r6, zH s7 zL7 0, r8, r9])) rfl ?_
    obtain rfl := Option.some.inj H
    exact xB.ret oX12_isBar (r1 := some (.int (zI 0))) rfl rfl rfl
  · have H := H.2 h1
    refine xB.run oX12_isBar 3 (s := (9, [some (.ref 7168), some (.int (zI p))], [.int (zI (s7 0 25)), .int (zI p)], [r0, r1, r2, r3, r4, r5, r6, zH s7 zL7 0, r8, r9])) rfl ?_
    obtain ⟨g3, H⟩ := zgd H
    have H := zif H
    refine xB.brE oX12_isBar (P := (s7 0 25) ≤ p) rfl (zc_ge (a := p) (b := s7 0 25) g3) (fun h2 => ?_) (fun h2 => ?_)
    · have H := H.1 h2
      refine xB.run oX12_isBar 1 (s := (17, [some (.ref 7168), some (.int (zI p))], [.int (zI 0)], [r0, r1, r2, r3, r4, r5, r6, zH s7 zL7 0, r8, r9])) rfl ?_
      obtain rfl := Option.some.inj H
      exact xB.ret oX12_isBar (r1 := some (.int (zI 0))) rfl rfl rfl
    · have H := H.2 h2
      refine xB.run oX12_isBar 2 (s := (17, [some (.ref 7168), some (.int (zI p))], [.int (zI 1)], [r0, r1, r2, r3, r4, r5, r6, zH s7 zL7 0, r8, r9])) rfl ?_
      obtain rfl := Option.some.inj H
      exact xB.ret oX12_isBar (r1 := some (.int (zI 1))) rfl rfl rfl
def d_X12_joint_30 (s7 : zZ) (x : Int) (y : Int) (held : Int) : Nat → Int → Option (Sum (Int) (Int × zZ))
  | 0, _ => none
  | uN + 1, j => if (zr j ∧ zr (s7 0 20)) then (if (s7 0 20) ≤ j then some (.inl j) else (if (0 ≤ j ∧ j < 8) then (if (zr (s7 14 j.toNat) ∧ zr x) then (if (s7 14 j.toNat) ≠ x then (d_X12_joint_30 s7 x y held uN (j + 1)) else (if (0 ≤ j ∧ j < 8) then (if (zr (s7 15 j.toNat) ∧ zr y) then (if (s7 15 j.toNat) ≠ y then (d_X12_joint_30 s7 x y held uN (j + 1)) else some (.inr ((-3), s7))) else none) else none)) else none) else none)) else none
def d_X12_joint (s7 : zZ) (x : Int) (y : Int) (held : Int) : Option (Int × zZ) := if zr x then ((d_X12_within x 0 5).bind fun y1 => if (zr y1) then (if y1 = 0 then some ((-2), s7) else (if zr y then ((d_X12_within y 0 5).bind fun y4 => if (zr y4) then (if y4 ≠ 0 then ((d_X12_joint_30 s7 x y held zF 0).bind fun y15 => match y15 with | .inl y17 => if (zr (s7 0 20)) then (if (s7 0 20) = 8 then some ((-4), s7) else (if (zr held) then (if held ≠ 0 then (if (0 ≤ (s7 0 20) ∧ (s7 0 20) < 8) then (if (0 ≤ ((upz s7 14 (s7 0 20).toNat x) 0 20) ∧ ((upz s7 14 (s7 0 20).toNat x) 0 20) < 8) then (if (zr held) then (if held = 0 then (if (0 ≤ ((upz (upz s7 14 (s7 0 20).toNat x) 15 ((upz s7 14 (s7 0 20).toNat x) 0 20).toNat y) 0 20) ∧ ((upz (upz s7 14 (s7 0 20).toNat x) 15 ((upz s7 14 (s7 0 20).toNat x) 0 20).toNat y) 0 20) < 8) then (if (zr held) then (if held = 0 then some (((upz (upz (upz (upz (upz s7 14 (s7 0 20).toNat x) 15 ((upz s7 14 (s7 0 20).toNat x) 0 20).toNat y) 16 ((upz (upz s7 14 (s7 0 20).toNat x) 15 ((upz s7 14 (s7 0 20).toNat x) 0 20).toNat y) 0 20).toNat ((upz (upz s7 14 (s7 0 20).toNat x) 15 ((upz s7 14 (s7 0 20).toNat x) 0 20).toNat y) 0 21)) 0 21 (((upz (upz (upz s7 14 (s7 0 20).toNat x) 15 ((upz s7 14 (s7 0 20).toNat x) 0 20).toNat y) 16 ((upz (upz s7 14 (s7 0 20).toNat x) 15 ((upz s7 14 (s7 0 20).toNat x) 0 20).toNat y) 0 20).toNat ((upz (upz s7 14 (s7 0 20).toNat x) 15 ((upz s7 14 (s7 0 20).toNat x) 0 20).toNat y) 0 21)) 0 21) + 1)) 0 20 (((upz (upz (upz (upz s7 14 (s7 0 20).toNat x) 15 ((upz s7 14 (s7 0 20).toNat x) 0 20).toNat y) 16 ((upz (upz s7 14 (s7 0 20).toNat x) 15 ((upz s7 14 (s7 0 20).toNat x) 0 20).toNat y) 0 20).toNat ((upz (upz s7 14 (s7 0 20).toNat x) 15 ((upz s7 14 (s7 0 20).toNat x) 0 20).toNat y) 0 21)) 0 21 (((upz (upz (upz s7 14 (s7 0 20).toNat x) 15 ((upz s7 14 (s7 0 20).toNat x) 0 20).toNat y) 16 ((upz (upz s7 14 (s7 0 20).toNat x) 15 ((upz s7 14 (s7 0 20).toNat x) 0 20).toNat y) 0 20).toNat ((upz (upz s7 14 (s7 0 20).toNat x) 15 ((upz s7 14 (s7 0 20).toNat x) 0 20).toNat y) 0 21)) 0 21) + 1)) 0 20) + 1)) 0 20) - 1, upz (upz (upz (upz (upz s7 14 (s7 0 20).toNat x) 15 ((upz s7 14 (s7 0 20).toNat x) 0 20).toNat y) 16 ((upz (upz s7 14 (s7 0 20).toNat x) 15 ((upz s7 14 (s7 0 20).toNat x) 0 20).toNat y) 0 20).toNat ((upz (upz s7 14 (s7 0 20).toNat x) 15 ((upz s7 14 (s7 0 20).toNat x) 0 20).toNat y) 0 21)) 0 21 (((upz (upz (upz s7 14 (s7 0 20).toNat x) 15 ((upz s7 14 (s7 0 20).toNat x) 0 20).toNat y) 16 ((upz (upz s7 14 (s7 0 20).toNat x) 15 ((upz s7 14 (s7 0 20).toNat x) 0 20).toNat y) 0 20).toNat ((upz (upz s7 14 (s7 0 20).toNat x) 15 ((upz s7 14 (s7 0 20).toNat x) 0 20).toNat y) 0 21)) 0 21) + 1)) 0 20 (((upz (upz (upz (upz s7 14 (s7 0 20).toNat x) 15 ((upz s7 14 (s7 0 20).toNat x) 0 20).toNat y) 16 ((upz (upz s7 14 (s7 0 20).toNat x) 15 ((upz s7 14 (s7 0 20).toNat x) 0 20).toNat y) 0 20).toNat ((upz (upz s7 14 (s7 0 20).toNat x) 15 ((upz s7 14 (s7 0 20).toNat x) 0 20).toNat y) 0 21)) 0 21 (((upz (upz (upz s7 14 (s7 0 20).toNat x) 15 ((upz s7 14 (s7 0 20).toNat x) 0 20).toNat y) 16 ((upz (upz s7 14 (s7 0 20).toNat x) 15 ((upz s7 14 (s7 0 20).toNat x) 0 20).toNat y) 0 20).toNat ((upz (upz s7 14 (s7 0 20).toNat x) 15 ((upz s7 14 (s7 0 20).toNat x) 0 20).toNat y) 0 21)) 0 21) + 1)) 0 20) + 1)) else some (((upz (upz (upz (upz (upz s7 14 (s7 0 20).toNat x) 15 ((upz s7 14 (s7 0 20).toNat x) 0 20).toNat y) 16 ((upz (upz s7 14 (s7 0 20).toNat x) 15 ((upz s7 14 (s7 0 20).toNat x) 0 20).toNat y) 0 20).toNat ((upz (upz s7 14 (s7 0 20).toNat x) 15 ((upz s7 14 (s7 0 20).toNat x) 0 20).toNat y) 0 21)) 0 21 (((upz (upz (upz s7 14 (s7 0 20).toNat x) 15 ((upz s7 14 (s7 0 20).toNat x) 0 20).toNat y) 16 ((upz (upz s7 14 (s7 0 20).toNat x) 15 ((upz s7 14 (s7 0 20).toNat x) 0 20).toNat y) 0 20).toNat ((upz (upz s7 14 (s7 0 20).toNat x) 15 ((upz s7 14 (s7 0 20).toNat x) 0 20).toNat y) 0 21)) 0 21) + 0)) 0 20 (((upz (upz (upz (upz s7 14 (s7 0 20).toNat x) 15 ((upz s7 14 (s7 0 20).toNat x) 0 20).toNat y) 16 ((upz (upz s7 14 (s7 0 20).toNat x) 15 ((upz s7 14 (s7 0 20).toNat x) 0 20).toNat y) 0 20).toNat ((upz (upz s7 14 (s7 0 20).toNat x) 15 ((upz s7 14 (s7 0 20).toNat x) 0 20).toNat y) 0 21)) 0 21 (((upz (upz (upz s7 14 (s7 0 20).toNat x) 15 ((upz s7 14 (s7 0 20).toNat x) 0 20).toNat y) 16 ((upz (upz s7 14 (s7 0 20).toNat x) 15 ((upz s7 14 (s7 0 20).toNat x) 0 20).toNat y) 0 20).toNat ((upz (upz s7 14 (s7 0 20).toNat x) 15 ((upz s7 14 (s7 0 20).toNat x) 0 20).toNat y) 0 21)) 0 21) + 0)) 0 20) + 1)) 0 20) - 1, upz (upz (upz (upz (upz s7 14 (s7 0 20).toNat x) 15 ((upz s7 14 (s7 0 20).toNat x) 0 20).toNat y) 16 ((upz (upz s7 14 (s7 0 20).toNat x) 15 ((upz s7 14 (s7 0 20).toNat x) 0 20).toNat y) 0 20).toNat ((upz (upz s7 14 (s7 0 20).toNat x) 15 ((upz s7 14 (s7 0 20).toNat x) 0 20).toNat y) 0 21)) 0 21 (((upz (upz (upz s7 14 (s7 0 20).toNat x) 15 ((upz s7 14 (s7 0 20).toNat x) 0 20).toNat y) 16 ((upz (upz s7 14 (s7 0 20).toNat x) 15 ((upz s7 14 (s7 0 20).toNat x) 0 20).toNat y) 0 20).toNat ((upz (upz s7 14 (s7 0 20).toNat x) 15 ((upz s7 14 (s7 0 20).toNat x) 0 20).toNat y) 0 21)) 0 21) + 0)) 0 20 (((upz (upz (upz (upz s7 14 (s7 0 20).toNat x) 15 ((upz s7 14 (s7 0 20).toNat x) 0 20).toNat y) 16 ((upz (upz s7 14 (s7 0 20).toNat x) 15 ((upz s7 14 (s7 0 20).toNat x) 0 20).toNat y) 0 20).toNat ((upz (upz s7 14 (s7 0 20).toNat x) 15 ((upz s7 14 (s7 0 20).toNat x) 0 20).toNat y) 0 21)) 0 21 (((upz (upz (upz s7 14 (s7 0 20).toNat x) 15 ((upz s7 14 (s7 0 20).toNat x) 0 20).toNat y) 16 ((upz (upz s7 14 (s7 0 20).toNat x) 15 ((upz s7 14 (s7 0 20).toNat x) 0 20).toNat y) 0 20).toNat ((upz (upz s7 14 (s7 0 20).toNat x) 15 ((upz s7 14 (s7 0 20).toNat x) 0 20).toNat y) 0 21)) 0 21) + 0)) 0 20) + 1))) else none) else none) else (if (0 ≤ ((upz (upz s7 14 (s7 0 20).toNat x) 15 ((upz s7 14 (s7 0 20).toNat x) 0 20).toNat y) 0 20) ∧ ((upz (upz s7 14 (s7 0 20).toNat x) 15 ((upz s7 14 (s7 0 20).toNat x) 0 20).toNat y) 0 20) < 8) then (if (zr held) then (if held = 0 then some (((upz (upz (upz (upz (upz s7 14 (s7 0 20).toNat x) 15 ((upz s7 14 (s7 0 20).toNat x) 0 20).toNat y) 16 ((upz (upz s7 14 (s7 0 20).toNat x) 15 ((upz s7 14 (s7 0 20).toNat x) 0 20).toNat y) 0 20).toNat (-9)) 0 21 (((upz (upz (upz s7 14 (s7 0 20).toNat x) 15 ((upz s7 14 (s7 0 20).toNat x) 0 20).toNat y) 16 ((upz (upz s7 14 (s7 0 20).toNat x) 15 ((upz s7 14 (s7 0 20).toNat x) 0 20).toNat y) 0 20).toNat (-9)) 0 21) + 1)) 0 20 (((upz (upz (upz (upz s7 14 (s7 0 20).toNat x) 15 ((upz s7 14 (s7 0 20).toNat x) 0 20).toNat y) 16 ((upz (upz s7 14 (s7 0 20).toNat x) 15 ((upz s7 14 (s7 0 20).toNat x) 0 20).toNat y) 0 20).toNat (-9)) 0 21 (((upz (upz (upz s7 14 (s7 0 20).toNat x) 15 ((upz s7 14 (s7 0 20).toNat x) 0 20).toNat y) 16 ((upz (upz s7 14 (s7 0 20).toNat x) 15 ((upz s7 14 (s7 0 20).toNat x) 0 20).toNat y) 0 20).toNat (-9)) 0 21) + 1)) 0 20) + 1)) 0 20) - 1, upz (upz (upz (upz (upz s7 14 (s7 0 20).toNat x) 15 ((upz s7 14 (s7 0 20).toNat x) 0 20).toNat y) 16 ((upz (upz s7 14 (s7 0 20).toNat x) 15 ((upz s7 14 (s7 0 20).toNat x) 0 20).toNat y) 0 20).toNat (-9)) 0 21 (((upz (upz (upz s7 14 (s7 0 20).toNat x) 15 ((upz s7 14 (s7 0 20).toNat x) 0 20).toNat y) 16 ((upz (upz s7 14 (s7 0 20).toNat x) 15 ((upz s7 14 (s7 0 20).toNat x) 0 20).toNat y) 0 20).toNat (-9)) 0 21) + 1)) 0 20 (((upz (upz (upz (upz s7 14 (s7 0 20).toNat x) 15 ((upz s7 14 (s7 0 20).toNat x) 0 20).toNat y) 16 ((upz (upz s7 14 (s7 0 20).toNat x) 15 ((upz s7 14 (s7 0 20).toNat x) 0 20).toNat y) 0 20).toNat (-9)) 0 21 (((upz (upz (upz s7 14 (s7 0 20).toNat x) 15 ((upz s7 14 (s7 0 20).toNat x) 0 20).toNat y) 16 ((upz (upz s7 14 (s7 0 20).toNat x) 15 ((upz s7 14 (s7 0 20).toNat x) 0 20).toNat y) 0 20).toNat (-9)) 0 21) + 1)) 0 20) + 1)) else some (((upz (upz (upz (upz (upz s7 14 (s7 0 20).toNat x) 15 ((upz s7 14 (s7 0 20).toNat x) 0 20).toNat y) 16 ((upz (upz s7 14 (s7 0 20).toNat x) 15 ((upz s7 14 (s7 0 20).toNat x) 0 20).toNat y) 0 20).toNat (-9)) 0 21 (((upz (upz (upz s7 14 (s7 0 20).toNat x) 15 ((upz s7 14 (s7 0 20).toNat x) 0 20).toNat y) 16 ((upz (upz s7 14 (s7 0 20).toNat x) 15 ((upz s7 14 (s7 0 20).toNat x) 0 20).toNat y) 0 20).toNat (-9)) 0 21) + 0)) 0 20 (((upz (upz (upz (upz s7 14 (s7 0 20).toNat x) 15 ((upz s7 14 (s7 0 20).toNat x) 0 20).toNat y) 16 ((upz (upz s7 14 (s7 0 20).toNat x) 15 ((upz s7 14 (s7 0 20).toNat x) 0 20).toNat y) 0 20).toNat (-9)) 0 21 (((upz (upz (upz s7 14 (s7 0 20).toNat x) 15 ((upz s7 14 (s7 0 20).toNat x) 0 20).toNat y) 16 ((upz (upz s7 14 (s7 0 20).toNat x) 15 ((upz s7 14 (s7 0 20).toNat x) 0 20).toNat y) 0 20).toNat (-9)) 0 21) + 0)) 0 20) + 1)) 0 20) - 1, upz (upz (upz (upz (upz s7 14 (s7 0 20).toNat x) 15 ((upz s7 14 (s7 0 20).toNat x) 0 20).toNat y) 16 ((upz (upz s7 14 (s7 0 20).toNat x) 15 ((upz s7 14 (s7 0 20).toNat x) 0 20).toNat y) 0 20).toNat (-9)) 0 21 (((upz (upz (upz s7 14 (s7 0 20).toNat x) 15 ((upz s7 14 (s7 0 20).toNat x) 0 20).toNat y) 16 ((upz (upz s7 14 (s7 0 20).toNat x) 15 ((upz s7 14 (s7 0 20).toNat x) 0 20).toNat y) 0 20).toNat (-9)) 0 21) + 0)) 0 20 (((upz (upz (upz (upz s7 14 (s7 0 20).toNat x) 15 ((upz s7 14 (s7 0 20).toNat x) 0 20).toNat y) 16 ((upz (upz s7 14 (s7 0 20).toNat x) 15 ((upz s7 14 (s7 0 20).toNat x) 0 20).toNat y) 0 20).toNat (-9)) 0 21 (((upz (upz (upz s7 14 (s7 0 20).toNat x) 15 ((upz s7 14 (s7 0 20).toNat x) 0 20).toNat y) 16 ((upz (upz s7 14 (s7 0 20).toNat x) 15 ((upz s7 14 (s7 0 20).toNat x) 0 20).toNat y) 0 20).toNat (-9)) 0 21) + 0)) 0 20) + 1))) else none) else none)) else none) else none) else none) else (if (zr (s7 0 21)) then (if (s7 0 21) ≠ 4 then (if (0 ≤ (s7 0 20) ∧ (s7 0 20) < 8) then (if (0 ≤ ((upz s7 14 (s7 0 20).toNat x) 0 20) ∧ ((upz s7 14 (s7 0 20).toNat x) 0 20) < 8) then (if (zr held) then (if held = 0 then (if (0 ≤ ((upz (upz s7 14 (s7 0 20).toNat x) 15 ((upz s7 14 (s7 0 20).toNat x) 0 20).toNat y) 0 20) ∧ ((upz (upz s7 14 (s7 0 20).toNat x) 15 ((upz s7 14 (s7 0 20).toNat x) 0 20).toNat y) 0 20) < 8) then (if (zr held) then (if held = 0 then some (((upz (upz (upz (upz (upz s7 14 (s7 0 20).toNat x) 15 ((upz s7 14 (s7 0 20).toNat x) 0 20).toNat y) 16 ((upz (upz s7 14 (s7 0 20).toNat x) 15 ((upz s7 14 (s7 0 20).toNat x) 0 20).toNat y) 0 20).toNat ((upz (upz s7 14 (s7 0 20).toNat x) 15 ((upz s7 14 (s7 0 20).toNat x) 0 20).toNat y) 0 21)) 0 21 (((upz (upz (upz s7 14 (s7 0 20).toNat x) 15 ((upz s7 14 (s7 0 20).toNat x) 0 20).toNat y) 16 ((upz (upz s7 14 (s7 0 20).toNat x) 15 ((upz s7 14 (s7 0 20).toNat x) 0 20).toNat y) 0 20).toNat ((upz (upz s7 14 (s7 0 20).toNat x) 15 ((upz s7 14 (s7 0 20).toNat x) 0 20).toNat y) 0 21)) 0 21) + 1)) 0 20 (((upz (upz (upz (upz s7 14 (s7 0 20).toNat x) 15 ((upz s7 14 (s7 0 20).toNat x) 0 20).toNat y) 16 ((upz (upz s7 14 (s7 0 20).toNat x) 15 ((upz s7 14 (s7 0 20).toNat x) 0 20).toNat y) 0 20).toNat ((upz (upz s7 14 (s7 0 20).toNat x) 15 ((upz s7 14 (s7 0 20).toNat x) 0 20).toNat y) 0 21)) 0 21 (((upz (upz (upz s7 14 (s7 0 20).toNat x) 15 ((upz s7 14 (s7 0 20).toNat x) 0 20).toNat y) 16 ((upz (upz s7 14 (s7 0 20).toNat x) 15 ((upz s7 14 (s7 0 20).toNat x) 0 20).toNat y) 0 20).toNat ((upz (upz s7 14 (s7 0 20).toNat x) 15 ((upz s7 14 (s7 0 20).toNat x) 0 20).toNat y) 0 21)) 0 21) + 1)) 0 20) + 1)) 0 20) - 1, upz (upz (upz (upz (upz s7 14 (s7 0 20).toNat x) 15 ((upz s7 14 (s7 0 20).toNat x) 0 20).toNat y) 16 ((upz (upz s7 14 (s7 0 20).toNat x) 15 ((upz s7 14 (s7 0 20).toNat x) 0 20).toNat y) 0 20).toNat ((upz (upz s7 14 (s7 0 20).toNat x) 15 ((upz s7 14 (s7 0 20).toNat x) 0 20).toNat y) 0 21)) 0 21 (((upz (upz (upz s7 14 (s7 0 20).toNat x) 15 ((upz s7 14 (s7 0 20).toNat x) 0 20).toNat y) 16 ((upz (upz s7 14 (s7 0 20).toNat x) 15 ((upz s7 14 (s7 0 20).toNat x) 0 20).toNat y) 0 20).toNat ((upz (upz s7 14 (s7 0 20).toNat x) 15 ((upz s7 14 (s7 0 20).toNat x) 0 20).toNat y) 0 21)) 0 21) + 1)) 0 20 (((upz (upz (upz (upz s7 14 (s7 0 20).toNat x) 15 ((upz s7 14 (s7 0 20).toNat x) 0 20).toNat y) 16 ((upz (upz s7 14 (s7 0 20).toNat x) 15 ((upz s7 14 (s7 0 20).toNat x) 0 20).toNat y) 0 20).toNat ((upz (upz s7 14 (s7 0 20).toNat x) 15 ((upz s7 14 (s7 0 20).toNat x) 0 20).toNat y) 0 21)) 0 21 (((upz (upz (upz s7 14 (s7 0 20).toNat x) 15 ((upz s7 14 (s7 0 20).toNat x) 0 20).toNat y) 16 ((upz (upz s7 14 (s7 0 20).toNat x) 15 ((upz s7 14 (s7 0 20).toNat x) 0 20).toNat y) 0 20).toNat ((upz (upz s7 14 (s7 0 20).toNat x) 15 ((upz s7 14 (s7 0 20).toNat x) 0 20).toNat y) 0 21)) 0 21) + 1)) 0 20) + 1)) else some (((upz (upz (upz (upz (upz s7 14 (s7 0 20).toNat x) 15 ((upz s7 14 (s7 0 20).toNat x) 0 20).toNat y) 16 ((upz (upz s7 14 (s7 0 20).toNat x) 15 ((upz s7 14 (s7 0 20).toNat x) 0 20).toNat y) 0 20).toNat ((upz (upz s7 14 (s7 0 20).toNat x) 15 ((upz s7 14 (s7 0 20).toNat x) 0 20).toNat y) 0 21)) 0 21 (((upz (upz (upz s7 14 (s7 0 20).toNat x) 15 ((upz s7 14 (s7 0 20).toNat x) 0 20).toNat y) 16 ((upz (upz s7 14 (s7 0 20).toNat x) 15 ((upz s7 14 (s7 0 20).toNat x) 0 20).toNat y) 0 20).toNat ((upz (upz s7 14 (s7 0 20).toNat x) 15 ((upz s7 14 (s7 0 20).toNat x) 0 20).toNat y) 0 21)) 0 21) + 0)) 0 20 (((upz (upz (upz (upz s7 14 (s7 0 20).toNat x) 15 ((upz s7 14 (s7 0 20).toNat x) 0 20).toNat y) 16 ((upz (upz s7 14 (s7 0 20).toNat x) 15 ((upz s7 14 (s7 0 20).toNat x) 0 20).toNat y) 0 20).toNat ((upz (upz s7 14 (s7 0 20).toNat x) 15 ((upz s7 14 (s7 0 20).toNat x) 0 20).toNat y) 0 21)) 0 21 (((upz (upz (upz s7 14 (s7 0 20).toNat x) 15 ((upz s7 14 (s7 0 20).toNat x) 0 20).toNat y) 16 ((upz (upz s7 14 (s7 0 20).toNat x) 15 ((upz s7 14 (s7 0 20).toNat x) 0 20).toNat y) 0 20).toNat ((upz (upz s7 14 (s7 0 20).toNat x) 15 ((upz s7 14 (s7 0 20).toNat x) 0 20).toNat y) 0 21)) 0 21) + 0)) 0 20) + 1)) 0 20) - 1, upz (upz (upz (upz (upz s7 14 (s7 0 20).toNat x) 15 ((upz s7 14 (s7 0 20).toNat x) 0 20).toNat y) 16 ((upz (upz s7 14 (s7 0 20).toNat x) 15 ((upz s7 14 (s7 0 20).toNat x) 0 20).toNat y) 0 20).toNat ((upz (upz s7 14 (s7 0 20).toNat x) 15 ((upz s7 14 (s7 0 20).toNat x) 0 20).toNat y) 0 21)) 0 21 (((upz (upz (upz s7 14 (s7 0 20).toNat x) 15 ((upz s7 14 (s7 0 20).toNat x) 0 20).toNat y) 16 ((upz (upz s7 14 (s7 0 20).toNat x) 15 ((upz s7 14 (s7 0 20).toNat x) 0 20).toNat y) 0 20).toNat ((upz (upz s7 14 (s7 0 20).toNat x) 15 ((upz s7 14 (s7 0 20).toNat x) 0 20).toNat y) 0 21)) 0 21) + 0)) 0 20 (((upz (upz (upz (upz s7 14 (s7 0 20).toNat x) 15 ((upz s7 14 (s7 0 20).toNat x) 0 20).toNat y) 16 ((upz (upz s7 14 (s7 0 20).toNat x) 15 ((upz s7 14 (s7 0 20).toNat x) 0 20).toNat y) 0 20).toNat ((upz (upz s7 14 (s7 0 20).toNat x) 15 ((upz s7 14 (s7 0 20).toNat x) 0 20).toNat y) 0 21)) 0 21 (((upz (upz (upz s7 14 (s7 0 20).toNat x) 15 ((upz s7 14 (s7 0 20).toNat x) 0 20).toNat y) 16 ((upz (upz s7 14 (s7 0 20).toNat x) 15 ((upz s7 14 (s7 0 20).toNat x) 0 20).toNat y) 0 20).toNat ((upz (upz s7 14 (s7 0 20).toNat x) 15 ((upz s7 14 (s7 0 20).toNat x) 0 20).toNat y) 0 21)) 0 21) + 0)) 0 20) + 1))) else none) else none) else (if (0 ≤ ((upz (upz s7 14 (s7 0 20).toNat x) 15 ((upz s7 14 (s7 0 20).toNat x) 0 20).toNat y) 0 20) ∧ ((upz (upz s7 14 (s7 0 20).toNat x) 15 ((upz s7 14 (s7 0 20).toNat x) 0 20).toNat y) 0 20) < 8) then (if (zr held) then (if held = 0 then some (((upz (upz (upz (upz (upz s7 14 (s7 0 20).toNat x) 15 ((upz s7 14 (s7 0 20).toNat x) 0 20).toNat y) 16 ((upz (upz s7 14 (s7 0 20).toNat x) 15 ((upz s7 14 (s7 0 20).toNat x) 0 20).toNat y) 0 20).toNat (-9)) 0 21 (((upz (upz (upz s7 14 (s7 0 20).toNat x) 15 ((upz s7 14 (s7 0 20).toNat x) 0 20).toNat y) 16 ((upz (upz s7 14 (s7 0 20).toNat x) 15 ((upz s7 14 (s7 0 20).toNat x) 0 20).toNat y) 0 20).toNat (-9)) 0 21) + 1)) 0 20 (((upz (upz (upz (upz s7 14 (s7 0 20).toNat x) 15 ((upz s7 14 (s7 0 20).toNat x) 0 20).toNat y) 16 ((upz (upz s7 14 (s7 0 20).toNat x) 15 ((upz s7 14 (s7 0 20).toNat x) 0 20).toNat y) 0 20).toNat (-9)) 0 21 (((upz (upz (upz s7 14 (s7 0 20).toNat x) 15 ((upz s7 14 (s7 0 20).toNat x) 0 20).toNat y) 16 ((upz (upz s7 14 (s7 0 20).toNat x) 15 ((upz s7 14 (s7 0 20).toNat x) 0 20).toNat y) 0 20).toNat (-9)) 0 21) + 1)) 0 20) + 1)) 0 20) - 1, upz (upz (upz (upz (upz s7 14 (s7 0 20).toNat x) 15 ((upz s7 14 (s7 0 20).toNat x) 0 20).toNat y) 16 ((upz (upz s7 14 (s7 0 20).toNat x) 15 ((upz s7 14 (s7 0 20).toNat x) 0 20).toNat y) 0 20).toNat (-9)) 0 21 (((upz (upz (upz s7 14 (s7 0 20).toNat x) 15 ((upz s7 14 (s7 0 20).toNat x) 0 20).toNat y) 16 ((upz (upz s7 14 (s7 0 20).toNat x) 15 ((upz s7 14 (s7 0 20).toNat x) 0 20).toNat y) 0 20).toNat (-9)) 0 21) + 1)) 0 20 (((upz (upz (upz (upz s7 14 (s7 0 20).toNat x) 15 ((upz s7 14 (s7 0 20).toNat x) 0 20).toNat y) 16 ((upz (upz s7 14 (s7 0 20).toNat x) 15 ((upz s7 14 (s7 0 20).toNat x) 0 20).toNat y) 0 20).toNat (-9)) 0 21 (((upz (upz (upz s7 14 (s7 0 20).toNat x) 15 ((upz s7 14 (s7 0 20).toNat x) 0 20).toNat y) 16 ((upz (upz s7 14 (s7 0 20).toNat x) 15 ((upz s7 14 (s7 0 20).toNat x) 0 20).toNat y) 0 20).toNat (-9)) 0 21) + 1)) 0 20) + 1)) else some (((upz (upz (upz (upz (upz s7 14 (s7 0 20).toNat x) 15 ((upz s7 14 (s7 0 20).toNat x) 0 20).toNat y) 16 ((upz (upz s7 14 (s7 0 20).toNat x) 15 ((upz s7 14 (s7 0 20).toNat x) 0 20).toNat y) 0 20).toNat (-9)) 0 21 (((upz (upz (upz s7 14 (s7 0 20).toNat x) 15 ((upz s7 14 (s7 0 20).toNat x) 0 20).toNat y) 16 ((upz (upz s7 14 (s7 0 20).toNat x) 15 ((upz s7 14 (s7 0 20).toNat x) 0 20).toNat y) 0 20).toNat (-9)) 0 21) + 0)) 0 20 (((upz (upz (upz (upz s7 14 (s7 0 20).toNat x) 15 ((upz s7 14 (s7 0 20).toNat x) 0 20).toNat y) 16 ((upz (upz s7 14 (s7 0 20).toNat x) 15 ((upz s7 14 (s7 0 20).toNat x) 0 20).toNat y) 0 20).toNat (-9)) 0 21 (((upz (upz (upz s7 14 (s7 0 20).toNat x) 15 ((upz s7 14 (s7 0 20).toNat x) 0 20).toNat y) 16 ((upz (upz s7 14 (s7 0 20).toNat x) 15 ((upz s7 14 (s7 0 20).toNat x) 0 20).toNat y) 0 20).toNat (-9)) 0 21) + 0)) 0 20) + 1)) 0 20) - 1, upz (upz (upz (upz (upz s7 14 (s7 0 20).toNat x) 15 ((upz s7 14 (s7 0 20).toNat x) 0 20).toNat y) 16 ((upz (upz s7 14 (s7 0 20).toNat x) 15 ((upz s7 14 (s7 0 20).toNat x) 0 20).toNat y) 0 20).toNat (-9)) 0 21 (((upz (upz (upz s7 14 (s7 0 20).toNat x) 15 ((upz s7 14 (s7 0 20).toNat x) 0 20).toNat y) 16 ((upz (upz s7 14 (s7 0 20).toNat x) 15 ((upz s7 14 (s7 0 20).toNat x) 0 20).toNat y) 0 20).toNat (-9)) 0 21) + 0)) 0 20 (((upz (upz (upz (upz s7 14 (s7 0 20).toNat x) 15 ((upz s7 14 (s7 0 20).toNat x) 0 20).toNat y) 16 ((upz (upz s7 14 (s7 0 20).toNat x) 15 ((upz s7 14 (s7 0 20).toNat x) 0 20).toNat y) 0 20).toNat (-9)) 0 21 (((upz (upz (upz s7 14 (s7 0 20).toNat x) 15 ((upz s7 14 (s7 0 20).toNat x) 0 20).toNat y) 16 ((upz (upz s7 14 (s7 0 20).toNat x) 15 ((upz s7 14 (s7 0 20).toNat x) 0 20).toNat y) 0 20).toNat (-9)) 0 21) + 0)) 0 20) + 1))) else none) else none)) else none) else none) else none) else some ((-4), s7)) else none)) else none)) else none | .inr y18 => some y18) else some ((-2), s7)) else none) else none)) else none) else none
set_option maxRecDepth 20000 in
theorem l_X12_joint_30 (r0 : List va_E) (r1 : List va_E) (r2 : List va_E) (r3 : List va_E) (r4 : List va_E) (r5 : List va_E) (r6 : List va_E) (s7 : zZ) (r8 : List va_E) (r9 : List va_E) (x : Int) (y : Int) (held : Int) {r : Option Value} {hp1 : xH} : ∀ (uN : Nat) (j : Int) {uX : Sum (Int) (Int × zZ)}, d_X12_joint_30 s7 x y held uN j = some uX → ((∀ uY, uX = .inl uY → xBody MX12_joint 1 70 [some (.ref 7168), some (.int (zI x)), some (.int (zI y)), some (.int (zI held)), some (.int (zI uY))] [] ([r0, r1, r2, r3, r4, r5, r6, zH s7 zL7 0, r8, r9]) r hp1) ∧ (∀ uW, uX = .inr uW → r = some (.int (zI uW.1)) ∧ hp1 = [r0, r1, r2, r3, r4, r5, r6, zH uW.2 zL7 0, r8, r9])) → xBody MX12_joint 1 30 [some (.ref 7168), some (.int (zI x)), some (.int (zI y)), some (.int (zI held)), some (.int (zI j))] [] ([r0, r1, r2, r3, r4, r5, r6, zH s7 zL7 0, r8, r9]) r hp1 := by
  intro uN
  induction uN with
  | zero => intro j uX H K; cases H
  | succ uN ih =>
    intro j uX H K
    unfold d_X12_joint_30 at H
    refine xB.run oX12_joint 3 (s := (36, [some (.ref 7168), some (.int (zI x)), some (.int (zI y)), some (.int (zI held)), some (.int (zI j))], [.int (zI (s7 0 20)), .int (zI j)], [r0, r1, r2, r3, r4, r5, r6, zH s7 zL7 0, r8, r9])) rfl ?_
    obtain ⟨g14, H⟩ := zgd H
    have H := zif H
    refine xB.brE oX12_joint (P := (s7 0 20) ≤ j) rfl (zc_ge (a := j) (b := s7 0 20) g14) (fun h7 => ?_) (fun h7 => ?_)
    · have H := H.1 h7
      obtain rfl := Option.some.inj H
      exact K.1 _ rfl
    · have H := H.2 h7
      refine xB.run oX12_joint 3 (s := (45, [some (.ref 7168), some (.int (zI x)), some (.int (zI y)), some (.int (zI held)), some (.int (zI j))], [.int (zI j), .ref 7182], [r0, r1, r2, r3, r4, r5, r6, zH s7 zL7 0, r8, r9])) rfl ?_
      obtain ⟨g13, H⟩ := zgd H
      refine zB.iald oX12_joint (g := 7) (p := 14) (N := 8) (i := j) rfl rfl (by decide) rfl rfl (by decide) g13 ?_
      refine xB.run oX12_joint 1 (s := (47, [some (.ref 7168), some (.int (zI x)), some (.int (zI y)), some (.int (zI held)), some (.int (zI j))], [.int (zI x), .int (zI (s7 14 j.toNat))], [r0, r1, r2, r3, r4, r5, r6, zH s7 zL7 0, r8, r9])) rfl ?_
      obtain ⟨g12, H⟩ := zgd H
      have H := zif H
      refine xB.brE oX12_joint (P := (s7 14 j.toNat) ≠ x) rfl (zc_ne (a := s7 14 j.toNat) (b := x) g12) (fun h8 => ?_) (fun h8 => ?_)
      · have H := H.1 h8
        refine zB.inc oX12_joint rfl (lv2 := [some (.ref 7168), some (.int (zI x)), some (.int (zI y)), some (.int (zI held)), some (.int (zI (j + 1)))]) (zi_inc (a := 0) (zi_addp1 j) _ rfl) ?_
        refine xB.run oX12_joint 1 (s := (30, [some (.ref 7168), some (.int (zI x)), some (.int (zI y)), some (.int (zI held)), some (.int (zI (j + 1)))], [], [r0, r1, r2, r3, r4, r5, r6, zH s7 zL7 0, r8, r9])) rfl ?_
        exact ih (j + 1) H K
      · have H := H.2 h8
        refine xB.run oX12_joint 3 (s := (56, [some (.ref 7168), some (.int (zI x)), some (.int (zI y)), some (.int (zI held)), some (.int (zI j))], [.int (zI j), .ref 7183], [r0, r1, r2, r3, r4, r5, r6, zH s7 zL7 0, r8, r9])) rfl ?_
        obtain ⟨g11, H⟩ := zgd H
        refine zB.iald oX12_joint (g := 7) (p := 15) (N := 8) (i := j) rfl rfl (by decide) rfl rfl (by decide) g11 ?_
        refine xB.run oX12_joint 1 (s := (58, [some (.ref 7168), some (.int (zI x)), some (.int (zI y)), some (.int (zI held)), some (.int (zI j))], [.int (zI y), .int (zI (s7 15 j.toNat))], [r0, r1, r2, r3, r4, r5, r6, zH s7 zL7 0, r8, r9])) rfl ?_
        obtain ⟨g10, H⟩ := zgd H
        have H := zif H
        refine xB.brE oX12_joint (P := (s7 15 j.toNat) ≠ y) rfl (zc_ne (a := s7 15 j.toNat) (b := y) g10) (fun h9 => ?_) (fun h9 => ?_)
        · have H := H.1 h9
          refine zB.inc oX12_joint rfl (lv2 := [some (.ref 7168), some (.int (zI x)), some (.int (zI y)), some (.int (zI held)), some (.int (zI (j + 1)))]) (zi_inc (a := 0) (zi_addp1 j) _ rfl) ?_
          refine xB.run oX12_joint 1 (s := (30, [some (.ref 7168), some (.int (zI x)), some (.int (zI y)), some (.int (zI held)), some (.int (zI (j + 1)))], [], [r0, r1, r2, r3, r4, r5, r6, zH s7 zL7 0, r8, r9])) rfl ?_
          exact ih (j + 1) H K
        · have H := H.2 h9
          refine xB.run oX12_joint 1 (s := (63, [some (.ref 7168), some (.int (zI x)), some (.int (zI y)), some (.int (zI held)), some (.int (zI j))], [.int (zI (-3))], [r0, r1, r2, r3, r4, r5, r6, zH s7 zL7 0, r8, r9])) rfl ?_
          obtain rfl := Option.some.inj H
          obtain ⟨kr, kh⟩ := K.2 _ rfl
          subst kr kh
          exact xB.ret oX12_joint (r1 := some (.int (zI (-3)))) rfl rfl rfl
set_option maxRecDepth 20000 in
theorem t_X12_joint (r0 : List va_E) (r1 : List va_E) (r2 : List va_E) (r3 : List va_E) (r4 : List va_E) (r5 : List va_E) (r6 : List va_E) (s7 : zZ) (r8 : List va_E) (r9 : List va_E) (x : Int) (y : Int) (held : Int) {rr : Int × zZ} (H : d_X12_joint s7 x y held = some rr) : xC MX12_joint 1 [.ref 7168, .int (zI x), .int (zI y), .int (zI held)] ([r0, r1, r2, r3, r4, r5, r6, zH s7 zL7 0, r8, r9]) (some (.int (zI rr.1))) ([r0, r1, r2, r3, r4, r5, r6, zH rr.2 zL7 0, r8, r9]) := by
  refine ⟨Nat.le_of_ble_eq_true rfl, ?_⟩
  show xBody MX12_joint 1 0 [some (.ref 7168), some (.int (zI x)), some (.int (zI y)), some (.int (zI held)), none] [] ([r0, r1, r2, r3, r4, r5, r6, zH s7 zL7 0, r8, r9]) _ _
  unfold d_X12_joint at H
  refine xB.run oX12_joint 1 (s := (1, [some (.ref 7168), some (.int (zI x)), some (.int (zI y)), some (.int (zI held)), none], [.int (zI x)], [r0, r1, r2, r3, r4, r5, r6, zH s7 zL7 0, r8, r9])) rfl ?_
  obtain ⟨g48, H⟩ := zgd H
  refine zB.opl oX12_joint rfl (zi_i2l g48) ?_
  refine xB.run oX12_joint 2 (s := (6, [some (.ref 7168), some (.int (zI x)), some (.int (zI y)), some (.int (zI held)), none], [.long (zJ 5), .long (zJ 0), .long (zJ x)], [r0, r1, r2, r3, r4, r5, r6, zH s7 zL7 0, r8, r9])) rfl ?_
  obtain ⟨y1, e2, H⟩ := zbd H
  refine xB.call oX12_joint (M2 := MX12_within) rfl rfl ((t_X12_within r0 r1 r2 r3 r4 r5 r6 (zH s7 zL7 0) r8 r9 x 0 5 e2).deep (by decide : 0 ≤ 0)) ?_
  show xBody MX12_joint 1 9 [some (.ref 7168), some (.int (zI x)), some (.int (zI y)), some (.int (zI held)), none] [.int (zI y1)] ([r0, r1, r2, r3, r4, r5, r6, zH s7 zL7 0, r8, r9]) _ _
  obtain ⟨g47, H⟩ := zgd H
  have H := zif H
  refine xB.brE oX12_joint (P := y1 = 0) rfl (zc_eq (a := y1) (b := 0) ⟨g47, by decide⟩) (fun h3 => ?_) (fun h3 => ?_)
  · have H := H.1 h3
    refine xB.run oX12_joint 1 (s := (26, [some (.ref 7168), some (.int (zI x)), some (.int (zI y)), some (.int (zI held)), none], [.int (zI (-2))], [r0, r1, r2, r3, r4, r5, r6, zH s7 zL7 0, r8, r9])) rfl ?_
    obtain rfl := Option.some.inj H
    exact xB.ret oX12_joint (r1 := some (.int (zI (-2)))) rfl rfl rfl
  · have H := H.2 h3
    refine xB.run oX12_joint 1 (s := (13, [some (.ref 7168), some (.int (zI x)), some (.int (zI y)), some (.int (zI held)), none], [.int (zI y)], [r0, r1, r2, r3, r4, r5, r6, zH s7 zL7 0, r8, r9])) rfl ?_
    obtain ⟨g46, H⟩ := zgd H
    refine zB.opl oX12_joint rfl (zi_i2l g46) ?_
    refine xB.run oX12_joint 2 (s := (18, [some (.ref 7168), some (.int (zI x)), some (.int (zI y)), some (.int (zI held)), none], [.long (zJ 5), .long (zJ 0), .long (zJ y)], [r0, r1, r2, r3, r4, r5, r6, zH s7 zL7 0, r8, r9])) rfl ?_
    obtain ⟨y4, e5, H⟩ := zbd H
    refine xB.call oX12_joint (M2 := MX12_within) rfl rfl ((t_X12_within r0 r1 r2 r3 r4 r5 r6 (zH s7 zL7 0) r8 r9 y 0 5 e5).deep (by decide : 0 ≤ 0)) ?_
    show xBody MX12_joint 1 21 [some (.ref 7168), some (.int (zI x)), some (.int (zI y)), some (.int (zI held)), none] [.int (zI y4)] ([r0, r1, r2, r3, r4, r5, r6, zH s7 zL7 0, r8, r9]) _ _
    obtain ⟨g45, H⟩ := zgd H
    have H := zif H
    refine xB.brE oX12_joint (P := y4 ≠ 0) rfl (zc_ne (a := y4) (b := 0) ⟨g45, by decide⟩) (fun h6 => ?_) (fun h6 => ?_)
    · have H := H.1 h6
      refine xB.run oX12_joint 2 (s := (30, [some (.ref 7168), some (.int (zI x)), some (.int (zI y)), some (.int (zI held)), some (.int (zI 0))], [], [r0, r1, r2, r3, r4, r5, r6, zH s7 zL7 0, r8, r9])) rfl ?_
      obtain ⟨y15, e16, H⟩ := zbd H
      refine l_X12_joint_30 r0 r1 r2 r3 r4 r5 r6 s7 r8 r9 x y held _ 0 e16 ?_
      refine ⟨fun y17 uQ => ?_, fun y18 uQ => ?_⟩
      · subst uQ
        refine xB.run oX12_joint 3 (s := (76, [some (.ref 7168), some (.int (zI x)), some (.int (zI y)), some (.int (zI held)), some (.int (zI y17))], [.int (zI 8), .int (zI (s7 0 20))], [r0, r1, r2, r3, r4, r5, r6, zH s7 zL7 0, r8, r9])) rfl ?_
        obtain ⟨g44, H⟩ := zgd H
        have H := zif H
        refine xB.brE oX12_joint (P := (s7 0 20) = 8) rfl (zc_eq (a := s7 0 20) (b := 8) ⟨g44, by decide⟩) (fun h19 => ?_) (fun h19 => ?_)
        · have H := H.1 h19
          refine xB.run oX12_joint 1 (s := (93, [some (.ref 7168), some (.int (zI x)), some (.int (zI y)), some (.int (zI held)), some (.int (zI y17))], [.int (zI (-4))], [r0, r1, r2, r3, r4, r5, r6, zH s7 zL7 0, r8, r9])) rfl ?_
          obtain rfl := Option.some.inj H
          exact xB.ret oX12_joint (r1 := some (.int (zI (-4)))) rfl rfl rfl
        · have H := H.2 h19
          refine xB.run oX12_joint 1 (s := (80, [some (.ref 7168), some (.int (zI x)), some (.int (zI y)), some (.int (zI held)), some (.int (zI y17))], [.int (zI held)], [r0, r1, r2, r3, r4, r5, r6, zH s7 zL7 0, r8, r9])) rfl ?_
          obtain ⟨g43, H⟩ := zgd H
          have H := zif H
          refine xB.brE oX12_joint (P := held ≠ 0) rfl (zc_ne (a := held) (b := 0) ⟨g43, by decide⟩) (fun h20 => ?_) (fun h20 => ?_)
          · have H := H.1 h20
            refine xB.run oX12_joint 5 (s := (103, [some (.ref 7168), some (.int (zI x)), some (.int (zI y)), some (.int (zI held)), some (.int (zI y17))], [.int (zI x), .int (zI (s7 0 20)), .ref 7182], [r0, r1, r2, r3, r4, r5, r6, zH s7 zL7 0, r8, r9])) rfl ?_
            obtain ⟨g30, H⟩ := zgd H
            refine zB.iast oX12_joint (g := 7) (p := 14) (N := 8) (i := s7 0 20) (hp1 := [r0, r1, r2, r3, r4, r5, r6, zH (upz s7 14 (s7 0 20).toNat x) zL7 0, r8, r9]) rfl rfl (by decide) (by decide) rfl rfl (by decide) g30 rfl ?_
            refine xB.run oX12_joint 5 (s := (113, [some (.ref 7168), some (.int (zI x)), some (.int (zI y)), some (.int (zI held)), some (.int (zI y17))], [.int (zI y), .int (zI ((upz s7 14 (s7 0 20).toNat x) 0 20)), .ref 7183], [r0, r1, r2, r3, r4, r5, r6, zH (upz s7 14 (s7 0 20).toNat x) zL7 0, r8, r9])) rfl ?_
            obtain ⟨g29, H⟩ := zgd H
            refine zB.iast oX12_joint (g := 7) (p := 15) (N := 8) (i := (upz s7 14 (s7 0 20).toNat x) 0 20) (hp1 := [r0, r1, r2, r3, r4, r5, r6, zH (upz (upz s7 14 (s7 0 20).toNat x) 15 ((upz s7 14 (s7 0 20).toNat x) 0 20).toNat y) zL7 0, r8, r9]) rfl rfl (by decide) (by decide) rfl rfl (by decide) g29 rfl ?_
            refine xB.run oX12_joint 5 (s := (123, [some (.ref 7168), some (.int (zI x)), some (.int (zI y)), some (.int (zI held)), some (.int (zI y17))], [.int (zI held), .int (zI ((upz (upz s7 14 (s7 0 20).toNat x) 15 ((upz s7 14 (s7 0 20).toNat x) 0 20).toNat y) 0 20)), .ref 7184], [r0, r1, r2, r3, r4, r5, r6, zH (upz (upz s7 14 (s7 0 20).toNat x) 15 ((upz s7 14 (s7 0 20).toNat x) 0 20).toNat y) zL7 0, r8, r9])) rfl ?_
            obtain ⟨g28, H⟩ := zgd H
            have H := zif H
            refine xB.brE oX12_joint (P := held = 0) rfl (zc_eq (a := held) (b := 0) ⟨g28, by decide⟩) (fun h21 => ?_) (fun h21 => ?_)
            · have H := H.1 h21
              refine xB.run oX12_joint 2 (s := (135, [some (.ref 7168), some (.int (zI x)), some (.int (zI y)), some (.int (zI held)), some (.int (zI y17))], [.int (zI ((upz (upz s7 14 (s7 0 20).toNat x) 15 ((upz s7 14 (s7 0 20).toNat x) 0 20).toNat y) 0 21)), .int (zI ((upz (upz s7 14 (s7 0 20).toNat x) 15 ((upz s7 14 (s7 0 20).toNat x) 0 20).toNat y) 0 20)), .ref 7184], [r0, r1, r2, r3, r4, r5, r6, zH (upz (upz s7 14 (s7 0 20).toNat x) 15 ((upz s7 14 (s7 0 20).toNat x) 0 20).toNat y) zL7 0, r8, r9])) rfl ?_
              obtain ⟨g24, H⟩ := zgd H
              refine zB.iast oX12_joint (g := 7) (p := 16) (N := 8) (i := (upz (upz s7 14 (s7 0 20).toNat x) 15 ((upz s7 14 (s7 0 20).toNat x) 0 20).toNat y) 0 20) (hp1 := [r0, r1, r2, r3, r4, r5, r6, zH (upz (upz (upz s7 14 (s7 0 20).toNat x) 15 ((upz s7 14 (s7 0 20).toNat x) 0 20).toNat y) 16 ((upz (upz s7 14 (s7 0 20).toNat x) 15 ((upz s7 14 (s7 0 20).toNat x) 0 20).toNat y) 0 20).toNat ((upz (upz s7 14 (s7 0 20).toNat x) 15 ((upz s7 14 (s7 0 20).toNat x) 0 20).toNat y) 0 21)) zL7 0, r8, r9]) rfl rfl (by decide) (by decide) rfl rfl (by decide) g24 rfl ?_
              refine xB.run oX12_joint 4 (s := (142, [some (.ref 7168), some (.int (zI x)), some (.int (zI y)), some (.int (zI held)), some (.int (zI y17))], [.int (zI held), .int (zI ((upz (upz (upz s7 14 (s7 0 20).toNat x) 15 ((upz s7 14 (s7 0 20).toNat x) 0 20).toNat y) 16 ((upz (upz s7 14 (s7 0 20).toNat x) 15 ((upz s7 14 (s7 0 20).toNat x) 0 20).toNat y) 0 20).toNat ((upz (upz s7 14 (s7 0 20).toNat x) 15 ((upz s7 14 (s7 0 20).toNat x) 0 20).toNat y) 0 21)) 0 21)), .ref 7168], [r0, r1, r2, r3, r4, r5, r6, zH (upz (upz (upz s7 14 (s7 0 20).toNat x) 15 ((upz s7 14 (s7 0 20).toNat x) 0 20).toNat y) 16 ((upz (upz s7 14 (s7 0 20).toNat x) 15 ((upz s7 14 (s7 0 20).toNat x) 0 20).toNat y) 0 20).toNat ((upz (upz s7 14 (s7 0 20).toNat x) 15 ((upz s7 14 (s7 0 20).toNat x) 0 20).toNat y) 0 21)) zL7 0, r8, r9])) rfl ?_
              obtain ⟨g23, H⟩ := zgd H
              have H := zif H
              refine xB.brE oX12_joint (P := held = 0) rfl (zc_eq (a := held) (b := 0) ⟨g23, by decide⟩) (fun h22 => ?_) (fun h22 => ?_)
              · have H := H.1 h22
                refine xB.run oX12_joint 1 (s := (150, [some (.ref 7168), some (.int (zI x)), some (.int (zI y)), some (.int (zI held)), some (.int (zI y17))], [.int (zI 1), .int (zI ((upz (upz (upz s7 14 (s7 0 20).toNat x) 15 ((upz s7 14 (s7 0 20).toNat x) 0 20).toNat y) 16 ((upz (upz s7 14 (s7 0 20).toNat x) 15 ((upz s7 14 (s7 0 20).toNat x) 0 20).toNat y) 0 20).toNat ((upz (upz s7 14 (s7 0 20).toNat x) 15 ((upz s7 14 (s7 0 20).toNat x) 0 20).toNat y) 0 21)) 0 21)), .ref 7168], [r0, r1, r2, r3, r4, r5, r6, zH (upz (upz (upz s7 14 (s7 0 20).toNat x) 15 ((upz s7 14 (s7 0 20).toNat x) 0 20).toNat y) 16 ((upz (upz s7 14 (s7 0 20).toNat x) 15 ((upz s7 14 (s7 0 20).toNat x) 0 20).toNat y) 0 20).toNat ((upz (upz s7 14 (s7 0 20).toNat x) 15 ((upz s7 14 (s7 0 20).toNat x) 0 20).toNat y) 0 21)) zL7 0, r8, r9])) rfl ?_
                refine zB.opi oX12_joint rfl (zi_add ((upz (upz (upz s7 14 (s7 0 20).toNat x) 15 ((upz s7 14 (s7 0 20).toNat x) 0 20).toNat y) 16 ((upz (upz s7 14 (s7 0 20).toNat x) 15 ((upz s7 14 (s7 0 20).toNat x) 0 20).toNat y) 0 20).toNat ((upz (upz s7 14 (s7 0 20).toNat x) 15 ((upz s7 14 (s7 0 20).toNat x) 0 20).toNat y) 0 21)) 0 21) 1) ?_
                refine zB.putI oX12_joint (g := 7) (p := 0) (c := 12) (k := 21) (y := 0) (hp1 := [r0, r1, r2, r3, r4, r5, r6, zH (upz (upz (upz (upz s7 14 (s7 0 20).toNat x) 15 ((upz s7 14 (s7 0 20).toNat x) 0 20).toNat y) 16 ((upz (upz s7 14 (s7 0 20).toNat x) 15 ((upz s7 14 (s7 0 20).toNat x) 0 20).toNat y) 0 20).toNat ((upz (upz s7 14 (s7 0 20).toNat x) 15 ((upz s7 14 (s7 0 20).toNat x) 0 20).toNat y) 0 21)) 0 21 (((upz (upz (upz s7 14 (s7 0 20).toNat x) 15 ((upz s7 14 (s7 0 20).toNat x) 0 20).toNat y) 16 ((upz (upz s7 14 (s7 0 20).toNat x) 15 ((upz s7 14 (s7 0 20).toNat x) 0 20).toNat y) 0 20).toNat ((upz (upz s7 14 (s7 0 20).toNat x) 15 ((upz s7 14 (s7 0 20).toNat x) 0 20).toNat y) 0 21)) 0 21) + 1)) zL7 0, r8, r9]) rfl rfl (by decide) (by decide) rfl rfl rfl rfl rfl rfl ?_
                refine xB.run oX12_joint 4 (s := (160, [some (.ref 7168), some (.int (zI x)), some (.int (zI y)), some (.int (zI held)), some (.int (zI y17))], [.int (zI 1), .int (zI ((upz (upz (upz (upz s7 14 (s7 0 20).toNat x) 15 ((upz s7 14 (s7 0 20).toNat x) 0 20).toNat y) 16 ((upz (upz s7 14 (s7 0 20).toNat x) 15 ((upz s7 14 (s7 0 20).toNat x) 0 20).toNat y) 0 20).toNat ((upz (upz s7 14 (s7 0 20).toNat x) 15 ((upz s7 14 (s7 0 20).toNat x) 0 20).toNat y) 0 21)) 0 21 (((upz (upz (upz s7 14 (s7 0 20).toNat x) 15 ((upz s7 14 (s7 0 20).toNat x) 0 20).toNat y) 16 ((upz (upz s7 14 (s7 0 20).toNat x) 15 ((upz s7 14 (s7 0 20).toNat x) 0 20).toNat y) 0 20).toNat ((upz (upz s7 14 (s7 0 20).toNat x) 15 ((upz s7 14 (s7 0 20).toNat x) 0 20).toNat y) 0 21)) 0 21) + 1)) 0 20)), .ref 7168], [r0, r1, r2, r3, r4, r5, r6, zH (upz (upz (upz (upz s7 14 (s7 0 20).toNat x) 15 ((upz s7 14 (s7 0 20).toNat x) 0 20).toNat y) 16 ((upz (upz s7 14 (s7 0 20).toNat x) 15 ((upz s7 14 (s7 0 20).toNat x) 0 20).toNat y) 0 20).toNat ((upz (upz s7 14 (s7 0 20).toNat x) 15 ((upz s7 14 (s7 0 20).toNat x) 0 20).toNat y) 0 21)) 0 21 (((upz (upz (upz s7 14 (s7 0 20).toNat x) 15 ((upz s7 14 (s7 0 20).toNat x) 0 20).toNat y) 16 ((upz (upz s7 14 (s7 0 20).toNat x) 15 ((upz s7 14 (s7 0 20).toNat x) 0 20).toNat y) 0 20).toNat ((upz (upz s7 14 (s7 0 20).toNat x) 15 ((upz s7 14 (s7 0 20).toNat x) 0 20).toNat y) 0 21)) 0 21) + 1)) zL7 0, r8, r9])) rfl ?_
                refine zB.opi oX12_joint rfl (zi_add ((upz (upz (upz (upz s7 14 (s7 0 20).toNat x) 15 ((upz s7 14 (s7 0 20).toNat x) 0 20).toNat y) 16 ((upz (upz s7 14 (s7 0 20).toNat x) 15 ((upz s7 14 (s7 0 20).toNat x) 0 20).toNat y) 0 20).toNat ((upz (upz s7 14 (s7 0 20).toNat x) 15 ((upz s7 14 (s7 0 20).toNat x) 0 20).toNat y) 0 21)) 0 21 (((upz (upz (upz s7 14 (s7 0 20).toNat x) 15 ((upz s7 14 (s7 0 20).toNat x) 0 20).toNat y) 16 ((upz (upz s7 14 (s7 0 20).toNat x) 15 ((upz s7 14 (s7 0 20).toNat x) 0 20).toNat y) 0 20).toNat ((upz (upz s7 14 (s7 0 20).toNat x) 15 ((upz s7 14 (s7 0 20).toNat x) 0 20).toNat y) 0 21)) 0 21) + 1)) 0 20) 1) ?_
                refine zB.putI oX12_joint (g := 7) (p := 0) (c := 12) (k := 20) (y := 0) (hp1 := [r0, r1, r2, r3, r4, r5, r6, zH (upz (upz (upz (upz (upz s7 14 (s7 0 20).toNat x) 15 ((upz s7 14 (s7 0 20).toNat x) 0 20).toNat y) 16 ((upz (upz s7 14 (s7 0 20).toNat x) 15 ((upz s7 14 (s7 0 20).toNat x) 0 20).toNat y) 0 20).toNat ((upz (upz s7 14 (s7 0 20).toNat x) 15 ((upz s7 14 (s7 0 20).toNat x) 0 20).toNat y) 0 21)) 0 21 (((upz (upz (upz s7 14 (s7 0 20).toNat x) 15 ((upz s7 14 (s7 0 20).toNat x) 0 20).toNat y) 16 ((upz (upz s7 14 (s7 0 20).toNat x) 15 ((upz s7 14 (s7 0 20).toNat x) 0 20).toNat y) 0 20).toNat ((upz (upz s7 14 (s7 0 20).toNat x) 15 ((upz s7 14 (s7 0 20).toNat x) 0 20).toNat y) 0 21)) 0 21) + 1)) 0 20 (((upz (upz (upz (upz s7 14 (s7 0 20).toNat x) 15 ((upz s7 14 (s7 0 20).toNat x) 0 20).toNat y) 16 ((upz (upz s7 14 (s7 0 20).toNat x) 15 ((upz s7 14 (s7 0 20).toNat x) 0 20).toNat y) 0 20).toNat ((upz (upz s7 14 (s7 0 20).toNat x) 15 ((upz s7 14 (s7 0 20).toNat x) 0 20).toNat y) 0 21)) 0 21 (((upz (upz (upz s7 14 (s7 0 20).toNat x) 15 ((upz s7 14 (s7 0 20).toNat x) 0 20).toNat y) 16 ((upz (upz s7 14 (s7 0 20).toNat x) 15 ((upz s7 14 (s7 0 20).toNat x) 0 20).toNat y) 0 20).toNat ((upz (upz s7 14 (s7 0 20).toNat x) 15 ((upz s7 14 (s7 0 20).toNat x) 0 20).toNat y) 0 21)) 0 21) + 1)) 0 20) + 1)) zL7 0, r8, r9]) rfl rfl (by decide) (by decide) rfl rfl rfl rfl rfl rfl ?_
                refine xB.run oX12_joint 3 (s := (169, [some (.ref 7168), some (.int (zI x)), some (.int (zI y)), some (.int (zI held)), some (.int (zI y17))], [.int (zI 1), .int (zI ((upz (upz (upz (upz (upz s7 14 (s7 0 20).toNat x) 15 ((upz s7 14 (s7 0 20).toNat x) 0 20).toNat y) 16 ((upz (upz s7 14 (s7 0 20).toNat x) 15 ((upz s7 14 (s7 0 20).toNat x) 0 20).toNat y) 0 20).toNat ((upz (upz s7 14 (s7 0 20).toNat x) 15 ((upz s7 14 (s7 0 20).toNat x) 0 20).toNat y) 0 21)) 0 21 (((upz (upz (upz s7 14 (s7 0 20).toNat x) 15 ((upz s7 14 (s7 0 20).toNat x) 0 20).toNat y) 16 ((upz (upz s7 14 (s7 0 20).toNat x) 15 ((upz s7 14 (s7 0 20).toNat x) 0 20).toNat y) 0 20).toNat ((upz (upz s7 14 (s7 0 20).toNat x) 15 ((upz s7 14 (s7 0 20).toNat x) 0 20).toNat y) 0 21)) 0 21) + 1)) 0 20 (((upz (upz (upz (upz s7 14 (s7 0 20).toNat x) 15 ((upz s7 14 (s7 0 20).toNat x) 0 20).toNat y) 16 ((upz (upz s7 14 (s7 0 20).toNat x) 15 ((upz s7 14 (s7 0 20).toNat x) 0 20).toNat y) 0 20).toNat ((upz (upz s7 14 (s7 0 20).toNat x) 15 ((upz s7 14 (s7 0 20).toNat x) 0 20).toNat y) 0 21)) 0 21 (((upz (upz (upz s7 14 (s7 0 20).toNat x) 15 ((upz s7 14 (s7 0 20).toNat x) 0 20).toNat y) 16 ((upz (upz s7 14 (s7 0 20).toNat x) 15 ((upz s7 14 (s7 0 20).toNat x) 0 20).toNat y) 0 20).toNat ((upz (upz s7 14 (s7 0 20).toNat x) 15 ((upz s7 14 (s7 0 20).toNat x) 0 20).toNat y) 0 21)) 0 21) + 1)) 0 20) + 1)) 0 20))], [r0, r1, r2, r3, r4, r5, r6, zH (upz (upz (upz (upz (upz s7 14 (s7 0 20).toNat x) 15 ((upz s7 14 (s7 0 20).toNat x) 0 20).toNat y) 16 ((upz (upz s7 14 (s7 0 20).toNat x) 15 ((upz s7 14 (s7 0 20).toNat x) 0 20).toNat y) 0 20).toNat ((upz (upz s7 14 (s7 0 20).toNat x) 15 ((upz s7 14 (s7 0 20).toNat x) 0 20).toNat y) 0 21)) 0 21 (((upz (upz (upz s7 14 (s7 0 20).toNat x) 15 ((upz s7 14 (s7 0 20).toNat x) 0 20).toNat y) 16 ((upz (upz s7 14 (s7 0 20).toNat x) 15 ((upz s7 14 (s7 0 20).toNat x) 0 20).toNat y) 0 20).toNat ((upz (upz s7 14 (s7 0 20).toNat x) 15 ((upz s7 14 (s7 0 20).toNat x) 0 20).toNat y) 0 21)) 0 21) + 1)) 0 20 (((upz (upz (upz (upz s7 14 (s7 0 20).toNat x) 15 ((upz s7 14 (s7 0 20).toNat x) 0 20).toNat y) 16 ((upz (upz s7 14 (s7 0 20).toNat x) 15 ((upz s7 14 (s7 0 20).toNat x) 0 20).toNat y) 0 20).toNat ((upz (upz s7 14 (s7 0 20).toNat x) 15 ((upz s7 14 (s7 0 20).toNat x) 0 20).toNat y) 0 21)) 0 21 (((upz (upz (upz s7 14 (s7 0 20).toNat x) 15 ((upz s7 14 (s7 0 20).toNat x) 0 20).toNat y) 16 ((upz (upz s7 14 (s7 0 20).toNat x) 15 ((upz s7 14 (s7 0 20).toNat x) 0 20).toNat y) 0 20).toNat ((upz (upz s7 14 (s7 0 20).toNat x) 15 ((upz s7 14 (s7 0 20).toNat x) 0 20).toNat y) 0 21)) 0 21) + 1)) 0 20) + 1)) zL7 0, r8, r9])) rfl ?_
                refine zB.opi oX12_joint rfl (zi_sub ((upz (upz (upz (upz (upz s7 14 (s7 0 20).toNat x) 15 ((upz s7 14 (s7 0 20).toNat x) 0 20).toNat y) 16 ((upz (upz s7 14 (s7 0 20).toNat x) 15 ((upz s7 14 (s7 0 20).toNat x) 0 20).toNat y) 0 20).toNat ((upz (upz s7 14 (s7 0 20).toNat x) 15 ((upz s7 14 (s7 0 20).toNat x) 0 20).toNat y) 0 21)) 0 21 (((upz (upz (upz s7 14 (s7 0 20).toNat x) 15 ((upz s7 14 (s7 0 20).toNat x) 0 20).toNat y) 16 ((upz (upz s7 14 (s7 0 20).toNat x) 15 ((upz s7 14 (s7 0 20).toNat x) 0 20).toNat y) 0 20).toNat ((upz (upz s7 14 (s7 0 20).toNat x) 15 ((upz s7 14 (s7 0 20).toNat x) 0 20).toNat y) 0 21)) 0 21) + 1)) 0 20 (((upz (upz (upz (upz s7 14 (s7 0 20).toNat x) 15 ((upz s7 14 (s7 0 20).toNat x) 0 20).toNat y) 16 ((upz (upz s7 14 (s7 0 20).toNat x) 15 ((upz s7 14 (s7 0 20).toNat x) 0 20).toNat y) 0 20).toNat ((upz (upz s7 14 (s7 0 20).toNat x) 15 ((upz s7 14 (s7 0 20).toNat x) 0 20).toNat y) 0 21)) 0 21 (((upz (upz (upz s7 14 (s7 0 20).toNat x) 15 ((upz s7 14 (s7 0 20).toNat x) 0 20).toNat y) 16 ((upz (upz s7 14 (s7 0 20).toNat x) 15 ((upz s7 14 (s7 0 20).toNat x) 0 20).toNat y) 0 20).toNat ((upz (upz s7 14 (s7 0 20).toNat x) 15 ((upz s7 14 (s7 0 20).toNat x) 0 20).toNat y) 0 21)) 0 21) + 1)) 0 20) + 1)) 0 20) 1) ?_
                obtain rfl := Option.some.inj H
                exact xB.ret oX12_joint (r1 := some (.int (zI (((upz (upz (upz (upz (upz s7 14 (s7 0 20).toNat x) 15 ((upz s7 14 (s7 0 20).toNat x) 0 20).toNat y) 16 ((upz (upz s7 14 (s7 0 20).toNat x) 15 ((upz s7 14 (s7 0 20).toNat x) 0 20).toNat y) 0 20).toNat ((upz (upz s7 14 (s7 0 20).toNat x) 15 ((upz s7 14 (s7 0 20).toNat x) 0 20).toNat y) 0 21)) 0 21 (((upz (upz (upz s7 14 (s7 0 20).toNat x) 15 ((upz s7 14 (s7 0 20).toNat x) 0 20).toNat y) 16 ((upz (upz s7 14 (s7 0 20).toNat x) 15 ((upz s7 14 (s7 0 20).toNat x) 0 20).toNat y) 0 20).toNat ((upz (upz s7 14 (s7 0 20).toNat x) 15 ((upz s7 14 (s7 0 20).toNat x) 0 20).toNat y) 0 21)) 0 21) + 1)) 0 20 (((upz (upz (upz (upz s7 14 (s7 0 20).toNat x) 15 ((upz s7 14 (s7 0 20).toNat x) 0 20).toNat y) 16 ((upz (upz s7 14 (s7 0 20).toNat x) 15 ((upz s7 14 (s7 0 20).toNat x) 0 20).toNat y) 0 20).toNat ((upz (upz s7 14 (s7 0 20).toNat x) 15 ((upz s7 14 (s7 0 20).toNat x) 0 20).toNat y) 0 21)) 0 21 (((upz (upz (upz s7 14 (s7 0 20).toNat x) 15 ((upz s7 14 (s7 0 20).toNat x) 0 20).toNat y) 16 ((upz (upz s7 14 (s7 0 20).toNat x) 15 ((upz s7 14 (s7 0 20).toNat x) 0 20).toNat y) 0 20).toNat ((upz (upz s7 14 (s7 0 20).toNat x) 15 ((upz s7 14 (s7 0 20).toNat x) 0 20).toNat y) 0 21)) 0 21) + 1)) 0 20) + 1)) 0 20) - 1)))) rfl rfl rfl
              · have H := H.2 h22
                refine xB.run oX12_joint 2 (s := (150, [some (.ref 7168), some (.int (zI x)), some (.int (zI y)), some (.int (zI held)), some (.int (zI y17))], [.int (zI 0), .int (zI ((upz (upz (upz s7 14 (s7 0 20).toNat x) 15 ((upz s7 14 (s7 0 20).toNat x) 0 20).toNat y) 16 ((upz (upz s7 14 (s7 0 20).toNat x) 15 ((upz s7 14 (s7 0 20).toNat x) 0 20).toNat y) 0 20).toNat ((upz (upz s7 14 (s7 0 20).toNat x) 15 ((upz s7 14 (s7 0 20).toNat x) 0 20).toNat y) 0 21)) 0 21)), .ref 7168], [r0, r1, r2, r3, r4, r5, r6, zH (upz (upz (upz s7 14 (s7 0 20).toNat x) 15 ((upz s7 14 (s7 0 20).toNat x) 0 20).toNat y) 16 ((upz (upz s7 14 (s7 0 20).toNat x) 15 ((upz s7 14 (s7 0 20).toNat x) 0 20).toNat y) 0 20).toNat ((upz (upz s7 14 (s7 0 20).toNat x) 15 ((upz s7 14 (s7 0 20).toNat x) 0 20).toNat y) 0 21)) zL7 0, r8, r9])) rfl ?_
                refine zB.opi oX12_joint rfl (zi_add ((upz (upz (upz s7 14 (s7 0 20).toNat x) 15 ((upz s7 14 (s7 0 20).toNat x) 0 20).toNat y) 16 ((upz (upz s7 14 (s7 0 20).toNat x) 15 ((upz s7 14 (s7 0 20).toNat x) 0 20).toNat y) 0 20).toNat ((upz (upz s7 14 (s7 0 20).toNat x) 15 ((upz s7 14 (s7 0 20).toNat x) 0 20).toNat y) 0 21)) 0 21) 0) ?_
                refine zB.putI oX12_joint (g := 7) (p := 0) (c := 12) (k := 21) (y := 0) (hp1 := [r0, r1, r2, r3, r4, r5, r6, zH (upz (upz (upz (upz s7 14 (s7 0 20).toNat x) 15 ((upz s7 14 (s7 0 20).toNat x) 0 20).toNat y) 16 ((upz (upz s7 14 (s7 0 20).toNat x) 15 ((upz s7 14 (s7 0 20).toNat x) 0 20).toNat y) 0 20).toNat ((upz (upz s7 14 (s7 0 20).toNat x) 15 ((upz s7 14 (s7 0 20).toNat x) 0 20).toNat y) 0 21)) 0 21 (((upz (upz (upz s7 14 (s7 0 20).toNat x) 15 ((upz s7 14 (s7 0 20).toNat x) 0 20).toNat y) 16 ((upz (upz s7 14 (s7 0 20).toNat x) 15 ((upz s7 14 (s7 0 20).toNat x) 0 20).toNat y) 0 20).toNat ((upz (upz s7 14 (s7 0 20).toNat x) 15 ((upz s7 14 (s7 0 20).toNat x) 0 20).toNat y) 0 21)) 0 21) + 0)) zL7 0, r8, r9]) rfl rfl (by decide) (by decide) rfl rfl rfl rfl rfl rfl ?_
                refine xB.run oX12_joint 4 (s := (160, [some (.ref 7168), some (.int (zI x)), some (.int (zI y)), some (.int (zI held)), some (.int (zI y17))], [.int (zI 1), .int (zI ((upz (upz (upz (upz s7 14 (s7 0 20).toNat x) 15 ((upz s7 14 (s7 0 20).toNat x) 0 20).toNat y) 16 ((upz (upz s7 14 (s7 0 20).toNat x) 15 ((upz s7 14 (s7 0 20).toNat x) 0 20).toNat y) 0 20).toNat ((upz (upz s7 14 (s7 0 20).toNat x) 15 ((upz s7 14 (s7 0 20).toNat x) 0 20).toNat y) 0 21)) 0 21 (((upz (upz (upz s7 14 (s7 0 20).toNat x) 15 ((upz s7 14 (s7 0 20).toNat x) 0 20).toNat y) 16 ((upz (upz s7 14 (s7 0 20).toNat x) 15 ((upz s7 14 (s7 0 20).toNat x) 0 20).toNat y) 0 20).toNat ((upz (upz s7 14 (s7 0 20).toNat x) 15 ((upz s7 14 (s7 0 20).toNat x) 0 20).toNat y) 0 21)) 0 21) + 0)) 0 20)), .ref 7168], [r0, r1, r2, r3, r4, r5, r6, zH (upz (upz (upz (upz s7 14 (s7 0 20).toNat x) 15 ((upz s7 14 (s7 0 20).toNat x) 0 20).toNat y) 16 ((upz (upz s7 14 (s7 0 20).toNat x) 15 ((upz s7 14 (s7 0 20).toNat x) 0 20).toNat y) 0 20).toNat ((upz (upz s7 14 (s7 0 20).toNat x) 15 ((upz s7 14 (s7 0 20).toNat x) 0 20).toNat y) 0 21)) 0 21 (((upz (upz (upz s7 14 (s7 0 20).toNat x) 15 ((upz s7 14 (s7 0 20).toNat x) 0 20).toNat y) 16 ((upz (upz s7 14 (s7 0 20).toNat x) 15 ((upz s7 14 (s7 0 20).toNat x) 0 20).toNat y) 0 20).toNat ((upz (upz s7 14 (s7 0 20).toNat x) 15 ((upz s7 14 (s7 0 20).toNat x) 0 20).toNat y) 0 21)) 0 21) + 0)) zL7 0, r8, r9])) rfl ?_
                refine zB.opi oX12_joint rfl (zi_add ((upz (upz (upz (upz s7 14 (s7 0 20).toNat x) 15 ((upz s7 14 (s7 0 20).toNat x) 0 20).toNat y) 16 ((upz (upz s7 14 (s7 0 20).toNat x) 15 ((upz s7 14 (s7 0 20).toNat x) 0 20).toNat y) 0 20).toNat ((upz (upz s7 14 (s7 0 20).toNat x) 15 ((upz s7 14 (s7 0 20).toNat x) 0 20).toNat y) 0 21)) 0 21 (((upz (upz (upz s7 14 (s7 0 20).toNat x) 15 ((upz s7 14 (s7 0 20).toNat x) 0 20).toNat y) 16 ((upz (upz s7 14 (s7 0 20).toNat x) 15 ((upz s7 14 (s7 0 20).toNat x) 0 20).toNat y) 0 20).toNat ((upz (upz s7 14 (s7 0 20).toNat x) 15 ((upz s7 14 (s7 0 20).toNat x) 0 20).toNat y) 0 21)) 0 21) + 0)) 0 20) 1) ?_
                refine zB.putI oX12_joint (g := 7) (p := 0) (c := 12) (k := 20) (y := 0) (hp1 := [r0, r1, r2, r3, r4, r5, r6, zH (upz (upz (upz (upz (upz s7 14 (s7 0 20).toNat x) 15 ((upz s7 14 (s7 0 20).toNat x) 0 20).toNat y) 16 ((upz (upz s7 14 (s7 0 20).toNat x) 15 ((upz s7 14 (s7 0 20).toNat x) 0 20).toNat y) 0 20).toNat ((upz (upz s7 14 (s7 0 20).toNat x) 15 ((upz s7 14 (s7 0 20).toNat x) 0 20).toNat y) 0 21)) 0 21 (((upz (upz (upz s7 14 (s7 0 20).toNat x) 15 ((upz s7 14 (s7 0 20).toNat x) 0 20).toNat y) 16 ((upz (upz s7 14 (s7 0 20).toNat x) 15 ((upz s7 14 (s7 0 20).toNat x) 0 20).toNat y) 0 20).toNat ((upz (upz s7 14 (s7 0 20).toNat x) 15 ((upz s7 14 (s7 0 20).toNat x) 0 20).toNat y) 0 21)) 0 21) + 0)) 0 20 (((upz (upz (upz (upz s7 14 (s7 0 20).toNat x) 15 ((upz s7 14 (s7 0 20).toNat x) 0 20).toNat y) 16 ((upz (upz s7 14 (s7 0 20).toNat x) 15 ((upz s7 14 (s7 0 20).toNat x) 0 20).toNat y) 0 20).toNat ((upz (upz s7 14 (s7 0 20).toNat x) 15 ((upz s7 14 (s7 0 20).toNat x) 0 20).toNat y) 0 21)) 0 21 (((upz (upz (upz s7 14 (s7 0 20).toNat x) 15 ((upz s7 14 (s7 0 20).toNat x) 0 20).toNat y) 16 ((upz (upz s7 14 (s7 0 20).toNat x) 15 ((upz s7 14 (s7 0 20).toNat x) 0 20).toNat y) 0 20).toNat ((upz (upz s7 14 (s7 0 20).toNat x) 15 ((upz s7 14 (s7 0 20).toNat x) 0 20).toNat y) 0 21)) 0 21) + 0)) 0 20) + 1)) zL7 0, r8, r9]) rfl rfl (by decide) (by decide) rfl rfl rfl rfl rfl rfl ?_
                refine xB.run oX12_joint 3 (s := (169, [some (.ref 7168), some (.int (zI x)), some (.int (zI y)), some (.int (zI held)), some (.int (zI y17))], [.int (zI 1), .int (zI ((upz (upz (upz (upz (upz s7 14 (s7 0 20).toNat x) 15 ((upz s7 14 (s7 0 20).toNat x) 0 20).toNat y) 16 ((upz (upz s7 14 (s7 0 20).toNat x) 15 ((upz s7 14 (s7 0 20).toNat x) 0 20).toNat y) 0 20).toNat ((upz (upz s7 14 (s7 0 20).toNat x) 15 ((upz s7 14 (s7 0 20).toNat x) 0 20).toNat y) 0 21)) 0 21 (((upz (upz (upz s7 14 (s7 0 20).toNat x) 15 ((upz s7 14 (s7 0 20).toNat x) 0 20).toNat y) 16 ((upz (upz s7 14 (s7 0 20).toNat x) 15 ((upz s7 14 (s7 0 20).toNat x) 0 20).toNat y) 0 20).toNat ((upz (upz s7 14 (s7 0 20).toNat x) 15 ((upz s7 14 (s7 0 20).toNat x) 0 20).toNat y) 0 21)) 0 21) + 0)) 0 20 (((upz (upz (upz (upz s7 14 (s7 0 20).toNat x) 15 ((upz s7 14 (s7 0 20).toNat x) 0 20).toNat y) 16 ((upz (upz s7 14 (s7 0 20).toNat x) 15 ((upz s7 14 (s7 0 20).toNat x) 0 20).toNat y) 0 20).toNat ((upz (upz s7 14 (s7 0 20).toNat x) 15 ((upz s7 14 (s7 0 20).toNat x) 0 20).toNat y) 0 21)) 0 21 (((upz (upz (upz s7 14 (s7 0 20).toNat x) 15 ((upz s7 14 (s7 0 20).toNat x) 0 20).toNat y) 16 ((upz (upz s7 14 (s7 0 20).toNat x) 15 ((upz s7 14 (s7 0 20).toNat x) 0 20).toNat y) 0 20).toNat ((upz (upz s7 14 (s7 0 20).toNat x) 15 ((upz s7 14 (s7 0 20).toNat x) 0 20).toNat y) 0 21)) 0 21) + 0)) 0 20) + 1)) 0 20))], [r0, r1, r2, r3, r4, r5, r6, zH (upz (upz (upz (upz (upz s7 14 (s7 0 20).toNat x) 15 ((upz s7 14 (s7 0 20).toNat x) 0 20).toNat y) 16 ((upz (upz s7 14 (s7 0 20).toNat x) 15 ((upz s7 14 (s7 0 20).toNat x) 0 20).toNat y) 0 20).toNat ((upz (upz s7 14 (s7 0 20).toNat x) 15 ((upz s7 14 (s7 0 20).toNat x) 0 20).toNat y) 0 21)) 0 21 (((upz (upz (upz s7 14 (s7 0 20).toNat x) 15 ((upz s7 14 (s7 0 20).toNat x) 0 20).toNat y) 16 ((upz (upz s7 14 (s7 0 20).toNat x) 15 ((upz s7 14 (s7 0 20).toNat x) 0 20).toNat y) 0 20).toNat ((upz (upz s7 14 (s7 0 20).toNat x) 15 ((upz s7 14 (s7 0 20).toNat x) 0 20).toNat y) 0 21)) 0 21) + 0)) 0 20 (((upz (upz (upz (upz s7 14 (s7 0 20).toNat x) 15 ((upz s7 14 (s7 0 20).toNat x) 0 20).toNat y) 16 ((upz (upz s7 14 (s7 0 20).toNat x) 15 ((upz s7 14 (s7 0 20).toNat x) 0 20).toNat y) 0 20).toNat ((upz (upz s7 14 (s7 0 20).toNat x) 15 ((upz s7 14 (s7 0 20).toNat x) 0 20).toNat y) 0 21)) 0 21 (((upz (upz (upz s7 14 (s7 0 20).toNat x) 15 ((upz s7 14 (s7 0 20).toNat x) 0 20).toNat y) 16 ((upz (upz s7 14 (s7 0 20).toNat x) 15 ((upz s7 14 (s7 0 20).toNat x) 0 20).toNat y) 0 20).toNat ((upz (upz s7 14 (s7 0 20).toNat x) 15 ((upz s7 14 (s7 0 20).toNat x) 0 20).toNat y) 0 21)) 0 21) + 0)) 0 20) + 1)) zL7 0, r8, r9])) rfl ?_
                refine zB.opi oX12_joint rfl (zi_sub ((upz (upz (upz (upz (upz s7 14 (s7 0 20).toNat x) 15 ((upz s7 14 (s7 0 20).toNat x) 0 20).toNat y) 16 ((upz (upz s7 14 (s7 0 20).toNat x) 15 ((upz s7 14 (s7 0 20).toNat x) 0 20).toNat y) 0 20).toNat ((upz (upz s7 14 (s7 0 20).toNat x) 15 ((upz s7 14 (s7 0 20).toNat x) 0 20).toNat y) 0 21)) 0 21 (((upz (upz (upz s7 14 (s7 0 20).toNat x) 15 ((upz s7 14 (s7 0 20).toNat x) 0 20).toNat y) 16 ((upz (upz s7 14 (s7 0 20).toNat x) 15 ((upz s7 14 (s7 0 20).toNat x) 0 20).toNat y) 0 20).toNat ((upz (upz s7 14 (s7 0 20).toNat x) 15 ((upz s7 14 (s7 0 20).toNat x) 0 20).toNat y) 0 21)) 0 21) + 0)) 0 20 (((upz (upz (upz (upz s7 14 (s7 0 20).toNat x) 15 ((upz s7 14 (s7 0 20).toNat x) 0 20).toNat y) 16 ((upz (upz s7 14 (s7 0 20).toNat x) 15 ((upz s7 14 (s7 0 20).toNat x) 0 20).toNat y) 0 20).toNat ((upz (upz s7 14 (s7 0 20).toNat x) 15 ((upz s7 14 (s7 0 20).toNat x) 0 20).toNat y) 0 21)) 0 21 (((upz (upz (upz s7 14 (s7 0 20).toNat x) 15 ((upz s7 14 (s7 0 20).toNat x) 0 20).toNat y) 16 ((upz (upz s7 14 (s7 0 20).toNat x) 15 ((upz s7 14 (s7 0 20).toNat x) 0 20).toNat y) 0 20).toNat ((upz (upz s7 14 (s7 0 20).toNat x) 15 ((upz s7 14 (s7 0 20).toNat x) 0 20).toNat y) 0 21)) 0 21) + 0)) 0 20) + 1)) 0 20) 1) ?_
                obtain rfl := Option.some.inj H
                exact xB.ret oX12_joint (r1 := some (.int (zI (((upz (upz (upz (upz (upz s7 14 (s7 0 20).toNat x) 15 ((upz s7 14 (s7 0 20).toNat x) 0 20).toNat y) 16 ((upz (upz s7 14 (s7 0 20).toNat x) 15 ((upz s7 14 (s7 0 20).toNat x) 0 20).toNat y) 0 20).toNat ((upz (upz s7 14 (s7 0 20).toNat x) 15 ((upz s7 14 (s7 0 20).toNat x) 0 20).toNat y) 0 21)) 0 21 (((upz (upz (upz s7 14 (s7 0 20).toNat x) 15 ((upz s7 14 (s7 0 20).toNat x) 0 20).toNat y) 16 ((upz (upz s7 14 (s7 0 20).toNat x) 15 ((upz s7 14 (s7 0 20).toNat x) 0 20).toNat y) 0 20).toNat ((upz (upz s7 14 (s7 0 20).toNat x) 15 ((upz s7 14 (s7 0 20).toNat x) 0 20).toNat y) 0 21)) 0 21) + 0)) 0 20 (((upz (upz (upz (upz s7 14 (s7 0 20).toNat x) 15 ((upz s7 14 (s7 0 20).toNat x) 0 20).toNat y) 16 ((upz (upz s7 14 (s7 0 20).toNat x) 15 ((upz s7 14 (s7 0 20).toNat x) 0 20).toNat y) 0 20).toNat ((upz (upz s7 14 (s7 0 20).toNat x) 15 ((upz s7 14 (s7 0 20).toNat x) 0 20).toNat y) 0 21)) 0 21 (((upz (upz (upz s7 14 (s7 0 20).toNat x) 15 ((upz s7 14 (s7 0 20).toNat x) 0 20).toNat y) 16 ((upz (upz s7 14 (s7 0 20).toNat x) 15 ((upz s7 14 (s7 0 20).toNat x) 0 20).toNat y) 0 20).toNat ((upz (upz s7 14 (s7 0 20).toNat x) 15 ((upz s7 14 (s7 0 20).toNat x) 0 20).toNat y) 0 21)) 0 21) + 0)) 0 20) + 1)) 0 20) - 1)))) rfl rfl rfl
            · have H := H.2 h21
              refine xB.run oX12_joint 2 (s := (135, [some (.ref 7168), some (.int (zI x)), some (.int (zI y)), some (.int (zI held)), some (.int (zI y17))], [.int (zI (-9)), .int (zI ((upz (upz s7 14 (s7 0 20).toNat x) 15 ((upz s7 14 (s7 0 20).toNat x) 0 20).toNat y) 0 20)), .ref 7184], [r0, r1, r2, r3, r4, r5, r6, zH (upz (upz s7 14 (s7 0 20).toNat x) 15 ((upz s7 14 (s7 0 20).toNat x) 0 20).toNat y) zL7 0, r8, r9])) rfl ?_
              obtain ⟨g27, H⟩ := zgd H
              refine zB.iast oX12_joint (g := 7) (p := 16) (N := 8) (i := (upz (upz s7 14 (s7 0 20).toNat x) 15 ((upz s7 14 (s7 0 20).toNat x) 0 20).toNat y) 0 20) (hp1 := [r0, r1, r2, r3, r4, r5, r6, zH (upz (upz (upz s7 14 (s7 0 20).toNat x) 15 ((upz s7 14 (s7 0 20).toNat x) 0 20).toNat y) 16 ((upz (upz s7 14 (s7 0 20).toNat x) 15 ((upz s7 14 (s7 0 20).toNat x) 0 20).toNat y) 0 20).toNat (-9)) zL7 0, r8, r9]) rfl rfl (by decide) (by decide) rfl rfl (by decide) g27 rfl ?_
              refine xB.run oX12_joint 4 (s := (142, [some (.ref 7168), some (.int (zI x)), some (.int (zI y)), some (.int (zI held)), some (.int (zI y17))], [.int (zI held), .int (zI ((upz (upz (upz s7 14 (s7 0 20).toNat x) 15 ((upz s7 14 (s7 0 20).toNat x) 0 20).toNat y) 16 ((upz (upz s7 14 (s7 0 20).toNat x) 15 ((upz s7 14 (s7 0 20).toNat x) 0 20).toNat y) 0 20).toNat (-9)) 0 21)), .ref 7168], [r0, r1, r2, r3, r4, r5, r6, zH (upz (upz (upz s7 14 (s7 0 20).toNat x) 15 ((upz s7 14 (s7 0 20).toNat x) 0 20).toNat y) 16 ((upz (upz s7 14 (s7 0 20).toNat x) 15 ((upz s7 14 (s7 0 20).toNat x) 0 20).toNat y) 0 20).toNat (-9)) zL7 0, r8, r9])) rfl ?_
              obtain ⟨g26, H⟩ := zgd H
              have H := zif H
              refine xB.brE oX12_joint (P := held = 0) rfl (zc_eq (a := held) (b := 0) ⟨g26, by decide⟩) (fun h25 => ?_) (fun h25 => ?_)
              · have H := H.1 h25
                refine xB.run oX12_joint 1 (s := (150, [some (.ref 7168), some (.int (zI x)), some (.int (zI y)), some (.int (zI held)), some (.int (zI y17))], [.int (zI 1), .int (zI ((upz (upz (upz s7 14 (s7 0 20).toNat x) 15 ((upz s7 14 (s7 0 20).toNat x) 0 20).toNat y) 16 ((upz (upz s7 14 (s7 0 20).toNat x) 15 ((upz s7 14 (s7 0 20).toNat x) 0 20).toNat y) 0 20).toNat (-9)) 0 21)), .ref 7168], [r0, r1, r2, r3, r4, r5, r6, zH (upz (upz (upz s7 14 (s7 0 20).toNat x) 15 ((upz s7 14 (s7 0 20).toNat x) 0 20).toNat y) 16 ((upz (upz s7 14 (s7 0 20).toNat x) 15 ((upz s7 14 (s7 0 20).toNat x) 0 20).toNat y) 0 20).toNat (-9)) zL7 0, r8, r9])) rfl ?_
                refine zB.opi oX12_joint rfl (zi_add ((upz (upz (upz s7 14 (s7 0 20).toNat x) 15 ((upz s7 14 (s7 0 20).toNat x) 0 20).toNat y) 16 ((upz (upz s7 14 (s7 0 20).toNat x) 15 ((upz s7 14 (s7 0 20).toNat x) 0 20).toNat y) 0 20).toNat (-9)) 0 21) 1) ?_
                refine zB.putI oX12_joint (g := 7) (p := 0) (c := 12) (k := 21) (y := 0) (hp1 := [r0, r1, r2, r3, r4, r5, r6, zH (upz (upz (upz (upz s7 14 (s7 0 20).toNat x) 15 ((upz s7 14 (s7 0 20).toNat x) 0 20).toNat y) 16 ((upz (upz s7 14 (s7 0 20).toNat x) 15 ((upz s7 14 (s7 0 20).toNat x) 0 20).toNat y) 0 20).toNat (-9)) 0 21 (((upz (upz (upz s7 14 (s7 0 20).toNat x) 15 ((upz s7 14 (s7 0 20).toNat x) 0 20).toNat y) 16 ((upz (upz s7 14 (s7 0 20).toNat x) 15 ((upz s7 14 (s7 0 20).toNat x) 0 20).toNat y) 0 20).toNat (-9)) 0 21) + 1)) zL7 0, r8, r9]) rfl rfl (by decide) (by decide) rfl rfl rfl rfl rfl rfl ?_
                refine xB.run oX12_joint 4 (s := (160, [some (.ref 7168), some (.int (zI x)), some (.int (zI y)), some (.int (zI held)), some (.int (zI y17))], [.int (zI 1), .int (zI ((upz (upz (upz (upz s7 14 (s7 0 20).toNat x) 15 ((upz s7 14 (s7 0 20).toNat x) 0 20).toNat y) 16 ((upz (upz s7 14 (s7 0 20).toNat x) 15 ((upz s7 14 (s7 0 20).toNat x) 0 20).toNat y) 0 20).toNat (-9)) 0 21 (((upz (upz (upz s7 14 (s7 0 20).toNat x) 15 ((upz s7 14 (s7 0 20).toNat x) 0 20).toNat y) 16 ((upz (upz s7 14 (s7 0 20).toNat x) 15 ((upz s7 14 (s7 0 20).toNat x) 0 20).toNat y) 0 20).toNat (-9)) 0 21) + 1)) 0 20)), .ref 7168], [r0, r1, r2, r3, r4, r5, r6, zH (upz (upz (upz (upz s7 14 (s7 0 20).toNat x) 15 ((upz s7 14 (s7 0 20).toNat x) 0 20).toNat y) 16 ((upz (upz s7 14 (s7 0 20).toNat x) 15 ((upz s7 14 (s7 0 20).toNat x) 0 20).toNat y) 0 20).toNat (-9)) 0 21 (((upz (upz (upz s7 14 (s7 0 20).toNat x) 15 ((upz s7 14 (s7 0 20).toNat x) 0 20).toNat y) 16 ((upz (upz s7 14 (s7 0 20).toNat x) 15 ((upz s7 14 (s7 0 20).toNat x) 0 20).toNat y) 0 20).toNat (-9)) 0 21) + 1)) zL7 0, r8, r9])) rfl ?_
                refine zB.opi oX12_joint rfl (zi_add ((upz (upz (upz (upz s7 14 (s7 0 20).toNat x) 15 ((upz s7 14 (s7 0 20).toNat x) 0 20).toNat y) 16 ((upz (upz s7 14 (s7 0 20).toNat x) 15 ((upz s7 14 (s7 0 20).toNat x) 0 20).toNat y) 0 20).toNat (-9)) 0 21 (((upz (upz (upz s7 14 (s7 0 20).toNat x) 15 ((upz s7 14 (s7 0 20).toNat x) 0 20).toNat y) 16 ((upz (upz s7 14 (s7 0 20).toNat x) 15 ((upz s7 14 (s7 0 20).toNat x) 0 20).toNat y) 0 20).toNat (-9)) 0 21) + 1)) 0 20) 1) ?_
                refine zB.putI oX12_joint (g := 7) (p := 0) (c := 12) (k := 20) (y := 0) (hp1 := [r0, r1, r2, r3, r4, r5, r6, zH (upz (upz (upz (upz (upz s7 14 (s7 0 20).toNat x) 15 ((upz s7 14 (s7 0 20).toNat x) 0 20).toNat y) 16 ((upz (upz s7 14 (s7 0 20).toNat x) 15 ((upz s7 14 (s7 0 20).toNat x) 0 20).toNat y) 0 20).toNat (-9)) 0 21 (((upz (upz (upz s7 14 (s7 0 20).toNat x) 15 ((upz s7 14 (s7 0 20).toNat x) 0 20).toNat y) 16 ((upz (upz s7 14 (s7 0 20).toNat x) 15 ((upz s7 14 (s7 0 20).toNat x) 0 20).toNat y) 0 20).toNat (-9)) 0 21) + 1)) 0 20 (((upz (upz (upz (upz s7 14 (s7 0 20).toNat x) 15 ((upz s7 14 (s7 0 20).toNat x) 0 20).toNat y) 16 ((upz (upz s7 14 (s7 0 20).toNat x) 15 ((upz s7 14 (s7 0 20).toNat x) 0 20).toNat y) 0 20).toNat (-9)) 0 21 (((upz (upz (upz s7 14 (s7 0 20).toNat x) 15 ((upz s7 14 (s7 0 20).toNat x) 0 20).toNat y) 16 ((upz (upz s7 14 (s7 0 20).toNat x) 15 ((upz s7 14 (s7 0 20).toNat x) 0 20).toNat y) 0 20).toNat (-9)) 0 21) + 1)) 0 20) + 1)) zL7 0, r8, r9]) rfl rfl (by decide) (by decide) rfl rfl rfl rfl rfl rfl ?_
                refine xB.run oX12_joint 3 (s := (169, [some (.ref 7168), some (.int (zI x)), some (.int (zI y)), some (.int (zI held)), some (.int (zI y17))], [.int (zI 1), .int (zI ((upz (upz (upz (upz (upz s7 14 (s7 0 20).toNat x) 15 ((upz s7 14 (s7 0 20).toNat x) 0 20).toNat y) 16 ((upz (upz s7 14 (s7 0 20).toNat x) 15 ((upz s7 14 (s7 0 20).toNat x) 0 20).toNat y) 0 20).toNat (-9)) 0 21 (((upz (upz (upz s7 14 (s7 0 20).toNat x) 15 ((upz s7 14 (s7 0 20).toNat x) 0 20).toNat y) 16 ((upz (upz s7 14 (s7 0 20).toNat x) 15 ((upz s7 14 (s7 0 20).toNat x) 0 20).toNat y) 0 20).toNat (-9)) 0 21) + 1)) 0 20 (((upz (upz (upz (upz s7 14 (s7 0 20).toNat x) 15 ((upz s7 14 (s7 0 20).toNat x) 0 20).toNat y) 16 ((upz (upz s7 14 (s7 0 20).toNat x) 15 ((upz s7 14 (s7 0 20).toNat x) 0 20).toNat y) 0 20).toNat (-9)) 0 21 (((upz (upz (upz s7 14 (s7 0 20).toNat x) 15 ((upz s7 14 (s7 0 20).toNat x) 0 20).toNat y) 16 ((upz (upz s7 14 (s7 0 20).toNat x) 15 ((upz s7 14 (s7 0 20).toNat x) 0 20).toNat y) 0 20).toNat (-9)) 0 21) + 1)) 0 20) + 1)) 0 20))], [r0, r1, r2, r3, r4, r5, r6, zH (upz (upz (upz (upz (upz s7 14 (s7 0 20).toNat x) 15 ((upz s7 14 (s7 0 20).toNat x) 0 20).toNat y) 16 ((upz (upz s7 14 (s7 0 20).toNat x) 15 ((upz s7 14 (s7 0 20).toNat x) 0 20).toNat y) 0 20).toNat (-9)) 0 21 (((upz (upz (upz s7 14 (s7 0 20).toNat x) 15 ((upz s7 14 (s7 0 20).toNat x) 0 20).toNat y) 16 ((upz (upz s7 14 (s7 0 20).toNat x) 15 ((upz s7 14 (s7 0 20).toNat x) 0 20).toNat y) 0 20).toNat (-9)) 0 21) + 1)) 0 20 (((upz (upz (upz (upz s7 14 (s7 0 20).toNat x) 15 ((upz s7 14 (s7 0 20).toNat x) 0 20).toNat y) 16 ((upz (upz s7 14 (s7 0 20).toNat x) 15 ((upz s7 14 (s7 0 20).toNat x) 0 20).toNat y) 0 20).toNat (-9)) 0 21 (((upz (upz (upz s7 14 (s7 0 20).toNat x) 15 ((upz s7 14 (s7 0 20).toNat x) 0 20).toNat y) 16 ((upz (upz s7 14 (s7 0 20).toNat x) 15 ((upz s7 14 (s7 0 20).toNat x) 0 20).toNat y) 0 20).toNat (-9)) 0 21) + 1)) 0 20) + 1)) zL7 0, r8, r9])) rfl ?_
                refine zB.opi oX12_joint rfl (zi_sub ((upz (upz (upz (upz (upz s7 14 (s7 0 20).toNat x) 15 ((upz s7 14 (s7 0 20).toNat x) 0 20).toNat y) 16 ((upz (upz s7 14 (s7 0 20).toNat x) 15 ((upz s7 14 (s7 0 20).toNat x) 0 20).toNat y) 0 20).toNat (-9)) 0 21 (((upz (upz (upz s7 14 (s7 0 20).toNat x) 15 ((upz s7 14 (s7 0 20).toNat x) 0 20).toNat y) 16 ((upz (upz s7 14 (s7 0 20).toNat x) 15 ((upz s7 14 (s7 0 20).toNat x) 0 20).toNat y) 0 20).toNat (-9)) 0 21) + 1)) 0 20 (((upz (upz (upz (upz s7 14 (s7 0 20).toNat x) 15 ((upz s7 14 (s7 0 20).toNat x) 0 20).toNat y) 16 ((upz (upz s7 14 (s7 0 20).toNat x) 15 ((upz s7 14 (s7 0 20).toNat x) 0 20).toNat y) 0 20).toNat (-9)) 0 21 (((upz (upz (upz s7 14 (s7 0 20).toNat x) 15 ((upz s7 14 (s7 0 20).toNat x) 0 20).toNat y) 16 ((upz (upz s7 14 (s7 0 20).toNat x) 15 ((upz s7 14 (s7 0 20).toNat x) 0 20).toNat y) 0 20).toNat (-9)) 0 21) + 1)) 0 20) + 1)) 0 20) 1) ?_
                obtain rfl := Option.some.inj H
                exact xB.ret oX12_joint (r1 := some (.int (zI (((upz (upz (upz (upz (upz s7 14 (s7 0 20).toNat x) 15 ((upz s7 14 (s7 0 20).toNat x) 0 20).toNat y) 16 ((upz (upz s7 14 (s7 0 20).toNat x) 15 ((upz s7 14 (s7 0 20).toNat x) 0 20).toNat y) 0 20).toNat (-9)) 0 21 (((upz (upz (upz s7 14 (s7 0 20).toNat x) 15 ((upz s7 14 (s7 0 20).toNat x) 0 20).toNat y) 16 ((upz (upz s7 14 (s7 0 20).toNat x) 15 ((upz s7 14 (s7 0 20).toNat x) 0 20).toNat y) 0 20).toNat (-9)) 0 21) + 1)) 0 20 (((upz (upz (upz (upz s7 14 (s7 0 20).toNat x) 15 ((upz s7 14 (s7 0 20).toNat x) 0 20).toNat y) 16 ((upz (upz s7 14 (s7 0 20).toNat x) 15 ((upz s7 14 (s7 0 20).toNat x) 0 20).toNat y) 0 20).toNat (-9)) 0 21 (((upz (upz (upz s7 14 (s7 0 20).toNat x) 15 ((upz s7 14 (s7 0 20).toNat x) 0 20).toNat y) 16 ((upz (upz s7 14 (s7 0 20).toNat x) 15 ((upz s7 14 (s7 0 20).toNat x) 0 20).toNat y) 0 20).toNat (-9)) 0 21) + 1)) 0 20) + 1)) 0 20) - 1)))) rfl rfl rfl
              · have H := H.2 h25
                refine xB.run oX12_joint 2 (s := (150, [some (.ref 7168), some (.int (zI x)), some (.int (zI y)), some (.int (zI held)), some (.int (zI y17))], [.int (zI 0), .int (zI ((upz (upz (upz s7 14 (s7 0 20).toNat x) 15 ((upz s7 14 (s7 0 20).toNat x) 0 20).toNat y) 16 ((upz (upz s7 14 (s7 0 20).toNat x) 15 ((upz s7 14 (s7 0 20).toNat x) 0 20).toNat y) 0 20).toNat (-9)) 0 21)), .ref 7168], [r0, r1, r2, r3, r4, r5, r6, zH (upz (upz (upz s7 14 (s7 0 20).toNat x) 15 ((upz s7 14 (s7 0 20).toNat x) 0 20).toNat y) 16 ((upz (upz s7 14 (s7 0 20).toNat x) 15 ((upz s7 14 (s7 0 20).toNat x) 0 20).toNat y) 0 20).toNat (-9)) zL7 0, r8, r9])) rfl ?_
                refine zB.opi oX12_joint rfl (zi_add ((upz (upz (upz s7 14 (s7 0 20).toNat x) 15 ((upz s7 14 (s7 0 20).toNat x) 0 20).toNat y) 16 ((upz (upz s7 14 (s7 0 20).toNat x) 15 ((upz s7 14 (s7 0 20).toNat x) 0 20).toNat y) 0 20).toNat (-9)) 0 21) 0) ?_
                refine zB.putI oX12_joint (g := 7) (p := 0) (c := 12) (k := 21) (y := 0) (hp1 := [r0, r1, r2, r3, r4, r5, r6, zH (upz (upz (upz (upz s7 14 (s7 0 20).toNat x) 15 ((upz s7 14 (s7 0 20).toNat x) 0 20).toNat y) 16 ((upz (upz s7 14 (s7 0 20).toNat x) 15 ((upz s7 14 (s7 0 20).toNat x) 0 20).toNat y) 0 20).toNat (-9)) 0 21 (((upz (upz (upz s7 14 (s7 0 20).toNat x) 15 ((upz s7 14 (s7 0 20).toNat x) 0 20).toNat y) 16 ((upz (upz s7 14 (s7 0 20).toNat x) 15 ((upz s7 14 (s7 0 20).toNat x) 0 20).toNat y) 0 20).toNat (-9)) 0 21) + 0)) zL7 0, r8, r9]) rfl rfl (by decide) (by decide) rfl rfl rfl rfl rfl rfl ?_
                refine xB.run oX12_joint 4 (s := (160, [some (.ref 7168), some (.int (zI x)), some (.int (zI y)), some (.int (zI held)), some (.int (zI y17))], [.int (zI 1), .int (zI ((upz (upz (upz (upz s7 14 (s7 0 20).toNat x) 15 ((upz s7 14 (s7 0 20).toNat x) 0 20).toNat y) 16 ((upz (upz s7 14 (s7 0 20).toNat x) 15 ((upz s7 14 (s7 0 20).toNat x) 0 20).toNat y) 0 20).toNat (-9)) 0 21 (((upz (upz (upz s7 14 (s7 0 20).toNat x) 15 ((upz s7 14 (s7 0 20).toNat x) 0 20).toNat y) 16 ((upz (upz s7 14 (s7 0 20).toNat x) 15 ((upz s7 14 (s7 0 20).toNat x) 0 20).toNat y) 0 20).toNat (-9)) 0 21) + 0)) 0 20)), .ref 7168], [r0, r1, r2, r3, r4, r5, r6, zH (upz (upz (upz (upz s7 14 (s7 0 20).toNat x) 15 ((upz s7 14 (s7 0 20).toNat x) 0 20).toNat y) 16 ((upz (upz s7 14 (s7 0 20).toNat x) 15 ((upz s7 14 (s7 0 20).toNat x) 0 20).toNat y) 0 20).toNat (-9)) 0 21 (((upz (upz (upz s7 14 (s7 0 20).toNat x) 15 ((upz s7 14 (s7 0 20).toNat x) 0 20).toNat y) 16 ((upz (upz s7 14 (s7 0 20).toNat x) 15 ((upz s7 14 (s7 0 20).toNat x) 0 20).toNat y) 0 20).toNat (-9)) 0 21) + 0)) zL7 0, r8, r9])) rfl ?_
                refine zB.opi oX12_joint rfl (zi_add ((upz (upz (upz (upz s7 14 (s7 0 20).toNat x) 15 ((upz s7 14 (s7 0 20).toNat x) 0 20).toNat y) 16 ((upz (upz s7 14 (s7 0 20).toNat x) 15 ((upz s7 14 (s7 0 20).toNat x) 0 20).toNat y) 0 20).toNat (-9)) 0 21 (((upz (upz (upz s7 14 (s7 0 20).toNat x) 15 ((upz s7 14 (s7 0 20).toNat x) 0 20).toNat y) 16 ((upz (upz s7 14 (s7 0 20).toNat x) 15 ((upz s7 14 (s7 0 20).toNat x) 0 20).toNat y) 0 20).toNat (-9)) 0 21) + 0)) 0 20) 1) ?_
                refine zB.putI oX12_joint (g := 7) (p := 0) (c := 12) (k := 20) (y := 0) (hp1 := [r0, r1, r2, r3, r4, r5, r6, zH (upz (upz (upz (upz (upz s7 14 (s7 0 20).toNat x) 15 ((upz s7 14 (s7 0 20).toNat x) 0 20).toNat y) 16 ((upz (upz s7 14 (s7 0 20).toNat x) 15 ((upz s7 14 (s7 0 20).toNat x) 0 20).toNat y) 0 20).toNat (-9)) 0 21 (((upz (upz (upz s7 14 (s7 0 20).toNat x) 15 ((upz s7 14 (s7 0 20).toNat x) 0 20).toNat y) 16 ((upz (upz s7 14 (s7 0 20).toNat x) 15 ((upz s7 14 (s7 0 20).toNat x) 0 20).toNat y) 0 20).toNat (-9)) 0 21) + 0)) 0 20 (((upz (upz (upz (upz s7 14 (s7 0 20).toNat x) 15 ((upz s7 14 (s7 0 20).toNat x) 0 20).toNat y) 16 ((upz (upz s7 14 (s7 0 20).toNat x) 15 ((upz s7 14 (s7 0 20).toNat x) 0 20).toNat y) 0 20).toNat (-9)) 0 21 (((upz (upz (upz s7 14 (s7 0 20).toNat x) 15 ((upz s7 14 (s7 0 20).toNat x) 0 20).toNat y) 16 ((upz (upz s7 14 (s7 0 20).toNat x) 15 ((upz s7 14 (s7 0 20).toNat x) 0 20).toNat y) 0 20).toNat (-9)) 0 21) + 0)) 0 20) + 1)) zL7 0, r8, r9]) rfl rfl (by decide) (by decide) rfl rfl rfl rfl rfl rfl ?_
                refine xB.run oX12_joint 3 (s := (169, [some (.ref 7168), some (.int (zI x)), some (.int (zI y)), some (.int (zI held)), some (.int (zI y17))], [.int (zI 1), .int (zI ((upz (upz (upz (upz (upz s7 14 (s7 0 20).toNat x) 15 ((upz s7 14 (s7 0 20).toNat x) 0 20).toNat y) 16 ((upz (upz s7 14 (s7 0 20).toNat x) 15 ((upz s7 14 (s7 0 20).toNat x) 0 20).toNat y) 0 20).toNat (-9)) 0 21 (((upz (upz (upz s7 14 (s7 0 20).toNat x) 15 ((upz s7 14 (s7 0 20).toNat x) 0 20).toNat y) 16 ((upz (upz s7 14 (s7 0 20).toNat x) 15 ((upz s7 14 (s7 0 20).toNat x) 0 20).toNat y) 0 20).toNat (-9)) 0 21) + 0)) 0 20 (((upz (upz (upz (upz s7 14 (s7 0 20).toNat x) 15 ((upz s7 14 (s7 0 20).toNat x) 0 20).toNat y) 16 ((upz (upz s7 14 (s7 0 20).toNat x) 15 ((upz s7 14 (s7 0 20).toNat x) 0 20).toNat y) 0 20).toNat (-9)) 0 21 (((upz (upz (upz s7 14 (s7 0 20).toNat x) 15 ((upz s7 14 (s7 0 20).toNat x) 0 20).toNat y) 16 ((upz (upz s7 14 (s7 0 20).toNat x) 15 ((upz s7 14 (s7 0 20).toNat x) 0 20).toNat y) 0 20).toNat (-9)) 0 21) + 0)) 0 20) + 1)) 0 20))], [r0, r1, r2, r3, r4, r5, r6, zH (upz (upz (upz (upz (upz s7 14 (s7 0 20).toNat x) 15 ((upz s7 14 (s7 0 20).toNat x) 0 20).toNat y) 16 ((upz (upz s7 14 (s7 0 20).toNat x) 15 ((upz s7 14 (s7 0 20).toNat x) 0 20).toNat y) 0 20).toNat (-9)) 0 21 (((upz (upz (upz s7 14 (s7 0 20).toNat x) 15 ((upz s7 14 (s7 0 20).toNat x) 0 20).toNat y) 16 ((upz (upz s7 14 (s7 0 20).toNat x) 15 ((upz s7 14 (s7 0 20).toNat x) 0 20).toNat y) 0 20).toNat (-9)) 0 21) + 0)) 0 20 (((upz (upz (upz (upz s7 14 (s7 0 20).toNat x) 15 ((upz s7 14 (s7 0 20).toNat x) 0 20).toNat y) 16 ((upz (upz s7 14 (s7 0 20).toNat x) 15 ((upz s7 14 (s7 0 20).toNat x) 0 20).toNat y) 0 20).toNat (-9)) 0 21 (((upz (upz (upz s7 14 (s7 0 20).toNat x) 15 ((upz s7 14 (s7 0 20).toNat x) 0 20).toNat y) 16 ((upz (upz s7 14 (s7 0 20).toNat x) 15 ((upz s7 14 (s7 0 20).toNat x) 0 20).toNat y) 0 20).toNat (-9)) 0 21) + 0)) 0 20) + 1)) zL7 0, r8, r9])) rfl ?_
                refine zB.opi oX12_joint rfl (zi_sub ((upz (upz (upz (upz (upz s7 14 (s7 0 20).toNat x) 15 ((upz s7 14 (s7 0 20).toNat x) 0 20).toNat y) 16 ((upz (upz s7 14 (s7 0 20).toNat x) 15 ((upz s7 14 (s7 0 20).toNat x) 0 20).toNat y) 0 20).toNat (-9)) 0 21 (((upz (upz (upz s7 14 (s7 0 20).toNat x) 15 ((upz s7 14 (s7 0 20).toNat x) 0 20).toNat y) 16 ((upz (upz s7 14 (s7 0 20).toNat x) 15 ((upz s7 14 (s7 0 20).toNat x) 0 20).toNat y) 0 20).toNat (-9)) 0 21) + 0)) 0 20 (((upz (upz (upz (upz s7 14 (s7 0 20).toNat x) 15 ((upz s7 14 (s7 0 20).toNat x) 0 20).toNat y) 16 ((upz (upz s7 14 (s7 0 20).toNat x) 15 ((upz s7 14 (s7 0 20).toNat x) 0 20).toNat y) 0 20).toNat (-9)) 0 21 (((upz (upz (upz s7 14 (s7 0 20).toNat x) 15 ((upz s7 14 (s7 0 20).toNat x) 0 20).toNat y) 16 ((upz (upz s7 14 (s7 0 20).toNat x) 15 ((upz s7 14 (s7 0 20).toNat x) 0 20).toNat y) 0 20).toNat (-9)) 0 21) + 0)) 0 20) + 1)) 0 20) 1) ?_
                obtain rfl := Option.some.inj H
                exact xB.ret oX12_joint (r1 := some (.int (zI (((upz (upz (upz (upz (upz s7 14 (s7 0 20).toNat x) 15 ((upz s7 14 (s7 0 20).toNat x) 0 20).toNat y) 16 ((upz (upz s7 14 (s7 0 20).toNat x) 15 ((upz s7 14 (s7 0 20).toNat x) 0 20).toNat y) 0 20).toNat (-9)) 0 21 (((upz (upz (upz s7 14 (s7 0 20).toNat x) 15 ((upz s7 14 (s7 0 20).toNat x) 0 20).toNat y) 16 ((upz (upz s7 14 (s7 0 20).toNat x) 15 ((upz s7 14 (s7 0 20).toNat x) 0 20).toNat y) 0 20).toNat (-9)) 0 21) + 0)) 0 20 (((upz (upz (upz (upz s7 14 (s7 0 20).toNat x) 15 ((upz s7 14 (s7 0 20).toNat x) 0 20).toNat y) 16 ((upz (upz s7 14 (s7 0 20).toNat x) 15 ((upz s7 14 (s7 0 20).toNat x) 0 20).toNat y) 0 20).toNat (-9)) 0 21 (((upz (upz (upz s7 14 (s7 0 20).toNat x) 15 ((upz s7 14 (s7 0 20).toNat x) 0 20).toNat y) 16 ((upz (upz s7 14 (s7 0 20).toNat x) 15 ((upz s7 14 (s7 0 20).toNat x) 0 20).toNat y) 0 20).toNat (-9)) 0 21) + 0)) 0 20) + 1)) 0 20) - 1)))) rfl rfl rfl
          · have H := H.2 h20
            refine xB.run oX12_joint 3 (s := (88, [some (.ref 7168), some (.int (zI x)), some (.int (zI y)), some (.int (zI held)), some (.int (zI y17))], [.int (zI 4), .int (zI (s7 0 21))], [r0, r1, r2, r3, r4, r5, r6, zH s7 zL7 0, r8, r9])) rfl ?_
            obtain ⟨g42, H⟩ := zgd H
            have H := zif H
            refine xB.brE oX12_joint (P := (s7 0 21) ≠ 4) rfl (zc_ne (a := s7 0 21) (b := 4) ⟨g42, by decide⟩) (fun h31 => ?_) (fun h31 => ?_)
            · have H := H.1 h31
              refine xB.run oX12_joint 5 (s := (103, [some (.ref 7168), some (.int (zI x)), some (.int (zI y)), some (.int (zI held)), some (.int (zI y17))], [.int (zI x), .int (zI (s7 0 20)), .ref 7182], [r0, r1, r2, r3, r4, r5, r6, zH s7 zL7 0, r8, r9])) rfl ?_
              obtain ⟨g41, H⟩ := zgd H
              refine zB.iast oX12_joint (g := 7) (p := 14) (N := 8) (i := s7 0 20) (hp1 := [r0, r1, r2, r3, r4, r5, r6, zH (upz s7 14 (s7 0 20).toNat x) zL7 0, r8, r9]) rfl rfl (by decide) (by decide) rfl rfl (by decide) g41 rfl ?_
              refine xB.run oX12_joint 5 (s := (113, [some (.ref 7168), some (.int (zI x)), some (.int (zI y)), some (.int (zI held)), some (.int (zI y17))], [.int (zI y), .int (zI ((upz s7 14 (s7 0 20).toNat x) 0 20)), .ref 7183], [r0, r1, r2, r3, r4, r5, r6, zH (upz s7 14 (s7 0 20).toNat x) zL7 0, r8, r9])) rfl ?_
              obtain ⟨g40, H⟩ := zgd H
              refine zB.iast oX12_joint (g := 7) (p := 15) (N := 8) (i := (upz s7 14 (s7 0 20).toNat x) 0 20) (hp1 := [r0, r1, r2, r3, r4, r5, r6, zH (upz (upz s7 14 (s7 0 20).toNat x) 15 ((upz s7 14 (s7 0 20).toNat x) 0 20).toNat y) zL7 0, r8, r9]) rfl rfl (by decide) (by decide) rfl rfl (by decide) g40 rfl ?_
              refine xB.run oX12_joint 5 (s := (123, [some (.ref 7168), some (.int (zI x)), some (.int (zI y)), some (.int (zI held)), some (.int (zI y17))], [.int (zI held), .int (zI ((upz (upz s7 14 (s7 0 20).toNat x) 15 ((upz s7 14 (s7 0 20).toNat x) 0 20).toNat y) 0 20)), .ref 7184], [r0, r1, r2, r3, r4, r5, r6, zH (upz (upz s7 14 (s7 0 20).toNat x) 15 ((upz s7 14 (s7 0 20).toNat x) 0 20).toNat y) zL7 0, r8, r9])) rfl ?_
              obtain ⟨g39, H⟩ := zgd H
              have H := zif H
              refine xB.brE oX12_joint (P := held = 0) rfl (zc_eq (a := held) (b := 0) ⟨g39, by decide⟩) (fun h32 => ?_) (fun h32 => ?_)
              · have H := H.1 h32
                refine xB.run oX12_joint 2 (s := (135, [some (.ref 7168), some (.int (zI x)), some (.int (zI y)), some (.int (zI held)), some (.int (zI y17))], [.int (zI ((upz (upz s7 14 (s7 0 20).toNat x) 15 ((upz s7 14 (s7 0 20).toNat x) 0 20).toNat y) 0 21)), .int (zI ((upz (upz s7 14 (s7 0 20).toNat x) 15 ((upz s7 14 (s7 0 20).toNat x) 0 20).toNat y) 0 20)), .ref 7184], [r0, r1, r2, r3, r4, r5, r6, zH (upz (upz s7 14 (s7 0 20).toNat x) 15 ((upz s7 14 (s7 0 20).toNat x) 0 20).toNat y) zL7 0, r8, r9])) rfl ?_
                obtain ⟨g35, H⟩ := zgd H
                refine zB.iast oX12_joint (g := 7) (p := 16) (N := 8) (i := (upz (upz s7 14 (s7 0 20).toNat x) 15 ((upz s7 14 (s7 0 20).toNat x) 0 20).toNat y) 0 20) (hp1 := [r0, r1, r2, r3, r4, r5, r6, zH (upz (upz (upz s7 14 (s7 0 20).toNat x) 15 ((upz s7 14 (s7 0 20).toNat x) 0 20).toNat y) 16 ((upz (upz s7 14 (s7 0 20).toNat x) 15 ((upz s7 14 (s7 0 20).toNat x) 0 20).toNat y) 0 20).toNat ((upz (upz s7 14 (s7 0 20).toNat x) 15 ((upz s7 14 (s7 0 20).toNat x) 0 20).toNat y) 0 21)) zL7 0, r8, r9]) rfl rfl (by decide) (by decide) rfl rfl (by decide) g35 rfl ?_
                refine xB.run oX12_joint 4 (s := (142, [some (.ref 7168), some (.int (zI x)), some (.int (zI y)), some (.int (zI held)), some (.int (zI y17))], [.int (zI held), .int (zI ((upz (upz (upz s7 14 (s7 0 20).toNat x) 15 ((upz s7 14 (s7 0 20).toNat x) 0 20).toNat y) 16 ((upz (upz s7 14 (s7 0 20).toNat x) 15 ((upz s7 14 (s7 0 20).toNat x) 0 20).toNat y) 0 20).toNat ((upz (upz s7 14 (s7 0 20).toNat x) 15 ((upz s7 14 (s7 0 20).toNat x) 0 20).toNat y) 0 21)) 0 21)), .ref 7168], [r0, r1, r2, r3, r4, r5, r6, zH (upz (upz (upz s7 14 (s7 0 20).toNat x) 15 ((upz s7 14 (s7 0 20).toNat x) 0 20).toNat y) 16 ((upz (upz s7 14 (s7 0 20).toNat x) 15 ((upz s7 14 (s7 0 20).toNat x) 0 20).toNat y) 0 20).toNat ((upz (upz s7 14 (s7 0 20).toNat x) 15 ((upz s7 14 (s7 0 20).toNat x) 0 20).toNat y) 0 21)) zL7 0, r8, r9])) rfl ?_
                obtain ⟨g34, H⟩ := zgd H
                have H := zif H
                refine xB.brE oX12_joint (P := held = 0) rfl (zc_eq (a := held) (b := 0) ⟨g34, by decide⟩) (fun h33 => ?_) (fun h33 => ?_)
                · have H := H.1 h33
                  refine xB.run oX12_joint 1 (s := (150, [some (.ref 7168), some (.int (zI x)), some (.int (zI y)), some (.int (zI held)), some (.int (zI y17))], [.int (zI 1), .int (zI ((upz (upz (upz s7 14 (s7 0 20).toNat x) 15 ((upz s7 14 (s7 0 20).toNat x) 0 20).toNat y) 16 ((upz (upz s7 14 (s7 0 20).toNat x) 15 ((upz s7 14 (s7 0 20).toNat x) 0 20).toNat y) 0 20).toNat ((upz (upz s7 14 (s7 0 20).toNat x) 15 ((upz s7 14 (s7 0 20).toNat x) 0 20).toNat y) 0 21)) 0 21)), .ref 7168], [r0, r1, r2, r3, r4, r5, r6, zH (upz (upz (upz s7 14 (s7 0 20).toNat x) 15 ((upz s7 14 (s7 0 20).toNat x) 0 20).toNat y) 16 ((upz (upz s7 14 (s7 0 20).toNat x) 15 ((upz s7 14 (s7 0 20).toNat x) 0 20).toNat y) 0 20).toNat ((upz (upz s7 14 (s7 0 20).toNat x) 15 ((upz s7 14 (s7 0 20).toNat x) 0 20).toNat y) 0 21)) zL7 0, r8, r9])) rfl ?_
                  refine zB.opi oX12_joint rfl (zi_add ((upz (upz (upz s7 14 (s7 0 20).toNat x) 15 ((upz s7 14 (s7 0 20).toNat x) 0 20).toNat y) 16 ((upz (upz s7 14 (s7 0 20).toNat x) 15 ((upz s7 14 (s7 0 20).toNat x) 0 20).toNat y) 0 20).toNat ((upz (upz s7 14 (s7 0 20).toNat x) 15 ((upz s7 14 (s7 0 20).toNat x) 0 20).toNat y) 0 21)) 0 21) 1) ?_
                  refine zB.putI oX12_joint (g := 7) (p := 0) (c := 12) (k := 21) (y := 0) (hp1 := [r0, r1, r2, r3, r4, r5, r6, zH (upz (upz (upz (upz s7 14 (s7 0 20).toNat x) 15 ((upz s7 14 (s7 0 20).toNat x) 0 20).toNat y) 16 ((upz (upz s7 14 (s7 0 20).toNat x) 15 ((upz s7 14 (s7 0 20).toNat x) 0 20).toNat y) 0 20).toNat ((upz (upz s7 14 (s7 0 20).toNat x) 15 ((upz s7 14 (s7 0 20).toNat x) 0 20).toNat y) 0 21)) 0 21 (((upz (upz (upz s7 14 (s7 0 20).toNat x) 15 ((upz s7 14 (s7 0 20).toNat x) 0 20).toNat y) 16 ((upz (upz s7 14 (s7 0 20).toNat x) 15 ((upz s7 14 (s7 0 20).toNat x) 0 20).toNat y) 0 20).toNat ((upz (upz s7 14 (s7 0 20).toNat x) 15 ((upz s7 14 (s7 0 20).toNat x) 0 20).toNat y) 0 21)) 0 21) + 1)) zL7 0, r8, r9]) rfl rfl (by decide) (by decide) rfl rfl rfl rfl rfl rfl ?_
                  refine xB.run oX12_joint 4 (s := (160, [some (.ref 7168), some (.int (zI x)), some (.int (zI y)), some (.int (zI held)), some (.int (zI y17))], [.int (zI 1), .int (zI ((upz (upz (upz (upz s7 14 (s7 0 20).toNat x) 15 ((upz s7 14 (s7 0 20).toNat x) 0 20).toNat y) 16 ((upz (upz s7 14 (s7 0 20).toNat x) 15 ((upz s7 14 (s7 0 20).toNat x) 0 20).toNat y) 0 20).toNat ((upz (upz s7 14 (s7 0 20).toNat x) 15 ((upz s7 14 (s7 0 20).toNat x) 0 20).toNat y) 0 21)) 0 21 (((upz (upz (upz s7 14 (s7 0 20).toNat x) 15 ((upz s7 14 (s7 0 20).toNat x) 0 20).toNat y) 16 ((upz (upz s7 14 (s7 0 20).toNat x) 15 ((upz s7 14 (s7 0 20).toNat x) 0 20).toNat y) 0 20).toNat ((upz (upz s7 14 (s7 0 20).toNat x) 15 ((upz s7 14 (s7 0 20).toNat x) 0 20).toNat y) 0 21)) 0 21) + 1)) 0 20)), .ref 7168], [r0, r1, r2, r3, r4, r5, r6, zH (upz (upz (upz (upz s7 14 (s7 0 20).toNat x) 15 ((upz s7 14 (s7 0 20).toNat x) 0 20).toNat y) 16 ((upz (upz s7 14 (s7 0 20).toNat x) 15 ((upz s7 14 (s7 0 20).toNat x) 0 20).toNat y) 0 20).toNat ((upz (upz s7 14 (s7 0 20).toNat x) 15 ((upz s7 14 (s7 0 20).toNat x) 0 20).toNat y) 0 21)) 0 21 (((upz (upz (upz s7 14 (s7 0 20).toNat x) 15 ((upz s7 14 (s7 0 20).toNat x) 0 20).toNat y) 16 ((upz (upz s7 14 (s7 0 20).toNat x) 15 ((upz s7 14 (s7 0 20).toNat x) 0 20).toNat y) 0 20).toNat ((upz (upz s7 14 (s7 0 20).toNat x) 15 ((upz s7 14 (s7 0 20).toNat x) 0 20).toNat y) 0 21)) 0 21) + 1)) zL7 0, r8, r9])) rfl ?_
                  refine zB.opi oX12_joint rfl (zi_add ((upz (upz (upz (upz s7 14 (s7 0 20).toNat x) 15 ((upz s7 14 (s7 0 20).toNat x) 0 20).toNat y) 16 ((upz (upz s7 14 (s7 0 20).toNat x) 15 ((upz s7 14 (s7 0 20).toNat x) 0 20).toNat y) 0 20).toNat ((upz (upz s7 14 (s7 0 20).toNat x) 15 ((upz s7 14 (s7 0 20).toNat x) 0 20).toNat y) 0 21)) 0 21 (((upz (upz (upz s7 14 (s7 0 20).toNat x) 15 ((upz s7 14 (s7 0 20).toNat x) 0 20).toNat y) 16 ((upz (upz s7 14 (s7 0 20).toNat x) 15 ((upz s7 14 (s7 0 20).toNat x) 0 20).toNat y) 0 20).toNat ((upz (upz s7 14 (s7 0 20).toNat x) 15 ((upz s7 14 (s7 0 20).toNat x) 0 20).toNat y) 0 21)) 0 21) + 1)) 0 20) 1) ?_
                  refine zB.putI oX12_joint (g := 7) (p := 0) (c := 12) (k := 20) (y := 0) (hp1 := [r0, r1, r2, r3, r4, r5, r6, zH (upz (upz (upz (upz (upz s7 14 (s7 0 20).toNat x) 15 ((upz s7 14 (s7 0 20).toNat x) 0 20).toNat y) 16 ((upz (upz s7 14 (s7 0 20).toNat x) 15 ((upz s7 14 (s7 0 20).toNat x) 0 20).toNat y) 0 20).toNat ((upz (upz s7 14 (s7 0 20).toNat x) 15 ((upz s7 14 (s7 0 20).toNat x) 0 20).toNat y) 0 21)) 0 21 (((upz (upz (upz s7 14 (s7 0 20).toNat x) 15 ((upz s7 14 (s7 0 20).toNat x) 0 20).toNat y) 16 ((upz (upz s7 14 (s7 0 20).toNat x) 15 ((upz s7 14 (s7 0 20).toNat x) 0 20).toNat y) 0 20).toNat ((upz (upz s7 14 (s7 0 20).toNat x) 15 ((upz s7 14 (s7 0 20).toNat x) 0 20).toNat y) 0 21)) 0 21) + 1)) 0 20 (((upz (upz (upz (upz s7 14 (s7 0 20).toNat x) 15 ((upz s7 14 (s7 0 20).toNat x) 0 20).toNat y) 16 ((upz (upz s7 14 (s7 0 20).toNat x) 15 ((upz s7 14 (s7 0 20).toNat x) 0 20).toNat y) 0 20).toNat ((upz (upz s7 14 (s7 0 20).toNat x) 15 ((upz s7 14 (s7 0 20).toNat x) 0 20).toNat y) 0 21)) 0 21 (((upz (upz (upz s7 14 (s7 0 20).toNat x) 15 ((upz s7 14 (s7 0 20).toNat x) 0 20).toNat y) 16 ((upz (upz s7 14 (s7 0 20).toNat x) 15 ((upz s7 14 (s7 0 20).toNat x) 0 20).toNat y) 0 20).toNat ((upz (upz s7 14 (s7 0 20).toNat x) 15 ((upz s7 14 (s7 0 20).toNat x) 0 20).toNat y) 0 21)) 0 21) + 1)) 0 20) + 1)) zL7 0, r8, r9]) rfl rfl (by decide) (by decide) rfl rfl rfl rfl rfl rfl ?_
                  refine xB.run oX12_joint 3 (s := (169, [some (.ref 7168), some (.int (zI x)), some (.int (zI y)), some (.int (zI held)), some (.int (zI y17))], [.int (zI 1), .int (zI ((upz (upz (upz (upz (upz s7 14 (s7 0 20).toNat x) 15 ((upz s7 14 (s7 0 20).toNat x) 0 20).toNat y) 16 ((upz (upz s7 14 (s7 0 20).toNat x) 15 ((upz s7 14 (s7 0 20).toNat x) 0 20).toNat y) 0 20).toNat ((upz (upz s7 14 (s7 0 20).toNat x) 15 ((upz s7 14 (s7 0 20).toNat x) 0 20).toNat y) 0 21)) 0 21 (((upz (upz (upz s7 14 (s7 0 20).toNat x) 15 ((upz s7 14 (s7 0 20).toNat x) 0 20).toNat y) 16 ((upz (upz s7 14 (s7 0 20).toNat x) 15 ((upz s7 14 (s7 0 20).toNat x) 0 20).toNat y) 0 20).toNat ((upz (upz s7 14 (s7 0 20).toNat x) 15 ((upz s7 14 (s7 0 20).toNat x) 0 20).toNat y) 0 21)) 0 21) + 1)) 0 20 (((upz (upz (upz (upz s7 14 (s7 0 20).toNat x) 15 ((upz s7 14 (s7 0 20).toNat x) 0 20).toNat y) 16 ((upz (upz s7 14 (s7 0 20).toNat x) 15 ((upz s7 14 (s7 0 20).toNat x) 0 20).toNat y) 0 20).toNat ((upz (upz s7 14 (s7 0 20).toNat x) 15 ((upz s7 14 (s7 0 20).toNat x) 0 20).toNat y) 0 21)) 0 21 (((upz (upz (upz s7 14 (s7 0 20).toNat x) 15 ((upz s7 14 (s7 0 20).toNat x) 0 20).toNat y) 16 ((upz (upz s7 14 (s7 0 20).toNat x) 15 ((upz s7 14 (s7 0 20).toNat x) 0 20).toNat y) 0 20).toNat ((upz (upz s7 14 (s7 0 20).toNat x) 15 ((upz s7 14 (s7 0 20).toNat x) 0 20).toNat y) 0 21)) 0 21) + 1)) 0 20) + 1)) 0 20))], [r0, r1, r2, r3, r4, r5, r6, zH (upz (upz (upz (upz (upz s7 14 (s7 0 20).toNat x) 15 ((upz s7 14 (s7 0 20).toNat x) 0 20).toNat y) 16 ((upz (upz s7 14 (s7 0 20).toNat x) 15 ((upz s7 14 (s7 0 20).toNat x) 0 20).toNat y) 0 20).toNat ((upz (upz s7 14 (s7 0 20).toNat x) 15 ((upz s7 14 (s7 0 20).toNat x) 0 20).toNat y) 0 21)) 0 21 (((upz (upz (upz s7 14 (s7 0 20).toNat x) 15 ((upz s7 14 (s7 0 20).toNat x) 0 20).toNat y) 16 ((upz (upz s7 14 (s7 0 20).toNat x) 15 ((upz s7 14 (s7 0 20).toNat x) 0 20).toNat y) 0 20).toNat ((upz (upz s7 14 (s7 0 20).toNat x) 15 ((upz s7 14 (s7 0 20).toNat x) 0 20).toNat y) 0 21)) 0 21) + 1)) 0 20 (((upz (upz (upz (upz s7 14 (s7 0 20).toNat x) 15 ((upz s7 14 (s7 0 20).toNat x) 0 20).toNat y) 16 ((upz (upz s7 14 (s7 0 20).toNat x) 15 ((upz s7 14 (s7 0 20).toNat x) 0 20).toNat y) 0 20).toNat ((upz (upz s7 14 (s7 0 20).toNat x) 15 ((upz s7 14 (s7 0 20).toNat x) 0 20).toNat y) 0 21)) 0 21 (((upz (upz (upz s7 14 (s7 0 20).toNat x) 15 ((upz s7 14 (s7 0 20).toNat x) 0 20).toNat y) 16 ((upz (upz s7 14 (s7 0 20).toNat x) 15 ((upz s7 14 (s7 0 20).toNat x) 0 20).toNat y) 0 20).toNat ((upz (upz s7 14 (s7 0 20).toNat x) 15 ((upz s7 14 (s7 0 20).toNat x) 0 20).toNat y) 0 21)) 0 21) + 1)) 0 20) + 1)) zL7 0, r8, r9])) rfl ?_
                  refine zB.opi oX12_joint rfl (zi_sub ((upz (upz (upz (upz (upz s7 14 (s7 0 20).toNat x) 15 ((upz s7 14 (s7 0 20).toNat x) 0 20).toNat y) 16 ((upz (upz s7 14 (s7 0 20).toNat x) 15 ((upz s7 14 (s7 0 20).toNat x) 0 20).toNat y) 0 20).toNat ((upz (upz s7 14 (s7 0 20).toNat x) 15 ((upz s7 14 (s7 0 20).toNat x) 0 20).toNat y) 0 21)) 0 21 (((upz (upz (upz s7 14 (s7 0 20).toNat x) 15 ((upz s7 14 (s7 0 20).toNat x) 0 20).toNat y) 16 ((upz (upz s7 14 (s7 0 20).toNat x) 15 ((upz s7 14 (s7 0 20).toNat x) 0 20).toNat y) 0 20).toNat ((upz (upz s7 14 (s7 0 20).toNat x) 15 ((upz s7 14 (s7 0 20).toNat x) 0 20).toNat y) 0 21)) 0 21) + 1)) 0 20 (((upz (upz (upz (upz s7 14 (s7 0 20).toNat x) 15 ((upz s7 14 (s7 0 20).toNat x) 0 20).toNat y) 16 ((upz (upz s7 14 (s7 0 20).toNat x) 15 ((upz s7 14 (s7 0 20).toNat x) 0 20).toNat y) 0 20).toNat ((upz (upz s7 14 (s7 0 20).toNat x) 15 ((upz s7 14 (s7 0 20).toNat x) 0 20).toNat y) 0 21)) 0 21 (((upz (upz (upz s7 14 (s7 0 20).toNat x) 15 ((upz s7 14 (s7 0 20).toNat x) 0 20).toNat y) 16 ((upz (upz s7 14 (s7 0 20).toNat x) 15 ((upz s7 14 (s7 0 20).toNat x) 0 20).toNat y) 0 20).toNat ((upz (upz s7 14 (s7 0 20).toNat x) 15 ((upz s7 14 (s7 0 20).toNat x) 0 20).toNat y) 0 21)) 0 21) + 1)) 0 20) + 1)) 0 20) 1) ?_
                  obtain rfl := Option.some.inj H
                  exact xB.ret oX12_joint (r1 := some (.int (zI (((upz (upz (upz (upz (upz s7 14 (s7 0 20).toNat x) 15 ((upz s7 14 (s7 0 20).toNat x) 0 20).toNat y) 16 ((upz (upz s7 14 (s7 0 20).toNat x) 15 ((upz s7 14 (s7 0 20).toNat x) 0 20).toNat y) 0 20).toNat ((upz (upz s7 14 (s7 0 20).toNat x) 15 ((upz s7 14 (s7 0 20).toNat x) 0 20).toNat y) 0 21)) 0 21 (((upz (upz (upz s7 14 (s7 0 20).toNat x) 15 ((upz s7 14 (s7 0 20).toNat x) 0 20).toNat y) 16 ((upz (upz s7 14 (s7 0 20).toNat x) 15 ((upz s7 14 (s7 0 20).toNat x) 0 20).toNat y) 0 20).toNat ((upz (upz s7 14 (s7 0 20).toNat x) 15 ((upz s7 14 (s7 0 20).toNat x) 0 20).toNat y) 0 21)) 0 21) + 1)) 0 20 (((upz (upz (upz (upz s7 14 (s7 0 20).toNat x) 15 ((upz s7 14 (s7 0 20).toNat x) 0 20).toNat y) 16 ((upz (upz s7 14 (s7 0 20).toNat x) 15 ((upz s7 14 (s7 0 20).toNat x) 0 20).toNat y) 0 20).toNat ((upz (upz s7 14 (s7 0 20).toNat x) 15 ((upz s7 14 (s7 0 20).toNat x) 0 20).toNat y) 0 21)) 0 21 (((upz (upz (upz s7 14 (s7 0 20).toNat x) 15 ((upz s7 14 (s7 0 20).toNat x) 0 20).toNat y) 16 ((upz (upz s7 14 (s7 0 20).toNat x) 15 ((upz s7 14 (s7 0 20).toNat x) 0 20).toNat y) 0 20).toNat ((upz (upz s7 14 (s7 0 20).toNat x) 15 ((upz s7 14 (s7 0 20).toNat x) 0 20).toNat y) 0 21)) 0 21) + 1)) 0 20) + 1)) 0 20) - 1)))) rfl rfl rfl
                · have H := H.2 h33
                  refine xB.run oX12_joint 2 (s := (150, [some (.ref 7168), some (.int (zI x)), some (.int (zI y)), some (.int (zI held)), some (.int (zI y17))], [.int (zI 0), .int (zI ((upz (upz (upz s7 14 (s7 0 20).toNat x) 15 ((upz s7 14 (s7 0 20).toNat x) 0 20).toNat y) 16 ((upz (upz s7 14 (s7 0 20).toNat x) 15 ((upz s7 14 (s7 0 20).toNat x) 0 20).toNat y) 0 20).toNat ((upz (upz s7 14 (s7 0 20).toNat x) 15 ((upz s7 14 (s7 0 20).toNat x) 0 20).toNat y) 0 21)) 0 21)), .ref 7168], [r0, r1, r2, r3, r4, r5, r6, zH (upz (upz (upz s7 14 (s7 0 20).toNat x) 15 ((upz s7 14 (s7 0 20).toNat x) 0 20).toNat y) 16 ((upz (upz s7 14 (s7 0 20).toNat x) 15 ((upz s7 14 (s7 0 20).toNat x) 0 20).toNat y) 0 20).toNat ((upz (upz s7 14 (s7 0 20).toNat x) 15 ((upz s7 14 (s7 0 20).toNat x) 0 20).toNat y) 0 21)) zL7 0, r8, r9])) rfl ?_
                  refine zB.opi oX12_joint rfl (zi_add ((upz (upz (upz s7 14 (s7 0 20).toNat x) 15 ((upz s7 14 (s7 0 20).toNat x) 0 20).toNat y) 16 ((upz (upz s7 14 (s7 0 20).toNat x) 15 ((upz s7 14 (s7 0 20).toNat x) 0 20).toNat y) 0 20).toNat ((upz (upz s7 14 (s7 0 20).toNat x) 15 ((upz s7 14 (s7 0 20).toNat x) 0 20).toNat y) 0 21)) 0 21) 0) ?_
                  refine zB.putI oX12_joint (g := 7) (p := 0) (c := 12) (k := 21) (y := 0) (hp1 := [r0, r1, r2, r3, r4, r5, r6, zH (upz (upz (upz (upz s7 14 (s7 0 20).toNat x) 15 ((upz s7 14 (s7 0 20).toNat x) 0 20).toNat y) 16 ((upz (upz s7 14 (s7 0 20).toNat x) 15 ((upz s7 14 (s7 0 20).toNat x) 0 20).toNat y) 0 20).toNat ((upz (upz s7 14 (s7 0 20).toNat x) 15 ((upz s7 14 (s7 0 20).toNat x) 0 20).toNat y) 0 21)) 0 21 (((upz (upz (upz s7 14 (s7 0 20).toNat x) 15 ((upz s7 14 (s7 0 20).toNat x) 0 20).toNat y) 16 ((upz (upz s7 14 (s7 0 20).toNat x) 15 ((upz s7 14 (s7 0 20).toNat x) 0 20).toNat y) 0 20).toNat ((upz (upz s7 14 (s7 0 20).toNat x) 15 ((upz s7 14 (s7 0 20).toNat x) 0 20).toNat y) 0 21)) 0 21) + 0)) zL7 0, r8, r9]) rfl rfl (by decide) (by decide) rfl rfl rfl rfl rfl rfl ?_
                  refine xB.run oX12_joint 4 (s := (160, [some (.ref 7168), some (.int (zI x)), some (.int (zI y)), some (.int (zI held)), some (.int (zI y17))], [.int (zI 1), .int (zI ((upz (upz (upz (upz s7 14 (s7 0 20).toNat x) 15 ((upz s7 14 (s7 0 20).toNat x) 0 20).toNat y) 16 ((upz (upz s7 14 (s7 0 20).toNat x) 15 ((upz s7 14 (s7 0 20).toNat x) 0 20).toNat y) 0 20).toNat ((upz (upz s7 14 (s7 0 20).toNat x) 15 ((upz s7 14 (s7 0 20).toNat x) 0 20).toNat y) 0 21)) 0 21 (((upz (upz (upz s7 14 (s7 0 20).toNat x) 15 ((upz s7 14 (s7 0 20).toNat x) 0 20).toNat y) 16 ((upz (upz s7 14 (s7 0 20).toNat x) 15 ((upz s7 14 (s7 0 20).toNat x) 0 20).toNat y) 0 20).toNat ((upz (upz s7 14 (s7 0 20).toNat x) 15 ((upz s7 14 (s7 0 20).toNat x) 0 20).toNat y) 0 21)) 0 21) + 0)) 0 20)), .ref 7168], [r0, r1, r2, r3, r4, r5, r6, zH (upz (upz (upz (upz s7 14 (s7 0 20).toNat x) 15 ((upz s7 14 (s7 0 20).toNat x) 0 20).toNat y) 16 ((upz (upz s7 14 (s7 0 20).toNat x) 15 ((upz s7 14 (s7 0 20).toNat x) 0 20).toNat y) 0 20).toNat ((upz (upz s7 14 (s7 0 20).toNat x) 15 ((upz s7 14 (s7 0 20).toNat x) 0 20).toNat y) 0 21)) 0 21 (((upz (upz (upz s7 14 (s7 0 20).toNat x) 15 ((upz s7 14 (s7 0 20).toNat x) 0 20).toNat y) 16 ((upz (upz s7 14 (s7 0 20).toNat x) 15 ((upz s7 14 (s7 0 20).toNat x) 0 20).toNat y) 0 20).toNat ((upz (upz s7 14 (s7 0 20).toNat x) 15 ((upz s7 14 (s7 0 20).toNat x) 0 20).toNat y) 0 21)) 0 21) + 0)) zL7 0, r8, r9])) rfl ?_
                  refine zB.opi oX12_joint rfl (zi_add ((upz (upz (upz (upz s7 14 (s7 0 20).toNat x) 15 ((upz s7 14 (s7 0 20).toNat x) 0 20).toNat y) 16 ((upz (upz s7 14 (s7 0 20).toNat x) 15 ((upz s7 14 (s7 0 20).toNat x) 0 20).toNat y) 0 20).toNat ((upz (upz s7 14 (s7 0 20).toNat x) 15 ((upz s7 14 (s7 0 20).toNat x) 0 20).toNat y) 0 21)) 0 21 (((upz (upz (upz s7 14 (s7 0 20).toNat x) 15 ((upz s7 14 (s7 0 20).toNat x) 0 20).toNat y) 16 ((upz (upz s7 14 (s7 0 20).toNat x) 15 ((upz s7 14 (s7 0 20).toNat x) 0 20).toNat y) 0 20).toNat ((upz (upz s7 14 (s7 0 20).toNat x) 15 ((upz s7 14 (s7 0 20).toNat x) 0 20).toNat y) 0 21)) 0 21) + 0)) 0 20) 1) ?_
                  refine zB.putI oX12_joint (g := 7) (p := 0) (c := 12) (k := 20) (y := 0) (hp1 := [r0, r1, r2, r3, r4, r5, r6, zH (upz (upz (upz (upz (upz s7 14 (s7 0 20).toNat x) 15 ((upz s7 14 (s7 0 20).toNat x) 0 20).toNat y) 16 ((upz (upz s7 14 (s7 0 20).toNat x) 15 ((upz s7 14 (s7 0 20).toNat x) 0 20).toNat y) 0 20).toNat ((upz (upz s7 14 (s7 0 20).toNat x) 15 ((upz s7 14 (s7 0 20).toNat x) 0 20).toNat y) 0 21)) 0 21 (((upz (upz (upz s7 14 (s7 0 20).toNat x) 15 ((upz s7 14 (s7 0 20).toNat x) 0 20).toNat y) 16 ((upz (upz s7 14 (s7 0 20).toNat x) 15 ((upz s7 14 (s7 0 20).toNat x) 0 20).toNat y) 0 20).toNat ((upz (upz s7 14 (s7 0 20).toNat x) 15 ((upz s7 14 (s7 0 20).toNat x) 0 20).toNat y) 0 21)) 0 21) + 0)) 0 20 (((upz (upz (upz (upz s7 14 (s7 0 20).toNat x) 15 ((upz s7 14 (s7 0 20).toNat x) 0 20).toNat y) 16 ((upz (upz s7 14 (s7 0 20).toNat x) 15 ((upz s7 14 (s7 0 20).toNat x) 0 20).toNat y) 0 20).toNat ((upz (upz s7 14 (s7 0 20).toNat x) 15 ((upz s7 14 (s7 0 20).toNat x) 0 20).toNat y) 0 21)) 0 21 (((upz (upz (upz s7 14 (s7 0 20).toNat x) 15 ((upz s7 14 (s7 0 20).toNat x) 0 20).toNat y) 16 ((upz (upz s7 14 (s7 0 20).toNat x) 15 ((upz s7 14 (s7 0 20).toNat x) 0 20).toNat y) 0 20).toNat ((upz (upz s7 14 (s7 0 20).toNat x) 15 ((upz s7 14 (s7 0 20).toNat x) 0 20).toNat y) 0 21)) 0 21) + 0)) 0 20) + 1)) zL7 0, r8, r9]) rfl rfl (by decide) (by decide) rfl rfl rfl rfl rfl rfl ?_
                  refine xB.run oX12_joint 3 (s := (169, [some (.ref 7168), some (.int (zI x)), some (.int (zI y)), some (.int (zI held)), some (.int (zI y17))], [.int (zI 1), .int (zI ((upz (upz (upz (upz (upz s7 14 (s7 0 20).toNat x) 15 ((upz s7 14 (s7 0 20).toNat x) 0 20).toNat y) 16 ((upz (upz s7 14 (s7 0 20).toNat x) 15 ((upz s7 14 (s7 0 20).toNat x) 0 20).toNat y) 0 20).toNat ((upz (upz s7 14 (s7 0 20).toNat x) 15 ((upz s7 14 (s7 0 20).toNat x) 0 20).toNat y) 0 21)) 0 21 (((upz (upz (upz s7 14 (s7 0 20).toNat x) 15 ((upz s7 14 (s7 0 20).toNat x) 0 20).toNat y) 16 ((upz (upz s7 14 (s7 0 20).toNat x) 15 ((upz s7 14 (s7 0 20).toNat x) 0 20).toNat y) 0 20).toNat ((upz (upz s7 14 (s7 0 20).toNat x) 15 ((upz s7 14 (s7 0 20).toNat x) 0 20).toNat y) 0 21)) 0 21) + 0)) 0 20 (((upz (upz (upz (upz s7 14 (s7 0 20).toNat x) 15 ((upz s7 14 (s7 0 20).toNat x) 0 20).toNat y) 16 ((upz (upz s7 14 (s7 0 20).toNat x) 15 ((upz s7 14 (s7 0 20).toNat x) 0 20).toNat y) 0 20).toNat ((upz (upz s7 14 (s7 0 20).toNat x) 15 ((upz s7 14 (s7 0 20).toNat x) 0 20).toNat y) 0 21)) 0 21 (((upz (upz (upz s7 14 (s7 0 20).toNat x) 15 ((upz s7 14 (s7 0 20).toNat x) 0 20).toNat y) 16 ((upz (upz s7 14 (s7 0 20).toNat x) 15 ((upz s7 14 (s7 0 20).toNat x) 0 20).toNat y) 0 20).toNat ((upz (upz s7 14 (s7 0 20).toNat x) 15 ((upz s7 14 (s7 0 20).toNat x) 0 20).toNat y) 0 21)) 0 21) + 0)) 0 20) + 1)) 0 20))], [r0, r1, r2, r3, r4, r5, r6, zH (upz (upz (upz (upz (upz s7 14 (s7 0 20).toNat x) 15 ((upz s7 14 (s7 0 20).toNat x) 0 20).toNat y) 16 ((upz (upz s7 14 (s7 0 20).toNat x) 15 ((upz s7 14 (s7 0 20).toNat x) 0 20).toNat y) 0 20).toNat ((upz (upz s7 14 (s7 0 20).toNat x) 15 ((upz s7 14 (s7 0 20).toNat x) 0 20).toNat y) 0 21)) 0 21 (((upz (upz (upz s7 14 (s7 0 20).toNat x) 15 ((upz s7 14 (s7 0 20).toNat x) 0 20).toNat y) 16 ((upz (upz s7 14 (s7 0 20).toNat x) 15 ((upz s7 14 (s7 0 20).toNat x) 0 20).toNat y) 0 20).toNat ((upz (upz s7 14 (s7 0 20).toNat x) 15 ((upz s7 14 (s7 0 20).toNat x) 0 20).toNat y) 0 21)) 0 21) + 0)) 0 20 (((upz (upz (upz (upz s7 14 (s7 0 20).toNat x) 15 ((upz s7 14 (s7 0 20).toNat x) 0 20).toNat y) 16 ((upz (upz s7 14 (s7 0 20).toNat x) 15 ((upz s7 14 (s7 0 20).toNat x) 0 20).toNat y) 0 20).toNat ((upz (upz s7 14 (s7 0 20).toNat x) 15 ((upz s7 14 (s7 0 20).toNat x) 0 20).toNat y) 0 21)) 0 21 (((upz (upz (upz s7 14 (s7 0 20).toNat x) 15 ((upz s7 14 (s7 0 20).toNat x) 0 20).toNat y) 16 ((upz (upz s7 14 (s7 0 20).toNat x) 15 ((upz s7 14 (s7 0 20).toNat x) 0 20).toNat y) 0 20).toNat ((upz (upz s7 14 (s7 0 20).toNat x) 15 ((upz s7 14 (s7 0 20).toNat x) 0 20).toNat y) 0 21)) 0 21) + 0)) 0 20) + 1)) zL7 0, r8, r9])) rfl ?_
                  refine zB.opi oX12_joint rfl (zi_sub ((upz (upz (upz (upz (upz s7 14 (s7 0 20).toNat x) 15 ((upz s7 14 (s7 0 20).toNat x) 0 20).toNat y) 16 ((upz (upz s7 14 (s7 0 20).toNat x) 15 ((upz s7 14 (s7 0 20).toNat x) 0 20).toNat y) 0 20).toNat ((upz (upz s7 14 (s7 0 20).toNat x) 15 ((upz s7 14 (s7 0 20).toNat x) 0 20).toNat y) 0 21)) 0 21 (((upz (upz (upz s7 14 (s7 0 20).toNat x) 15 ((upz s7 14 (s7 0 20).toNat x) 0 20).toNat y) 16 ((upz (upz s7 14 (s7 0 20).toNat x) 15 ((upz s7 14 (s7 0 20).toNat x) 0 20).toNat y) 0 20).toNat ((upz (upz s7 14 (s7 0 20).toNat x) 15 ((upz s7 14 (s7 0 20).toNat x) 0 20).toNat y) 0 21)) 0 21) + 0)) 0 20 (((upz (upz (upz (upz s7 14 (s7 0 20).toNat x) 15 ((upz s7 14 (s7 0 20).toNat x) 0 20).toNat y) 16 ((upz (upz s7 14 (s7 0 20).toNat x) 15 ((upz s7 14 (s7 0 20).toNat x) 0 20).toNat y) 0 20).toNat ((upz (upz s7 14 (s7 0 20).toNat x) 15 ((upz s7 14 (s7 0 20).toNat x) 0 20).toNat y) 0 21)) 0 21 (((upz (upz (upz s7 14 (s7 0 20).toNat x) 15 ((upz s7 14 (s7 0 20).toNat x) 0 20).toNat y) 16 ((upz (upz s7 14 (s7 0 20).toNat x) 15 ((upz s7 14 (s7 0 20).toNat x) 0 20).toNat y) 0 20).toNat ((upz (upz s7 14 (s7 0 20).toNat x) 15 ((upz s7 14 (s7 0 20).toNat x) 0 20).toNat y) 0 21)) 0 21) + 0)) 0 20) + 1)) 0 20) 1) ?_
                  obtain rfl := Option.some.inj H
                  exact xB.ret oX12_joint (r1 := some (.int (zI (((upz (upz (upz (upz (upz s7 14 (s7 0 20).toNat x) 15 ((upz s7 14 (s7 0 20).toNat x) 0 20).toNat y) 16 ((upz (upz s7 14 (s7 0 20).toNat x) 15 ((upz s7 14 (s7 0 20).toNat x) 0 20).toNat y) 0 20).toNat ((upz (upz s7 14 (s7 0 20).toNat x) 15 ((upz s7 14 (s7 0 20).toNat x) 0 20).toNat y) 0 21)) 0 21 (((upz (upz (upz s7 14 (s7 0 20).toNat x) 15 ((upz s7 14 (s7 0 20).toNat x) 0 20).toNat y) 16 ((upz (upz s7 14 (s7 0 20).toNat x) 15 ((upz s7 14 (s7 0 20).toNat x) 0 20).toNat y) 0 20).toNat ((upz (upz s7 14 (s7 0 20).toNat x) 15 ((upz s7 14 (s7 0 20).toNat x) 0 20).toNat y) 0 21)) 0 21) + 0)) 0 20 (((upz (upz (upz (upz s7 14 (s7 0 20).toNat x) 15 ((upz s7 14 (s7 0 20).toNat x) 0 20).toNat y) 16 ((upz (upz s7 14 (s7 0 20).toNat x) 15 ((upz s7 14 (s7 0 20).toNat x) 0 20).toNat y) 0 20).toNat ((upz (upz s7 14 (s7 0 20).toNat x) 15 ((upz s7 14 (s7 0 20).toNat x) 0 20).toNat y) 0 21)) 0 21 (((upz (upz (upz s7 14 (s7 0 20).toNat x) 15 ((upz s7 14 (s7 0 20).toNat x) 0 20).toNat y) 16 ((upz (upz s7 14 (s7 0 20).toNat x) 15 ((upz s7 14 (s7 0 20).toNat x) 0 20).toNat y) 0 20).toNat ((upz (upz s7 14 (s7 0 20).toNat x) 15 ((upz s7 14 (s7 0 20).toNat x) 0 20).toNat y) 0 21)) 0 21) + 0)) 0 20) + 1)) 0 20) - 1)))) rfl rfl rfl
              · have H := H.2 h32
                refine xB.run oX12_joint 2 (s := (135, [some (.ref 7168), some (.int (zI x)), some (.int (zI y)), some (.int (zI held)), some (.int (zI y17))], [.int (zI (-9)), .int (zI ((upz (upz s7 14 (s7 0 20).toNat x) 15 ((upz s7 14 (s7 0 20).toNat x) 0 20).toNat y) 0 20)), .ref 7184], [r0, r1, r2, r3, r4, r5, r6, zH (upz (upz s7 14 (s7 0 20).toNat x) 15 ((upz s7 14 (s7 0 20).toNat x) 0 20).toNat y) zL7 0, r8, r9])) rfl ?_
                obtain ⟨g38, H⟩ := zgd H
                refine zB.iast oX12_joint (g := 7) (p := 16) (N := 8) (i := (upz (upz s7 14 (s7 0 20).toNat x) 15 ((upz s7 14 (s7 0 20).toNat x) 0 20).toNat y) 0 20) (hp1 := [r0, r1, r2, r3, r4, r5, r6, zH (upz (upz (upz s7 14 (s7 0 20).toNat x) 15 ((upz s7 14 (s7 0 20).toNat x) 0 20).toNat y) 16 ((upz (upz s7 14 (s7 0 20).toNat x) 15 ((upz s7 14 (s7 0 20).toNat x) 0 20).toNat y) 0 20).toNat (-9)) zL7 0, r8, r9]) rfl rfl (by decide) (by decide) rfl rfl (by decide) g38 rfl ?_
                refine xB.run oX12_joint 4 (s := (142, [some (.ref 7168), some (.int (zI x)), some (.int (zI y)), some (.int (zI held)), some (.int (zI y17))], [.int (zI held), .int (zI ((upz (upz (upz s7 14 (s7 0 20).toNat x) 15 ((upz s7 14 (s7 0 20).toNat x) 0 20).toNat y) 16 ((upz (upz s7 14 (s7 0 20).toNat x) 15 ((upz s7 14 (s7 0 20).toNat x) 0 20).toNat y) 0 20).toNat (-9)) 0 21)), .ref 7168], [r0, r1, r2, r3, r4, r5, r6, zH (upz (upz (upz s7 14 (s7 0 20).toNat x) 15 ((upz s7 14 (s7 0 20).toNat x) 0 20).toNat y) 16 ((upz (upz s7 14 (s7 0 20).toNat x) 15 ((upz s7 14 (s7 0 20).toNat x) 0 20).toNat y) 0 20).toNat (-9)) zL7 0, r8, r9])) rfl ?_
                obtain ⟨g37, H⟩ := zgd H
                have H := zif H
                refine xB.brE oX12_joint (P := held = 0) rfl (zc_eq (a := held) (b := 0) ⟨g37, by decide⟩) (fun h36 => ?_) (fun h36 => ?_)
                · have H := H.1 h36
                  refine xB.run oX12_joint 1 (s := (150, [some (.ref 7168), some (.int (zI x)), some (.int (zI y)), some (.int (zI held)), some (.int (zI y17))], [.int (zI 1), .int (zI ((upz (upz (upz s7 14 (s7 0 20).toNat x) 15 ((upz s7 14 (s7 0 20).toNat x) 0 20).toNat y) 16 ((upz (upz s7 14 (s7 0 20).toNat x) 15 ((upz s7 14 (s7 0 20).toNat x) 0 20).toNat y) 0 20).toNat (-9)) 0 21)), .ref 7168], [r0, r1, r2, r3, r4, r5, r6, zH (upz (upz (upz s7 14 (s7 0 20).toNat x) 15 ((upz s7 14 (s7 0 20).toNat x) 0 20).toNat y) 16 ((upz (upz s7 14 (s7 0 20).toNat x) 15 ((upz s7 14 (s7 0 20).toNat x) 0 20).toNat y) 0 20).toNat (-9)) zL7 0, r8, r9])) rfl ?_
                  refine zB.opi oX12_joint rfl (zi_add ((upz (upz (upz s7 14 (s7 0 20).toNat x) 15 ((upz s7 14 (s7 0 20).toNat x) 0 20).toNat y) 16 ((upz (upz s7 14 (s7 0 20).toNat x) 15 ((upz s7 14 (s7 0 20).toNat x) 0 20).toNat y) 0 20).toNat (-9)) 0 21) 1) ?_
                  refine zB.putI oX12_joint (g := 7) (p := 0) (c := 12) (k := 21) (y := 0) (hp1 := [r0, r1, r2, r3, r4, r5, r6, zH (upz (upz (upz (upz s7 14 (s7 0 20).toNat x) 15 ((upz s7 14 (s7 0 20).toNat x) 0 20).toNat y) 16 ((upz (upz s7 14 (s7 0 20).toNat x) 15 ((upz s7 14 (s7 0 20).toNat x) 0 20).toNat y) 0 20).toNat (-9)) 0 21 (((upz (upz (upz s7 14 (s7 0 20).toNat x) 15 ((upz s7 14 (s7 0 20).toNat x) 0 20).toNat y) 16 ((upz (upz s7 14 (s7 0 20).toNat x) 15 ((upz s7 14 (s7 0 20).toNat x) 0 20).toNat y) 0 20).toNat (-9)) 0 21) + 1)) zL7 0, r8, r9]) rfl rfl (by decide) (by decide) rfl rfl rfl rfl rfl rfl ?_
                  refine xB.run oX12_joint 4 (s := (160, [some (.ref 7168), some (.int (zI x)), some (.int (zI y)), some (.int (zI held)), some (.int (zI y17))], [.int (zI 1), .int (zI ((upz (upz (upz (upz s7 14 (s7 0 20).toNat x) 15 ((upz s7 14 (s7 0 20).toNat x) 0 20).toNat y) 16 ((upz (upz s7 14 (s7 0 20).toNat x) 15 ((upz s7 14 (s7 0 20).toNat x) 0 20).toNat y) 0 20).toNat (-9)) 0 21 (((upz (upz (upz s7 14 (s7 0 20).toNat x) 15 ((upz s7 14 (s7 0 20).toNat x) 0 20).toNat y) 16 ((upz (upz s7 14 (s7 0 20).toNat x) 15 ((upz s7 14 (s7 0 20).toNat x) 0 20).toNat y) 0 20).toNat (-9)) 0 21) + 1)) 0 20)), .ref 7168], [r0, r1, r2, r3, r4, r5, r6, zH (upz (upz (upz (upz s7 14 (s7 0 20).toNat x) 15 ((upz s7 14 (s7 0 20).toNat x) 0 20).toNat y) 16 ((upz (upz s7 14 (s7 0 20).toNat x) 15 ((upz s7 14 (s7 0 20).toNat x) 0 20).toNat y) 0 20).toNat (-9)) 0 21 (((upz (upz (upz s7 14 (s7 0 20).toNat x) 15 ((upz s7 14 (s7 0 20).toNat x) 0 20).toNat y) 16 ((upz (upz s7 14 (s7 0 20).toNat x) 15 ((upz s7 14 (s7 0 20).toNat x) 0 20).toNat y) 0 20).toNat (-9)) 0 21) + 1)) zL7 0, r8, r9])) rfl ?_
                  refine zB.opi oX12_joint rfl (zi_add ((upz (upz (upz (upz s7 14 (s7 0 20).toNat x) 15 ((upz s7 14 (s7 0 20).toNat x) 0 20).toNat y) 16 ((upz (upz s7 14 (s7 0 20).toNat x) 15 ((upz s7 14 (s7 0 20).toNat x) 0 20).toNat y) 0 20).toNat (-9)) 0 21 (((upz (upz (upz s7 14 (s7 0 20).toNat x) 15 ((upz s7 14 (s7 0 20).toNat x) 0 20).toNat y) 16 ((upz (upz s7 14 (s7 0 20).toNat x) 15 ((upz s7 14 (s7 0 20).toNat x) 0 20).toNat y) 0 20).toNat (-9)) 0 21) + 1)) 0 20) 1) ?_
                  refine zB.putI oX12_joint (g := 7) (p := 0) (c := 12) (k := 20) (y := 0) (hp1 := [r0, r1, r2, r3, r4, r5, r6, zH (upz (upz (upz (upz (upz s7 14 (s7 0 20).toNat x) 15 ((upz s7 14 (s7 0 20).toNat x) 0 20).toNat y) 16 ((upz (upz s7 14 (s7 0 20).toNat x) 15 ((upz s7 14 (s7 0 20).toNat x) 0 20).toNat y) 0 20).toNat (-9)) 0 21 (((upz (upz (upz s7 14 (s7 0 20).toNat x) 15 ((upz s7 14 (s7 0 20).toNat x) 0 20).toNat y) 16 ((upz (upz s7 14 (s7 0 20).toNat x) 15 ((upz s7 14 (s7 0 20).toNat x) 0 20).toNat y) 0 20).toNat (-9)) 0 21) + 1)) 0 20 (((upz (upz (upz (upz s7 14 (s7 0 20).toNat x) 15 ((upz s7 14 (s7 0 20).toNat x) 0 20).toNat y) 16 ((upz (upz s7 14 (s7 0 20).toNat x) 15 ((upz s7 14 (s7 0 20).toNat x) 0 20).toNat y) 0 20).toNat (-9)) 0 21 (((upz (upz (upz s7 14 (s7 0 20).toNat x) 15 ((upz s7 14 (s7 0 20).toNat x) 0 20).toNat y) 16 ((upz (upz s7 14 (s7 0 20).toNat x) 15 ((upz s7 14 (s7 0 20).toNat x) 0 20).toNat y) 0 20).toNat (-9)) 0 21) + 1)) 0 20) + 1)) zL7 0, r8, r9]) rfl rfl (by decide) (by decide) rfl rfl rfl rfl rfl rfl ?_
                  refine xB.run oX12_joint 3 (s := (169, [some (.ref 7168), some (.int (zI x)), some (.int (zI y)), some (.int (zI held)), some (.int (zI y17))], [.int (zI 1), .int (zI ((upz (upz (upz (upz (upz s7 14 (s7 0 20).toNat x) 15 ((upz s7 14 (s7 0 20).toNat x) 0 20).toNat y) 16 ((upz (upz s7 14 (s7 0 20).toNat x) 15 ((upz s7 14 (s7 0 20).toNat x) 0 20).toNat y) 0 20).toNat (-9)) 0 21 (((upz (upz (upz s7 14 (s7 0 20).toNat x) 15 ((upz s7 14 (s7 0 20).toNat x) 0 20).toNat y) 16 ((upz (upz s7 14 (s7 0 20).toNat x) 15 ((upz s7 14 (s7 0 20).toNat x) 0 20).toNat y) 0 20).toNat (-9)) 0 21) + 1)) 0 20 (((upz (upz (upz (upz s7 14 (s7 0 20).toNat x) 15 ((upz s7 14 (s7 0 20).toNat x) 0 20).toNat y) 16 ((upz (upz s7 14 (s7 0 20).toNat x) 15 ((upz s7 14 (s7 0 20).toNat x) 0 20).toNat y) 0 20).toNat (-9)) 0 21 (((upz (upz (upz s7 14 (s7 0 20).toNat x) 15 ((upz s7 14 (s7 0 20).toNat x) 0 20).toNat y) 16 ((upz (upz s7 14 (s7 0 20).toNat x) 15 ((upz s7 14 (s7 0 20).toNat x) 0 20).toNat y) 0 20).toNat (-9)) 0 21) + 1)) 0 20) + 1)) 0 20))], [r0, r1, r2, r3, r4, r5, r6, zH (upz (upz (upz (upz (upz s7 14 (s7 0 20).toNat x) 15 ((upz s7 14 (s7 0 20).toNat x) 0 20).toNat y) 16 ((upz (upz s7 14 (s7 0 20).toNat x) 15 ((upz s7 14 (s7 0 20).toNat x) 0 20).toNat y) 0 20).toNat (-9)) 0 21 (((upz (upz (upz s7 14 (s7 0 20).toNat x) 15 ((upz s7 14 (s7 0 20).toNat x) 0 20).toNat y) 16 ((upz (upz s7 14 (s7 0 20).toNat x) 15 ((upz s7 14 (s7 0 20).toNat x) 0 20).toNat y) 0 20).toNat (-9)) 0 21) + 1)) 0 20 (((upz (upz (upz (upz s7 14 (s7 0 20).toNat x) 15 ((upz s7 14 (s7 0 20).toNat x) 0 20).toNat y) 16 ((upz (upz s7 14 (s7 0 20).toNat x) 15 ((upz s7 14 (s7 0 20).toNat x) 0 20).toNat y) 0 20).toNat (-9)) 0 21 (((upz (upz (upz s7 14 (s7 0 20).toNat x) 15 ((upz s7 14 (s7 0 20).toNat x) 0 20).toNat y) 16 ((upz (upz s7 14 (s7 0 20).toNat x) 15 ((upz s7 14 (s7 0 20).toNat x) 0 20).toNat y) 0 20).toNat (-9)) 0 21) + 1)) 0 20) + 1)) zL7 0, r8, r9])) rfl ?_
                  refine zB.opi oX12_joint rfl (zi_sub ((upz (upz (upz (upz (upz s7 14 (s7 0 20).toNat x) 15 ((upz s7 14 (s7 0 20).toNat x) 0 20).toNat y) 16 ((upz (upz s7 14 (s7 0 20).toNat x) 15 ((upz s7 14 (s7 0 20).toNat x) 0 20).toNat y) 0 20).toNat (-9)) 0 21 (((upz (upz (upz s7 14 (s7 0 20).toNat x) 15 ((upz s7 14 (s7 0 20).toNat x) 0 20).toNat y) 16 ((upz (upz s7 14 (s7 0 20).toNat x) 15 ((upz s7 14 (s7 0 20).toNat x) 0 20).toNat y) 0 20).toNat (-9)) 0 21) + 1)) 0 20 (((upz (upz (upz (upz s7 14 (s7 0 20).toNat x) 15 ((upz s7 14 (s7 0 20).toNat x) 0 20).toNat y) 16 ((upz (upz s7 14 (s7 0 20).toNat x) 15 ((upz s7 14 (s7 0 20).toNat x) 0 20).toNat y) 0 20).toNat (-9)) 0 21 (((upz (upz (upz s7 14 (s7 0 20).toNat x) 15 ((upz s7 14 (s7 0 20).toNat x) 0 20).toNat y) 16 ((upz (upz s7 14 (s7 0 20).toNat x) 15 ((upz s7 14 (s7 0 20).toNat x) 0 20).toNat y) 0 20).toNat (-9)) 0 21) + 1)) 0 20) + 1)) 0 20) 1) ?_
                  obtain rfl := Option.some.inj H
                  exact xB.ret oX12_joint (r1 := some (.int (zI (((upz (upz (upz (upz (upz s7 14 (s7 0 20).toNat x) 15 ((upz s7 14 (s7 0 20).toNat x) 0 20).toNat y) 16 ((upz (upz s7 14 (s7 0 20).toNat x) 15 ((upz s7 14 (s7 0 20).toNat x) 0 20).toNat y) 0 20).toNat (-9)) 0 21 (((upz (upz (upz s7 14 (s7 0 20).toNat x) 15 ((upz s7 14 (s7 0 20).toNat x) 0 20).toNat y) 16 ((upz (upz s7 14 (s7 0 20).toNat x) 15 ((upz s7 14 (s7 0 20).toNat x) 0 20).toNat y) 0 20).toNat (-9)) 0 21) + 1)) 0 20 (((upz (upz (upz (upz s7 14 (s7 0 20).toNat x) 15 ((upz s7 14 (s7 0 20).toNat x) 0 20).toNat y) 16 ((upz (upz s7 14 (s7 0 20).toNat x) 15 ((upz s7 14 (s7 0 20).toNat x) 0 20).toNat y) 0 20).toNat (-9)) 0 21 (((upz (upz (upz s7 14 (s7 0 20).toNat x) 15 ((upz s7 14 (s7 0 20).toNat x) 0 20).toNat y) 16 ((upz (upz s7 14 (s7 0 20).toNat x) 15 ((upz s7 14 (s7 0 20).toNat x) 0 20).toNat y) 0 20).toNat (-9)) 0 21) + 1)) 0 20) + 1)) 0 20) - 1)))) rfl rfl rfl
                · have H := H.2 h36
                  refine xB.run oX12_joint 2 (s := (150, [some (.ref 7168), some (.int (zI x)), some (.int (zI y)), some (.int (zI held)), some (.int (zI y17))], [.int (zI 0), .int (zI ((upz (upz (upz s7 14 (s7 0 20).toNat x) 15 ((upz s7 14 (s7 0 20).toNat x) 0 20).toNat y) 16 ((upz (upz s7 14 (s7 0 20).toNat x) 15 ((upz s7 14 (s7 0 20).toNat x) 0 20).toNat y) 0 20).toNat (-9)) 0 21)), .ref 7168], [r0, r1, r2, r3, r4, r5, r6, zH (upz (upz (upz s7 14 (s7 0 20).toNat x) 15 ((upz s7 14 (s7 0 20).toNat x) 0 20).toNat y) 16 ((upz (upz s7 14 (s7 0 20).toNat x) 15 ((upz s7 14 (s7 0 20).toNat x) 0 20).toNat y) 0 20).toNat (-9)) zL7 0, r8, r9])) rfl ?_
                  refine zB.opi oX12_joint rfl (zi_add ((upz (upz (upz s7 14 (s7 0 20).toNat x) 15 ((upz s7 14 (s7 0 20).toNat x) 0 20).toNat y) 16 ((upz (upz s7 14 (s7 0 20).toNat x) 15 ((upz s7 14 (s7 0 20).toNat x) 0 20).toNat y) 0 20).toNat (-9)) 0 21) 0) ?_
                  refine zB.putI oX12_joint (g := 7) (p := 0) (c := 12) (k := 21) (y := 0) (hp1 := [r0, r1, r2, r3, r4, r5, r6, zH (upz (upz (upz (upz s7 14 (s7 0 20).toNat x) 15 ((upz s7 14 (s7 0 20).toNat x) 0 20).toNat y) 16 ((upz (upz s7 14 (s7 0 20).toNat x) 15 ((upz s7 14 (s7 0 20).toNat x) 0 20).toNat y) 0 20).toNat (-9)) 0 21 (((upz (upz (upz s7 14 (s7 0 20).toNat x) 15 ((upz s7 14 (s7 0 20).toNat x) 0 20).toNat y) 16 ((upz (upz s7 14 (s7 0 20).toNat x) 15 ((upz s7 14 (s7 0 20).toNat x) 0 20).toNat y) 0 20).toNat (-9)) 0 21) + 0)) zL7 0, r8, r9]) rfl rfl (by decide) (by decide) rfl rfl rfl rfl rfl rfl ?_
                  refine xB.run oX12_joint 4 (s := (160, [some (.ref 7168), some (.int (zI x)), some (.int (zI y)), some (.int (zI held)), some (.int (zI y17))], [.int (zI 1), .int (zI ((upz (upz (upz (upz s7 14 (s7 0 20).toNat x) 15 ((upz s7 14 (s7 0 20).toNat x) 0 20).toNat y) 16 ((upz (upz s7 14 (s7 0 20).toNat x) 15 ((upz s7 14 (s7 0 20).toNat x) 0 20).toNat y) 0 20).toNat (-9)) 0 21 (((upz (upz (upz s7 14 (s7 0 20).toNat x) 15 ((upz s7 14 (s7 0 20).toNat x) 0 20).toNat y) 16 ((upz (upz s7 14 (s7 0 20).toNat x) 15 ((upz s7 14 (s7 0 20).toNat x) 0 20).toNat y) 0 20).toNat (-9)) 0 21) + 0)) 0 20)), .ref 7168], [r0, r1, r2, r3, r4, r5, r6, zH (upz (upz (upz (upz s7 14 (s7 0 20).toNat x) 15 ((upz s7 14 (s7 0 20).toNat x) 0 20).toNat y) 16 ((upz (upz s7 14 (s7 0 20).toNat x) 15 ((upz s7 14 (s7 0 20).toNat x) 0 20).toNat y) 0 20).toNat (-9)) 0 21 (((upz (upz (upz s7 14 (s7 0 20).toNat x) 15 ((upz s7 14 (s7 0 20).toNat x) 0 20).toNat y) 16 ((upz (upz s7 14 (s7 0 20).toNat x) 15 ((upz s7 14 (s7 0 20).toNat x) 0 20).toNat y) 0 20).toNat (-9)) 0 21) + 0)) zL7 0, r8, r9])) rfl ?_
                  refine zB.opi oX12_joint rfl (zi_add ((upz (upz (upz (upz s7 14 (s7 0 20).toNat x) 15 ((upz s7 14 (s7 0 20).toNat x) 0 20).toNat y) 16 ((upz (upz s7 14 (s7 0 20).toNat x) 15 ((upz s7 14 (s7 0 20).toNat x) 0 20).toNat y) 0 20).toNat (-9)) 0 21 (((upz (upz (upz s7 14 (s7 0 20).toNat x) 15 ((upz s7 14 (s7 0 20).toNat x) 0 20).toNat y) 16 ((upz (upz s7 14 (s7 0 20).toNat x) 15 ((upz s7 14 (s7 0 20).toNat x) 0 20).toNat y) 0 20).toNat (-9)) 0 21) + 0)) 0 20) 1) ?_
                  refine zB.putI oX12_joint (g := 7) (p := 0) (c := 12) (k := 20) (y := 0) (hp1 := [r0, r1, r2, r3, r4, r5, r6, zH (upz (upz (upz (upz (upz s7 14 (s7 0 20).toNat x) 15 ((upz s7 14 (s7 0 20).toNat x) 0 20).toNat y) 16 ((upz (upz s7 14 (s7 0 20).toNat x) 15 ((upz s7 14 (s7 0 20).toNat x) 0 20).toNat y) 0 20).toNat (-9)) 0 21 (((upz (upz (upz s7 14 (s7 0 20).toNat x) 15 ((upz s7 14 (s7 0 20).toNat x) 0 20).toNat y) 16 ((upz (upz s7 14 (s7 0 20).toNat x) 15 ((upz s7 14 (s7 0 20).toNat x) 0 20).toNat y) 0 20).toNat (-9)) 0 21) + 0)) 0 20 (((upz (upz (upz (upz s7 14 (s7 0 20).toNat x) 15 ((upz s7 14 (s7 0 20).toNat x) 0 20).toNat y) 16 ((upz (upz s7 14 (s7 0 20).toNat x) 15 ((upz s7 14 (s7 0 20).toNat x) 0 20).toNat y) 0 20).toNat (-9)) 0 21 (((upz (upz (upz s7 14 (s7 0 20).toNat x) 15 ((upz s7 14 (s7 0 20).toNat x) 0 20).toNat y) 16 ((upz (upz s7 14 (s7 0 20).toNat x) 15 ((upz s7 14 (s7 0 20).toNat x) 0 20).toNat y) 0 20).toNat (-9)) 0 21) + 0)) 0 20) + 1)) zL7 0, r8, r9]) rfl rfl (by decide) (by decide) rfl rfl rfl rfl rfl rfl ?_
                  refine xB.run oX12_joint 3 (s := (169, [some (.ref 7168), some (.int (zI x)), some (.int (zI y)), some (.int (zI held)), some (.int (zI y17))], [.int (zI 1), .int (zI ((upz (upz (upz (upz (upz s7 14 (s7 0 20).toNat x) 15 ((upz s7 14 (s7 0 20).toNat x) 0 20).toNat y) 16 ((upz (upz s7 14 (s7 0 20).toNat x) 15 ((upz s7 14 (s7 0 20).toNat x) 0 20).toNat y) 0 20).toNat (-9)) 0 21 (((upz (upz (upz s7 14 (s7 0 20).toNat x) 15 ((upz s7 14 (s7 0 20).toNat x) 0 20).toNat y) 16 ((upz (upz s7 14 (s7 0 20).toNat x) 15 ((upz s7 14 (s7 0 20).toNat x) 0 20).toNat y) 0 20).toNat (-9)) 0 21) + 0)) 0 20 (((upz (upz (upz (upz s7 14 (s7 0 20).toNat x) 15 ((upz s7 14 (s7 0 20).toNat x) 0 20).toNat y) 16 ((upz (upz s7 14 (s7 0 20).toNat x) 15 ((upz s7 14 (s7 0 20).toNat x) 0 20).toNat y) 0 20).toNat (-9)) 0 21 (((upz (upz (upz s7 14 (s7 0 20).toNat x) 15 ((upz s7 14 (s7 0 20).toNat x) 0 20).toNat y) 16 ((upz (upz s7 14 (s7 0 20).toNat x) 15 ((upz s7 14 (s7 0 20).toNat x) 0 20).toNat y) 0 20).toNat (-9)) 0 21) + 0)) 0 20) + 1)) 0 20))], [r0, r1, r2, r3, r4, r5, r6, zH (upz (upz (upz (upz (upz s7 14 (s7 0 20).toNat x) 15 ((upz s7 14 (s7 0 20).toNat x) 0 20).toNat y) 16 ((upz (upz s7 14 (s7 0 20).toNat x) 15 ((upz s7 14 (s7 0 20).toNat x) 0 20).toNat y) 0 20).toNat (-9)) 0 21 (((upz (upz (upz s7 14 (s7 0 20).toNat x) 15 ((upz s7 14 (s7 0 20).toNat x) 0 20).toNat y) 16 ((upz (upz s7 14 (s7 0 20).toNat x) 15 ((upz s7 14 (s7 0 20).toNat x) 0 20).toNat y) 0 20).toNat (-9)) 0 21) + 0)) 0 20 (((upz (upz (upz (upz s7 14 (s7 0 20).toNat x) 15 ((upz s7 14 (s7 0 20).toNat x) 0 20).toNat y) 16 ((upz (upz s7 14 (s7 0 20).toNat x) 15 ((upz s7 14 (s7 0 20).toNat x) 0 20).toNat y) 0 20).toNat (-9)) 0 21 (((upz (upz (upz s7 14 (s7 0 20).toNat x) 15 ((upz s7 14 (s7 0 20).toNat x) 0 20).toNat y) 16 ((upz (upz s7 14 (s7 0 20).toNat x) 15 ((upz s7 14 (s7 0 20).toNat x) 0 20).toNat y) 0 20).toNat (-9)) 0 21) + 0)) 0 20) + 1)) zL7 0, r8, r9])) rfl ?_
                  refine zB.opi oX12_joint rfl (zi_sub ((upz (upz (upz (upz (upz s7 14 (s7 0 20).toNat x) 15 ((upz s7 14 (s7 0 20).toNat x) 0 20).toNat y) 16 ((upz (upz s7 14 (s7 0 20).toNat x) 15 ((upz s7 14 (s7 0 20).toNat x) 0 20).toNat y) 0 20).toNat (-9)) 0 21 (((upz (upz (upz s7 14 (s7 0 20).toNat x) 15 ((upz s7 14 (s7 0 20).toNat x) 0 20).toNat y) 16 ((upz (upz s7 14 (s7 0 20).toNat x) 15 ((upz s7 14 (s7 0 20).toNat x) 0 20).toNat y) 0 20).toNat (-9)) 0 21) + 0)) 0 20 (((upz (upz (upz (upz s7 14 (s7 0 20).toNat x) 15 ((upz s7 14 (s7 0 20).toNat x) 0 20).toNat y) 16 ((upz (upz s7 14 (s7 0 20).toNat x) 15 ((upz s7 14 (s7 0 20).toNat x) 0 20).toNat y) 0 20).toNat (-9)) 0 21 (((upz (upz (upz s7 14 (s7 0 20).toNat x) 15 ((upz s7 14 (s7 0 20).toNat x) 0 20).toNat y) 16 ((upz (upz s7 14 (s7 0 20).toNat x) 15 ((upz s7 14 (s7 0 20).toNat x) 0 20).toNat y) 0 20).toNat (-9)) 0 21) + 0)) 0 20) + 1)) 0 20) 1) ?_
                  obtain rfl := Option.some.inj H
                  exact xB.ret oX12_joint (r1 := some (.int (zI (((upz (upz (upz (upz (upz s7 14 (s7 0 20).toNat x) 15 ((upz s7 14 (s7 0 20).toNat x) 0 20).toNat y) 16 ((upz (upz s7 14 (s7 0 20).toNat x) 15 ((upz s7 14 (s7 0 20).toNat x) 0 20).toNat y) 0 20).toNat (-9)) 0 21 (((upz (upz (upz s7 14 (s7 0 20).toNat x) 15 ((upz s7 14 (s7 0 20).toNat x) 0 20).toNat y) 16 ((upz (upz s7 14 (s7 0 20).toNat x) 15 ((upz s7 14 (s7 0 20).toNat x) 0 20).toNat y) 0 20).toNat (-9)) 0 21) + 0)) 0 20 (((upz (upz (upz (upz s7 14 (s7 0 20).toNat x) 15 ((upz s7 14 (s7 0 20).toNat x) 0 20).toNat y) 16 ((upz (upz s7 14 (s7 0 20).toNat x) 15 ((upz s7 14 (s7 0 20).toNat x) 0 20).toNat y) 0 20).toNat (-9)) 0 21 (((upz (upz (upz s7 14 (s7 0 20).toNat x) 15 ((upz s7 14 (s7 0 20).toNat x) 0 20).toNat y) 16 ((upz (upz s7 14 (s7 0 20).toNat x) 15 ((upz s7 14 (s7 0 20).toNat x) 0 20).toNat y) 0 20).toNat (-9)) 0 21) + 0)) 0 20) + 1)) 0 20) - 1)))) rfl rfl rfl
            · have H := H.2 h31
              refine xB.run oX12_joint 1 (s := (93, [some (.ref 7168), some (.int (zI x)), some (.int (zI y)), some (.int (zI held)), some (.int (zI y17))], [.int (zI (-4))], [r0, r1, r2, r3, r4, r5, r6, zH s7 zL7 0, r8, r9])) rfl ?_
              obtain rfl := Option.some.inj H
              exact xB.ret oX12_joint (r1 := some (.int (zI (-4)))) rfl rfl rfl
      · subst uQ
        obtain rfl := Option.some.inj H
        exact ⟨rfl, rfl⟩
    · have H := H.2 h6
      refine xB.run oX12_joint 1 (s := (26, [some (.ref 7168), some (.int (zI x)), some (.int (zI y)), some (.int (zI held)), none], [.int (zI (-2))], [r0, r1, r2, r3, r4, r5, r6, zH s7 zL7 0, r8, r9])) rfl ?_
      obtain rfl := Option.some.inj H
      exact xB.ret oX12_joint (r1 := some (.int (zI (-2)))) rfl rfl rfl
def d_X12_bar_54 (s7 : zZ) (kind : Int) (a : Int) (b : Int) (str : Int) : Nat → Int → Option (Sum (Int) (Int × zZ))
  | 0, _ => none
  | uN + 1, k => if (zr k ∧ zr (s7 0 25)) then (if (s7 0 25) ≤ k then some (.inl k) else (if (0 ≤ (2 * k) ∧ (2 * k) < 32) then (if (zr (s7 18 (2 * k).toNat) ∧ zr a) then (if (s7 18 (2 * k).toNat) ≠ a then (if (0 ≤ (2 * k) ∧ (2 * k) < 32) then (if (zr (s7 18 (2 * k).toNat) ∧ zr b) then (if (s7 18 (2 * k).toNat) ≠ b then (d_X12_bar_54 s7 kind a b str uN (k + 1)) else (if (0 ≤ ((2 * k) + 1) ∧ ((2 * k) + 1) < 32) then (if (zr (s7 18 ((2 * k) + 1).toNat) ∧ zr a) then (if (s7 18 ((2 * k) + 1).toNat) ≠ a then (d_X12_bar_54 s7 kind a b str uN (k + 1)) else some (.inr ((-3), s7))) else none) else none)) else none) else none) else (if (0 ≤ ((2 * k) + 1) ∧ ((2 * k) + 1) < 32) then (if (zr (s7 18 ((2 * k) + 1).toNat) ∧ zr b) then (if (s7 18 ((2 * k) + 1).toNat) = b then some (.inr ((-3), s7)) else (if (0 ≤ (2 * k) ∧ (2 * k) < 32) then (if (zr (s7 18 (2 * k).toNat) ∧ zr b) then (if (s7 18 (2 * k).toNat) ≠ b then (d_X12_bar_54 s7 kind a b str uN (k + 1)) else (if (0 ≤ ((2 * k) + 1) ∧ ((2 * k) + 1) < 32) then (if (zr (s7 18 ((2 * k) + 1).toNat) ∧ zr a) then (if (s7 18 ((2 * k) + 1).toNat) ≠ a then (d_X12_bar_54 s7 kind a b str uN (k + 1)) else some (.inr ((-3), s7))) else none) else none)) else none) else none)) else none) else none)) else none) else none)) else none
def d_X12_bar (s7 : zZ) (kind : Int) (a : Int) (b : Int) (str : Int) : Option (Int × zZ) := (d_X12_isJoint s7 a).bind fun y1 => if (zr y1) then (if y1 = 0 then some ((-1), s7) else ((d_X12_isJoint s7 b).bind fun y4 => if (zr y4) then (if y4 ≠ 0 then (if (zr a ∧ zr b) then (if a = b then some ((-2), s7) else (if zr kind then ((d_X12_within kind 0 2).bind fun y8 => if (zr y8) then (if y8 = 0 then some ((-2), s7) else (if zr str then ((d_X12_within str 1 999).bind fun y11 => if (zr y11) then (if y11 ≠ 0 then ((d_X12_bar_54 s7 kind a b str zF 0).bind fun y34 => match y34 with | .inl y36 => if (zr (s7 0 25)) then (if (s7 0 25) ≠ 16 then (if (0 ≤ (s7 0 25) ∧ (s7 0 25) < 16) then (if (0 ≤ (2 * ((upz s7 17 (s7 0 25).toNat kind) 0 25)) ∧ (2 * ((upz s7 17 (s7 0 25).toNat kind) 0 25)) < 32) then (if (0 ≤ ((2 * ((upz (upz s7 17 (s7 0 25).toNat kind) 18 (2 * ((upz s7 17 (s7 0 25).toNat kind) 0 25)).toNat a) 0 25)) + 1) ∧ ((2 * ((upz (upz s7 17 (s7 0 25).toNat kind) 18 (2 * ((upz s7 17 (s7 0 25).toNat kind) 0 25)).toNat a) 0 25)) + 1) < 32) then (if (0 ≤ ((upz (upz (upz s7 17 (s7 0 25).toNat kind) 18 (2 * ((upz s7 17 (s7 0 25).toNat kind) 0 25)).toNat a) 18 ((2 * ((upz (upz s7 17 (s7 0 25).toNat kind) 18 (2 * ((upz s7 17 (s7 0 25).toNat kind) 0 25)).toNat a) 0 25)) + 1).toNat b) 0 25) ∧ ((upz (upz (upz s7 17 (s7 0 25).toNat kind) 18 (2 * ((upz s7 17 (s7 0 25).toNat kind) 0 25)).toNat a) 18 ((2 * ((upz (upz s7 17 (s7 0 25).toNat kind) 18 (2 * ((upz s7 17 (s7 0 25).toNat kind) 0 25)).toNat a) 0 25)) + 1).toNat b) 0 25) < 16) then (if (0 ≤ ((upz (upz (upz (upz s7 17 (s7 0 25).toNat kind) 18 (2 * ((upz s7 17 (s7 0 25).toNat kind) 0 25)).toNat a) 18 ((2 * ((upz (upz s7 17 (s7 0 25).toNat kind) 18 (2 * ((upz s7 17 (s7 0 25).toNat kind) 0 25)).toNat a) 0 25)) + 1).toNat b) 19 ((upz (upz (upz s7 17 (s7 0 25).toNat kind) 18 (2 * ((upz s7 17 (s7 0 25).toNat kind) 0 25)).toNat a) 18 ((2 * ((upz (upz s7 17 (s7 0 25).toNat kind) 18 (2 * ((upz s7 17 (s7 0 25).toNat kind) 0 25)).toNat a) 0 25)) + 1).toNat b) 0 25).toNat str) 0 25) ∧ ((upz (upz (upz (upz s7 17 (s7 0 25).toNat kind) 18 (2 * ((upz s7 17 (s7 0 25).toNat kind) 0 25)).toNat a) 18 ((2 * ((upz (upz s7 17 (s7 0 25).toNat kind) 18 (2 * ((upz s7 17 (s7 0 25).toNat kind) 0 25)).toNat a) 0 25)) + 1).toNat b) 19 ((upz (upz (upz s7 17 (s7 0 25).toNat kind) 18 (2 * ((upz s7 17 (s7 0 25).toNat kind) 0 25)).toNat a) 18 ((2 * ((upz (upz s7 17 (s7 0 25).toNat kind) 18 (2 * ((upz s7 17 (s7 0 25).toNat kind) 0 25)).toNat a) 0 25)) + 1).toNat b) 0 25).toNat str) 0 25) < 16) then some (((upz (upz (upz (upz (upz (upz s7 17 (s7 0 25).toNat kind) 18 (2 * ((upz s7 17 (s7 0 25).toNat kind) 0 25)).toNat a) 18 ((2 * ((upz (upz s7 17 (s7 0 25).toNat kind) 18 (2 * ((upz s7 17 (s7 0 25).toNat kind) 0 25)).toNat a) 0 25)) + 1).toNat b) 19 ((upz (upz (upz s7 17 (s7 0 25).toNat kind) 18 (2 * ((upz s7 17 (s7 0 25).toNat kind) 0 25)).toNat a) 18 ((2 * ((upz (upz s7 17 (s7 0 25).toNat kind) 18 (2 * ((upz s7 17 (s7 0 25).toNat kind) 0 25)).toNat a) 0 25)) + 1).toNat b) 0 25).toNat str) 20 ((upz (upz (upz (upz s7 17 (s7 0 25).toNat kind) 18 (2 * ((upz s7 17 (s7 0 25).toNat kind) 0 25)).toNat a) 18 ((2 * ((upz (upz s7 17 (s7 0 25).toNat kind) 18 (2 * ((upz s7 17 (s7 0 25).toNat kind) 0 25)).toNat a) 0 25)) + 1).toNat b) 19 ((upz (upz (upz s7 17 (s7 0 25).toNat kind) 18 (2 * ((upz s7 17 (s7 0 25).toNat kind) 0 25)).toNat a) 18 ((2 * ((upz (upz s7 17 (s7 0 25).toNat kind) 18 (2 * ((upz s7 17 (s7 0 25).toNat kind) 0 25)).toNat a) 0 25)) + 1).toNat b) 0 25).toNat str) 0 25).toNat 0) 0 25 (((upz (upz (upz (upz (upz s7 17 (s7 0 25).toNat kind) 18 (2 * ((upz s7 17 (s7 0 25).toNat kind) 0 25)).toNat a) 18 ((2 * ((upz (upz s7 17 (s7 0 25).toNat kind) 18 (2 * ((upz s7 17 (s7 0 25).toNat kind) 0 25)).toNat a) 0 25)) + 1).toNat b) 19 ((upz (upz (upz s7 17 (s7 0 25).toNat kind) 18 (2 * ((upz s7 17 (s7 0 25).toNat kind) 0 25)).toNat a) 18 ((2 * ((upz (upz s7 17 (s7 0 25).toNat kind) 18 (2 * ((upz s7 17 (s7 0 25).toNat kind) 0 25)).toNat a) 0 25)) + 1).toNat b) 0 25).toNat str) 20 ((upz (upz (upz (upz s7 17 (s7 0 25).toNat kind) 18 (2 * ((upz s7 17 (s7 0 25).toNat kind) 0 25)).toNat a) 18 ((2 * ((upz (upz s7 17 (s7 0 25).toNat kind) 18 (2 * ((upz s7 17 (s7 0 25).toNat kind) 0 25)).toNat a) 0 25)) + 1).toNat b) 19 ((upz (upz (upz s7 17 (s7 0 25).toNat kind) 18 (2 * ((upz s7 17 (s7 0 25).toNat kind) 0 25)).toNat a) 18 ((2 * ((upz (upz s7 17 (s7 0 25).toNat kind) 18 (2 * ((upz s7 17 (s7 0 25).toNat kind) 0 25)).toNat a) 0 25)) + 1).toNat b) 0 25).toNat str) 0 25).toNat 0) 0 25) + 1)) 0 25) - 1, upz (upz (upz (upz (upz (upz s7 17 (s7 0 25).toNat kind) 18 (2 * ((upz s7 17 (s7 0 25).toNat kind) 0 25)).toNat a) 18 ((2 * ((upz (upz s7 17 (s7 0 25).toNat kind) 18 (2 * ((upz s7 17 (s7 0 25).toNat kind) 0 25)).toNat a) 0 25)) + 1).toNat b) 19 ((upz (upz (upz s7 17 (s7 0 25).toNat kind) 18 (2 * ((upz s7 17 (s7 0 25).toNat kind) 0 25)).toNat a) 18 ((2 * ((upz (upz s7 17 (s7 0 25).toNat kind) 18 (2 * ((upz s7 17 (s7 0 25).toNat kind) 0 25)).toNat a) 0 25)) + 1).toNat b) 0 25).toNat str) 20 ((upz (upz (upz (upz s7 17 (s7 0 25).toNat kind) 18 (2 * ((upz s7 17 (s7 0 25).toNat kind) 0 25)).toNat a) 18 ((2 * ((upz (upz s7 17 (s7 0 25).toNat kind) 18 (2 * ((upz s7 17 (s7 0 25).toNat kind) 0 25)).toNat a) 0 25)) + 1).toNat b) 19 ((upz (upz (upz s7 17 (s7 0 25).toNat kind) 18 (2 * ((upz s7 17 (s7 0 25).toNat kind) 0 25)).toNat a) 18 ((2 * ((upz (upz s7 17 (s7 0 25).toNat kind) 18 (2 * ((upz s7 17 (s7 0 25).toNat kind) 0 25)).toNat a) 0 25)) + 1).toNat b) 0 25).toNat str) 0 25).toNat 0) 0 25 (((upz (upz (upz (upz (upz s7 17 (s7 0 25).toNat kind) 18 (2 * ((upz s7 17 (s7 0 25).toNat kind) 0 25)).toNat a) 18 ((2 * ((upz (upz s7 17 (s7 0 25).toNat kind) 18 (2 * ((upz s7 17 (s7 0 25).toNat kind) 0 25)).toNat a) 0 25)) + 1).toNat b) 19 ((upz (upz (upz s7 17 (s7 0 25).toNat kind) 18 (2 * ((upz s7 17 (s7 0 25).toNat kind) 0 25)).toNat a) 18 ((2 * ((upz (upz s7 17 (s7 0 25).toNat kind) 18 (2 * ((upz s7 17 (s7 0 25).toNat kind) 0 25)).toNat a) 0 25)) + 1).toNat b) 0 25).toNat str) 20 ((upz (upz (upz (upz s7 17 (s7 0 25).toNat kind) 18 (2 * ((upz s7 17 (s7 0 25).toNat kind) 0 25)).toNat a) 18 ((2 * ((upz (upz s7 17 (s7 0 25).toNat kind) 18 (2 * ((upz s7 17 (s7 0 25).toNat kind) 0 25)).toNat a) 0 25)) + 1).toNat b) 19 ((upz (upz (upz s7 17 (s7 0 25).toNat kind) 18 (2 * ((upz s7 17 (s7 0 25).toNat kind) 0 25)).toNat a) 18 ((2 * ((upz (upz s7 17 (s7 0 25).toNat kind) 18 (2 * ((upz s7 17 (s7 0 25).toNat kind) 0 25)).toNat a) 0 25)) + 1).toNat b) 0 25).toNat str) 0 25).toNat 0) 0 25) + 1)) else none) else none) else none) else none) else none) else some ((-4), s7)) else none | .inr y37 => some y37) else some ((-2), s7)) else none) else none)) else none) else none)) else none) else some ((-1), s7)) else none)) else none
set_option maxRecDepth 20000 in
theorem l_X12_bar_54 (r0 : List va_E) (r1 : List va_E) (r2 : List va_E) (r3 : List va_E) (r4 : List va_E) (r5 : List va_E) (r6 : List va_E) (s7 : zZ) (r8 : List va_E) (r9 : List va_E) (kind : Int) (a : Int) (b : Int) (str : Int) {r : Option Value} {hp1 : xH} : ∀ (uN : Nat) (k : Int) {uX : Sum (Int) (Int × zZ)}, d_X12_bar_54 s7 kind a b str uN k = some uX → ((∀ uY, uX = .inl uY → xBody MX12_bar 1 128 [some (.ref 7168), some (.int (zI kind)), some (.int (zI a)), some (.int (zI b)), some (.int (zI str)), some (.int (zI uY))] [] ([r0, r1, r2, r3, r4, r5, r6, zH s7 zL7 0, r8, r9]) r hp1) ∧ (∀ uW, uX = .inr uW → r = some (.int (zI uW.1)) ∧ hp1 = [r0, r1, r2, r3, r4, r5, r6, zH uW.2 zL7 0, r8, r9])) → xBody MX12_bar 1 54 [some (.ref 7168), some (.int (zI kind)), some (.int (zI a)), some (.int (zI b)), some (.int (zI str)), some (.int (zI k))] [] ([r0, r1, r2, r3, r4, r5, r6, zH s7 zL7 0, r8, r9]) r hp1 := by
  intro uN
  induction uN with
  | zero => intro k uX H K; cases H
  | succ uN ih =>
    intro k uX H K
    unfold d_X12_bar_54 at H
    refine xB.run oX12_bar 3 (s := (60, [some (.ref 7168), some (.int (zI kind)), some (.int (zI a)), some (.int (zI b)), some (.int (zI str)), some (.int (zI k))], [.int (zI (s7 0 25)), .int (zI k)], [r0, r1, r2, r3, r4, r5, r6, zH s7 zL7 0, r8, r9])) rfl ?_
    obtain ⟨g33, H⟩ := zgd H
    have H := zif H
    refine xB.brE oX12_bar (P := (s7 0 25) ≤ k) rfl (zc_ge (a := k) (b := s7 0 25) g33) (fun h14 => ?_) (fun h14 => ?_)
    · have H := H.1 h14
      obtain rfl := Option.some.inj H
      exact K.1 _ rfl
    · have H := H.2 h14
      refine xB.run oX12_bar 4 (s := (70, [some (.ref 7168), some (.int (zI kind)), some (.int (zI a)), some (.int (zI b)), some (.int (zI str)), some (.int (zI k))], [.int (zI k), .int (zI 2), .ref 7186], [r0, r1, r2, r3, r4, r5, r6, zH s7 zL7 0, r8, r9])) rfl ?_
      refine zB.opi oX12_bar rfl (zi_mul 2 k) ?_
      obtain ⟨g32, H⟩ := zgd H
      refine zB.iald oX12_bar (g := 7) (p := 18) (N := 32) (i := 2 * k) rfl rfl (by decide) rfl rfl (by decide) g32 ?_
      refine xB.run oX12_bar 1 (s := (73, [some (.ref 7168), some (.int (zI kind)), some (.int (zI a)), some (.int (zI b)), some (.int (zI str)), some (.int (zI k))], [.int (zI a), .int (zI (s7 18 (2 * k).toNat))], [r0, r1, r2, r3, r4, r5, r6, zH s7 zL7 0, r8, r9])) rfl ?_
      obtain ⟨g31, H⟩ := zgd H
      have H := zif H
      refine xB.brE oX12_bar (P := (s7 18 (2 * k).toNat) ≠ a) rfl (zc_ne (a := s7 18 (2 * k).toNat) (b := a) g31) (fun h15 => ?_) (fun h15 => ?_)
      · have H := H.1 h15
        refine xB.run oX12_bar 4 (s := (98, [some (.ref 7168), some (.int (zI kind)), some (.int (zI a)), some (.int (zI b)), some (.int (zI str)), some (.int (zI k))], [.int (zI k), .int (zI 2), .ref 7186], [r0, r1, r2, r3, r4, r5, r6, zH s7 zL7 0, r8, r9])) rfl ?_
        refine zB.opi oX12_bar rfl (zi_mul 2 k) ?_
        obtain ⟨g21, H⟩ := zgd H
        refine zB.iald oX12_bar (g := 7) (p := 18) (N := 32) (i := 2 * k) rfl rfl (by decide) rfl rfl (by decide) g21 ?_
        refine xB.run oX12_bar 1 (s := (101, [some (.ref 7168), some (.int (zI kind)), some (.int (zI a)), some (.int (zI b)), some (.int (zI str)), some (.int (zI k))], [.int (zI b), .int (zI (s7 18 (2 * k).toNat))], [r0, r1, r2, r3, r4, r5, r6, zH s7 zL7 0, r8, r9])) rfl ?_
        obtain ⟨g20, H⟩ := zgd H
        have H := zif H
        refine xB.brE oX12_bar (P := (s7 18 (2 * k).toNat) ≠ b) rfl (zc_ne (a := s7 18 (2 * k).toNat) (b := b) g20) (fun h16 => ?_) (fun h16 => ?_)
        · have H := H.1 h16
          refine zB.inc oX12_bar rfl (lv2 := [some (.ref 7168), some (.int (zI kind)), some (.int (zI a)), some (.int (zI b)), some (.int (zI str)), some (.int (zI (k + 1)))]) (zi_inc (a := 0) (zi_addp1 k) _ rfl) ?_
          refine xB.run oX12_bar 1 (s := (54, [some (.ref 7168), some (.int (zI kind)), some (.int (zI a)), some (.int (zI b)), some (.int (zI str)), some (.int (zI (k + 1)))], [], [r0, r1, r2, r3, r4, r5, r6, zH s7 zL7 0, r8, r9])) rfl ?_
          exact ih (k + 1) H K
        · have H := H.2 h16
          refine xB.run oX12_bar 4 (s := (111, [some (.ref 7168), some (.int (zI kind)), some (.int (zI a)), some (.int (zI b)), some (.int (zI str)), some (.int (zI k))], [.int (zI k), .int (zI 2), .ref 7186], [r0, r1, r2, r3, r4, r5, r6, zH s7 zL7 0, r8, r9])) rfl ?_
          refine zB.opi oX12_bar rfl (zi_mul 2 k) ?_
          refine xB.run oX12_bar 1 (s := (113, [some (.ref 7168), some (.int (zI kind)), some (.int (zI a)), some (.int (zI b)), some (.int (zI str)), some (.int (zI k))], [.int (zI 1), .int (zI (2 * k)), .ref 7186], [r0, r1, r2, r3, r4, r5, r6, zH s7 zL7 0, r8, r9])) rfl ?_
          refine zB.opi oX12_bar rfl (zi_add (2 * k) 1) ?_
          obtain ⟨g19, H⟩ := zgd H
          refine zB.iald oX12_bar (g := 7) (p := 18) (N := 32) (i := (2 * k) + 1) rfl rfl (by decide) rfl rfl (by decide) g19 ?_
          refine xB.run oX12_bar 1 (s := (116, [some (.ref 7168), some (.int (zI kind)), some (.int (zI a)), some (.int (zI b)), some (.int (zI str)), some (.int (zI k))], [.int (zI a), .int (zI (s7 18 ((2 * k) + 1).toNat))], [r0, r1, r2, r3, r4, r5, r6, zH s7 zL7 0, r8, r9])) rfl ?_
          obtain ⟨g18, H⟩ := zgd H
          have H := zif H
          refine xB.brE oX12_bar (P := (s7 18 ((2 * k) + 1).toNat) ≠ a) rfl (zc_ne (a := s7 18 ((2 * k) + 1).toNat) (b := a) g18) (fun h17 => ?_) (fun h17 => ?_)
          · have H := H.1 h17
            refine zB.inc oX12_bar rfl (lv2 := [some (.ref 7168), some (.int (zI kind)), some (.int (zI a)), some (.int (zI b)), some (.int (zI str)), some (.int (zI (k + 1)))]) (zi_inc (a := 0) (zi_addp1 k) _ rfl) ?_
            refine xB.run oX12_bar 1 (s := (54, [some (.ref 7168), some (.int (zI kind)), some (.int (zI a)), some (.int (zI b)), some (.int (zI str)), some (.int (zI (k + 1)))], [], [r0, r1, r2, r3, r4, r5, r6, zH s7 zL7 0, r8, r9])) rfl ?_
            exact ih (k + 1) H K
          · have H := H.2 h17
            refine xB.run oX12_bar 1 (s := (121, [some (.ref 7168), some (.int (zI kind)), some (.int (zI a)), some (.int (zI b)), some (.int (zI str)), some (.int (zI k))], [.int (zI (-3))], [r0, r1, r2, r3, r4, r5, r6, zH s7 zL7 0, r8, r9])) rfl ?_
            obtain rfl := Option.some.inj H
            obtain ⟨kr, kh⟩ := K.2 _ rfl
            subst kr kh
            exact xB.ret oX12_bar (r1 := some (.int (zI (-3)))) rfl rfl rfl
      · have H := H.2 h15
        refine xB.run oX12_bar 4 (s := (83, [some (.ref 7168), some (.int (zI kind)), some (.int (zI a)), some (.int (zI b)), some (.int (zI str)), some (.int (zI k))], [.int (zI k), .int (zI 2), .ref 7186], [r0, r1, r2, r3, r4, r5, r6, zH s7 zL7 0, r8, r9])) rfl ?_
        refine zB.opi oX12_bar rfl (zi_mul 2 k) ?_
        refine xB.run oX12_bar 1 (s := (85, [some (.ref 7168), some (.int (zI kind)), some (.int (zI a)), some (.int (zI b)), some (.int (zI str)), some (.int (zI k))], [.int (zI 1), .int (zI (2 * k)), .ref 7186], [r0, r1, r2, r3, r4, r5, r6, zH s7 zL7 0, r8, r9])) rfl ?_
        refine zB.opi oX12_bar rfl (zi_add (2 * k) 1) ?_
        obtain ⟨g30, H⟩ := zgd H
        refine zB.iald oX12_bar (g := 7) (p := 18) (N := 32) (i := (2 * k) + 1) rfl rfl (by decide) rfl rfl (by decide) g30 ?_
        refine xB.run oX12_bar 1 (s := (88, [some (.ref 7168), some (.int (zI kind)), some (.int (zI a)), some (.int (zI b)), some (.int (zI str)), some (.int (zI k))], [.int (zI b), .int (zI (s7 18 ((2 * k) + 1).toNat))], [r0, r1, r2, r3, r4, r5, r6, zH s7 zL7 0, r8, r9])) rfl ?_
        obtain ⟨g29, H⟩ := zgd H
        have H := zif H
        refine xB.brE oX12_bar (P := (s7 18 ((2 * k) + 1).toNat) = b) rfl (zc_eq (a := s7 18 ((2 * k) + 1).toNat) (b := b) g29) (fun h22 => ?_) (fun h22 => ?_)
        · have H := H.1 h22
          refine xB.run oX12_bar 1 (s := (121, [some (.ref 7168), some (.int (zI kind)), some (.int (zI a)), some (.int (zI b)), some (.int (zI str)), some (.int (zI k))], [.int (zI (-3))], [r0, r1, r2, r3, r4, r5, r6, zH s7 zL7 0, r8, r9])) rfl ?_
          obtain rfl := Option.some.inj H
          obtain ⟨kr, kh⟩ := K.2 _ rfl
          subst kr kh
          exact xB.ret oX12_bar (r1 := some (.int (zI (-3)))) rfl rfl rfl
        · have H := H.2 h22
          refine xB.run oX12_bar 4 (s := (98, [some (.ref 7168), some (.int (zI kind)), some (.int (zI a)), some (.int (zI b)), some (.int (zI str)), some (.int (zI k))], [.int (zI k), .int (zI 2), .ref 7186], [r0, r1, r2, r3, r4, r5, r6, zH s7 zL7 0, r8, r9])) rfl ?_
          refine zB.opi oX12_bar rfl (zi_mul 2 k) ?_
          obtain ⟨g28, H⟩ := zgd H
          refine zB.iald oX12_bar (g := 7) (p := 18) (N := 32) (i := 2 * k) rfl rfl (by decide) rfl rfl (by decide) g28 ?_
          refine xB.run oX12_bar 1 (s := (101, [some (.ref 7168), some (.int (zI kind)), some (.int (zI a)), some (.int (zI b)), some (.int (zI str)), some (.int (zI k))], [.int (zI b), .int (zI (s7 18 (2 * k).toNat))], [r0, r1, r2, r3, r4, r5, r6, zH s7 zL7 0, r8, r9])) rfl ?_
          obtain ⟨g27, H⟩ := zgd H
          have H := zif H
          refine xB.brE oX12_bar (P := (s7 18 (2 * k).toNat) ≠ b) rfl (zc_ne (a := s7 18 (2 * k).toNat) (b := b) g27) (fun h23 => ?_) (fun h23 => ?_)
          · have H := H.1 h23
            refine zB.inc oX12_bar rfl (lv2 := [some (.ref 7168), some (.int (zI kind)), some (.int (zI a)), some (.int (zI b)), some (.int (zI str)), some (.int (zI (k + 1)))]) (zi_inc (a := 0) (zi_addp1 k) _ rfl) ?_
            refine xB.run oX12_bar 1 (s := (54, [some (.ref 7168), some (.int (zI kind)), some (.int (zI a)), some (.int (zI b)), some (.int (zI str)), some (.int (zI (k + 1)))], [], [r0, r1, r2, r3, r4, r5, r6, zH s7 zL7 0, r8, r9])) rfl ?_
            exact ih (k + 1) H K
          · have H := H.2 h23
            refine xB.run oX12_bar 4 (s := (111, [some (.ref 7168), some (.int (zI kind)), some (.int (zI a)), some (.int (zI b)), some (.int (zI str)), some (.int (zI k))], [.int (zI k), .int (zI 2), .ref 7186], [r0, r1, r2, r3, r4, r5, r6, zH s7 zL7 0, r8, r9])) rfl ?_
            refine zB.opi oX12_bar rfl (zi_mul 2 k) ?_
            refine xB.run oX12_bar 1 (s := (113, [some (.ref 7168), some (.int (zI kind)), some (.int (zI a)), some (.int (zI b)), some (.int (zI str)), some (.int (zI k))], [.int (zI 1), .int (zI (2 * k)), .ref 7186], [r0, r1, r2, r3, r4, r5, r6, zH s7 zL7 0, r8, r9])) rfl ?_
            refine zB.opi oX12_bar rfl (zi_add (2 * k) 1) ?_
            obtain ⟨g26, H⟩ := zgd H
            refine zB.iald oX12_bar (g := 7) (p := 18) (N := 32) (i := (2 * k) + 1) rfl rfl (by decide) rfl rfl (by decide) g26 ?_
            refine xB.run oX12_bar 1 (s := (116, [some (.ref 7168), some (.int (zI kind)), some (.int (zI a)), some (.int (zI b)), some (.int (zI str)), some (.int (zI k))], [.int (zI a), .int (zI (s7 18 ((2 * k) + 1).toNat))], [r0, r1, r2, r3, r4, r5, r6, zH s7 zL7 0, r8, r9])) rfl ?_
            obtain ⟨g25, H⟩ := zgd H
            have H := zif H
            refine xB.brE oX12_bar (P := (s7 18 ((2 * k) + 1).toNat) ≠ a) rfl (zc_ne (a := s7 18 ((2 * k) + 1).toNat) (b := a) g25) (fun h24 => ?_) (fun h24 => ?_)
            · have H := H.1 h24
              refine zB.inc oX12_bar rfl (lv2 := [some (.ref 7168), some (.int (zI kind)), some (.int (zI a)), some (.int (zI b)), some (.int (zI str)), some (.int (zI (k + 1)))]) (zi_inc (a := 0) (zi_addp1 k) _ rfl) ?_
              refine xB.run oX12_bar 1 (s := (54, [some (.ref 7168), some (.int (zI kind)), some (.int (zI a)), some (.int (zI b)), some (.int (zI str)), some (.int (zI (k + 1)))], [], [r0, r1, r2, r3, r4, r5, r6, zH s7 zL7 0, r8, r9])) rfl ?_
              exact ih (k + 1) H K
            · have H := H.2 h24
              refine xB.run oX12_bar 1 (s := (121, [some (.ref 7168), some (.int (zI kind)), some (.int (zI a)), some (.int (zI b)), some (.int (zI str)), some (.int (zI k))], [.int (zI (-3))], [r0, r1, r2, r3, r4, r5, r6, zH s7 zL7 0, r8, r9])) rfl ?_
              obtain rfl := Option.some.inj H
              obtain ⟨kr, kh⟩ := K.2 _ rfl
              subst kr kh
              exact xB.ret oX12_bar (r1 := some (.int (zI (-3)))) rfl rfl rfl
set_option maxRecDepth 20000 in
theorem t_X12_bar (r0 : List va_E) (r1 : List va_E) (r2 : List va_E) (r3 : List va_E) (r4 : List va_E) (r5 : List va_E) (r6 : List va_E) (s7 : zZ) (r8 : List va_E) (r9 : List va_E) (kind : Int) (a : Int) (b : Int) (str : Int) {rr : Int × zZ} (H : d_X12_bar s7 kind a b str = some rr) : xC MX12_bar 1 [.ref 7168, .int (zI kind), .int (zI a), .int (zI b), .int (zI str)] ([r0, r1, r2, r3, r4, r5, r6, zH s7 zL7 0, r8, r9]) (some (.int (zI rr.1))) ([r0, r1, r2, r3, r4, r5, r6, zH rr.2 zL7 0, r8, r9]) := by
  refine ⟨Nat.le_of_ble_eq_true rfl, ?_⟩
  show xBody MX12_bar 1 0 [some (.ref 7168), some (.int (zI kind)), some (.int (zI a)), some (.int (zI b)), some (.int (zI str)), none] [] ([r0, r1, r2, r3, r4, r5, r6, zH s7 zL7 0, r8, r9]) _ _
  unfold d_X12_bar at H
  refine xB.run oX12_bar 2 (s := (2, [some (.ref 7168), some (.int (zI kind)), some (.int (zI a)), some (.int (zI b)), some (.int (zI str)), none], [.int (zI a), .ref 7168], [r0, r1, r2, r3, r4, r5, r6, zH s7 zL7 0, r8, r9])) rfl ?_
  obtain ⟨y1, e2, H⟩ := zbd H
  refine xB.call oX12_bar (M2 := MX12_isJoint) rfl rfl ((t_X12_isJoint r0 r1 r2 r3 r4 r5 r6 s7 r8 r9 a e2).deep (by decide : 0 ≤ 0)) ?_
  show xBody MX12_bar 1 5 [some (.ref 7168), some (.int (zI kind)), some (.int (zI a)), some (.int (zI b)), some (.int (zI str)), none] [.int (zI y1)] ([r0, r1, r2, r3, r4, r5, r6, zH s7 zL7 0, r8, r9]) _ _
  obtain ⟨g51, H⟩ := zgd H
  have H := zif H
  refine xB.brE oX12_bar (P := y1 = 0) rfl (zc_eq (a := y1) (b := 0) ⟨g51, by decide⟩) (fun h3 => ?_) (fun h3 => ?_)
  · have H := H.1 h3
    refine xB.run oX12_bar 1 (s := (17, [some (.ref 7168), some (.int (zI kind)), some (.int (zI a)), some (.int (zI b)), some (.int (zI str)), none], [.int (zI (-1))], [r0, r1, r2, r3, r4, r5, r6, zH s7 zL7 0, r8, r9])) rfl ?_
    obtain rfl := Option.some.inj H
    exact xB.ret oX12_bar (r1 := some (.int (zI (-1)))) rfl rfl rfl
  · have H := H.2 h3
    refine xB.run oX12_bar 2 (s := (10, [some (.ref 7168), some (.int (zI kind)), some (.int (zI a)), some (.int (zI b)), some (.int (zI str)), none], [.int (zI b), .ref 7168], [r0, r1, r2, r3, r4, r5, r6, zH s7 zL7 0, r8, r9])) rfl ?_
    obtain ⟨y4, e5, H⟩ := zbd H
    refine xB.call oX12_bar (M2 := MX12_isJoint) rfl rfl ((t_X12_isJoint r0 r1 r2 r3 r4 r5 r6 s7 r8 r9 b e5).deep (by decide : 0 ≤ 0)) ?_
    show xBody MX12_bar 1 13 [some (.ref 7168), some (.int (zI kind)), some (.int (zI a)), some (.int (zI b)), some (.int (zI str)), none] [.int (zI y4)] ([r0, r1, r2, r3, r4, r5, r6, zH s7 zL7 0, r8, r9]) _ _
    obtain ⟨g50, H⟩ := zgd H
    have H := zif H
    refine xB.brE oX12_bar (P := y4 ≠ 0) rfl (zc_ne (a := y4) (b := 0) ⟨g50, by decide⟩) (fun h6 => ?_) (fun h6 => ?_)
    · have H := H.1 h6
      refine xB.run oX12_bar 2 (s := (20, [some (.ref 7168), some (.int (zI kind)), some (.int (zI a)), some (.int (zI b)), some (.int (zI str)), none], [.int (zI b), .int (zI a)], [r0, r1, r2, r3, r4, r5, r6, zH s7 zL7 0, r8, r9])) rfl ?_
      obtain ⟨g49, H⟩ := zgd H
      have H := zif H
      refine xB.brE oX12_bar (P := a = b) rfl (zc_eq (a := a) (b := b) g49) (fun h7 => ?_) (fun h7 => ?_)
      · have H := H.1 h7
        refine xB.run oX12_bar 1 (s := (50, [some (.ref 7168), some (.int (zI kind)), some (.int (zI a)), some (.int (zI b)), some (.int (zI str)), none], [.int (zI (-2))], [r0, r1, r2, r3, r4, r5, r6, zH s7 zL7 0, r8, r9])) rfl ?_
        obtain rfl := Option.some.inj H
        exact xB.ret oX12_bar (r1 := some (.int (zI (-2)))) rfl rfl rfl
      · have H := H.2 h7
        refine xB.run oX12_bar 1 (s := (24, [some (.ref 7168), some (.int (zI kind)), some (.int (zI a)), some (.int (zI b)), some (.int (zI str)), none], [.int (zI kind)], [r0, r1, r2, r3, r4, r5, r6, zH s7 zL7 0, r8, r9])) rfl ?_
        obtain ⟨g48, H⟩ := zgd H
        refine zB.opl oX12_bar rfl (zi_i2l g48) ?_
        refine xB.run oX12_bar 2 (s := (29, [some (.ref 7168), some (.int (zI kind)), some (.int (zI a)), some (.int (zI b)), some (.int (zI str)), none], [.long (zJ 2), .long (zJ 0), .long (zJ kind)], [r0, r1, r2, r3, r4, r5, r6, zH s7 zL7 0, r8, r9])) rfl ?_
        obtain ⟨y8, e9, H⟩ := zbd H
        refine xB.call oX12_bar (M2 := MX12_within) rfl rfl ((t_X12_within r0 r1 r2 r3 r4 r5 r6 (zH s7 zL7 0) r8 r9 kind 0 2 e9).deep (by decide : 0 ≤ 0)) ?_
        show xBody MX12_bar 1 32 [some (.ref 7168), some (.int (zI kind)), some (.int (zI a)), some (.int (zI b)), some (.int (zI str)), none] [.int (zI y8)] ([r0, r1, r2, r3, r4, r5, r6, zH s7 zL7 0, r8, r9]) _ _
        obtain ⟨g47, H⟩ := zgd H
        have H := zif H
        refine xB.brE oX12_bar (P := y8 = 0) rfl (zc_eq (a := y8) (b := 0) ⟨g47, by decide⟩) (fun h10 => ?_) (fun h10 => ?_)
        · have H := H.1 h10
          refine xB.run oX12_bar 1 (s := (50, [some (.ref 7168), some (.int (zI kind)), some (.int (zI a)), some (.int (zI b)), some (.int (zI str)), none], [.int (zI (-2))], [r0, r1, r2, r3, r4, r5, r6, zH s7 zL7 0, r8, r9])) rfl ?_
          obtain rfl := Option.some.inj H
          exact xB.ret oX12_bar (r1 := some (.int (zI (-2)))) rfl rfl rfl
        · have H := H.2 h10
          refine xB.run oX12_bar 1 (s := (37, [some (.ref 7168), some (.int (zI kind)), some (.int (zI a)), some (.int (zI b)), some (.int (zI str)), none], [.int (zI str)], [r0, r1, r2, r3, r4, r5, r6, zH s7 zL7 0, r8, r9])) rfl ?_
          obtain ⟨g46, H⟩ := zgd H
          refine zB.opl oX12_bar rfl (zi_i2l g46) ?_
          refine xB.run oX12_bar 2 (s := (42, [some (.ref 7168), some (.int (zI kind)), some (.int (zI a)), some (.int (zI b)), some (.int (zI str)), none], [.long (zJ 999), .long (zJ 1), .long (zJ str)], [r0, r1, r2, r3, r4, r5, r6, zH s7 zL7 0, r8, r9])) rfl ?_
          obtain ⟨y11, e12, H⟩ := zbd H
          refine xB.call oX12_bar (M2 := MX12_within) rfl rfl ((t_X12_within r0 r1 r2 r3 r4 r5 r6 (zH s7 zL7 0) r8 r9 str 1 999 e12).deep (by decide : 0 ≤ 0)) ?_
          show xBody MX12_bar 1 45 [some (.ref 7168), some (.int (zI kind)), some (.int (zI a)), some (.int (zI b)), some (.int (zI str)), none] [.int (zI y11)] ([r0, r1, r2, r3, r4, r5, r6, zH s7 zL7 0, r8, r9]) _ _
          obtain ⟨g45, H⟩ := zgd H
          have H := zif H
          refine xB.brE oX12_bar (P := y11 ≠ 0) rfl (zc_ne (a := y11) (b := 0) ⟨g45, by decide⟩) (fun h13 => ?_) (fun h13 => ?_)
          · have H := H.1 h13
            refine xB.run oX12_bar 2 (s := (54, [some (.ref 7168), some (.int (zI kind)), some (.int (zI a)), some (.int (zI b)), some (.int (zI str)), some (.int (zI 0))], [], [r0, r1, r2, r3, r4, r5, r6, zH s7 zL7 0, r8, r9])) rfl ?_
            obtain ⟨y34, e35, H⟩ := zbd H
            refine l_X12_bar_54 r0 r1 r2 r3 r4 r5 r6 s7 r8 r9 kind a b str _ 0 e35 ?_
            refine ⟨fun y36 uQ => ?_, fun y37 uQ => ?_⟩
            · subst uQ
              refine xB.run oX12_bar 3 (s := (134, [some (.ref 7168), some (.int (zI kind)), some (.int (zI a)), some (.int (zI b)), some (.int (zI str)), some (.int (zI y36))], [.int (zI 16), .int (zI (s7 0 25))], [r0, r1, r2, r3, r4, r5, r6, zH s7 zL7 0, r8, r9])) rfl ?_
              obtain ⟨g44, H⟩ := zgd H
              have H := zif H
              refine xB.brE oX12_bar (P := (s7 0 25) ≠ 16) rfl (zc_ne (a := s7 0 25) (b := 16) ⟨g44, by decide⟩) (fun h38 => ?_) (fun h38 => ?_)
              · have H := H.1 h38
                refine xB.run oX12_bar 5 (s := (149, [some (.ref 7168), some (.int (zI kind)), some (.int (zI a)), some (.int (zI b)), some (.int (zI str)), some (.int (zI y36))], [.int (zI kind), .int (zI (s7 0 25)), .ref 7185], [r0, r1, r2, r3, r4, r5, r6, zH s7 zL7 0, r8, r9])) rfl ?_
                obtain ⟨g43, H⟩ := zgd H
                refine zB.iast oX12_bar (g := 7) (p := 17) (N := 16) (i := s7 0 25) (hp1 := [r0, r1, r2, r3, r4, r5, r6, zH (upz s7 17 (s7 0 25).toNat kind) zL7 0, r8, r9]) rfl rfl (by decide) (by decide) rfl rfl (by decide) g43 rfl ?_
                refine xB.run oX12_bar 5 (s := (159, [some (.ref 7168), some (.int (zI kind)), some (.int (zI a)), some (.int (zI b)), some (.int (zI str)), some (.int (zI y36))], [.int (zI ((upz s7 17 (s7 0 25).toNat kind) 0 25)), .int (zI 2), .ref 7186], [r0, r1, r2, r3, r4, r5, r6, zH (upz s7 17 (s7 0 25).toNat kind) zL7 0, r8, r9])) rfl ?_
                refine zB.opi oX12_bar rfl (zi_mul 2 ((upz s7 17 (s7 0 25).toNat kind) 0 25)) ?_
                refine xB.run oX12_bar 1 (s := (161, [some (.ref 7168), some (.int (zI kind)), some (.int (zI a)), some (.int (zI b)), some (.int (zI str)), some (.int (zI y36))], [.int (zI a), .int (zI (2 * ((upz s7 17 (s7 0 25).toNat kind) 0 25))), .ref 7186], [r0, r1, r2, r3, r4, r5, r6, zH (upz s7 17 (s7 0 25).toNat kind) zL7 0, r8, r9])) rfl ?_
                obtain ⟨g42, H⟩ := zgd H
                refine zB.iast oX12_bar (g := 7) (p := 18) (N := 32) (i := 2 * ((upz s7 17 (s7 0 25).toNat kind) 0 25)) (hp1 := [r0, r1, r2, r3, r4, r5, r6, zH (upz (upz s7 17 (s7 0 25).toNat kind) 18 (2 * ((upz s7 17 (s7 0 25).toNat kind) 0 25)).toNat a) zL7 0, r8, r9]) rfl rfl (by decide) (by decide) rfl rfl (by decide) g42 rfl ?_
                refine xB.run oX12_bar 5 (s := (171, [some (.ref 7168), some (.int (zI kind)), some (.int (zI a)), some (.int (zI b)), some (.int (zI str)), some (.int (zI y36))], [.int (zI ((upz (upz s7 17 (s7 0 25).toNat kind) 18 (2 * ((upz s7 17 (s7 0 25).toNat kind) 0 25)).toNat a) 0 25)), .int (zI 2), .ref 7186], [r0, r1, r2, r3, r4, r5, r6, zH (upz (upz s7 17 (s7 0 25).toNat kind) 18 (2 * ((upz s7 17 (s7 0 25).toNat kind) 0 25)).toNat a) zL7 0, r8, r9])) rfl ?_
                refine zB.opi oX12_bar rfl (zi_mul 2 ((upz (upz s7 17 (s7 0 25).toNat kind) 18 (2 * ((upz s7 17 (s7 0 25).toNat kind) 0 25)).toNat a) 0 25)) ?_
                refine xB.run oX12_bar 1 (s := (173, [some (.ref 7168), some (.int (zI kind)), some (.int (zI a)), some (.int (zI b)), some (.int (zI str)), some (.int (zI y36))], [.int (zI 1), .int (zI (2 * ((upz (upz s7 17 (s7 0 25).toNat kind) 18 (2 * ((upz s7 17 (s7 0 25).toNat kind) 0 25)).toNat a) 0 25))), .ref 7186], [r0, r1, r2, r3, r4, r5, r6, zH (upz (upz s7 17 (s7 0 25).toNat kind) 18 (2 * ((upz s7 17 (s7 0 25).toNat kind) 0 25)).toNat a) zL7 0, r8, r9])) rfl ?_
                refine zB.opi oX12_bar rfl (zi_add (2 * ((upz (upz s7 17 (s7 0 25).toNat kind) 18 (2 * ((upz s7 17 (s7 0 25).toNat kind) 0 25)).toNat a) 0 25)) 1) ?_
                refine xB.run oX12_bar 1 (s := (175, [some (.ref 7168), some (.int (zI kind)), some (.int (zI a)), some (.int (zI b)), some (.int (zI str)), some (.int (zI y36))], [.int (zI b), .int (zI ((2 * ((upz (upz s7 17 (s7 0 25).toNat kind) 18 (2 * ((upz s7 17 (s7 0 25).toNat kind) 0 25)).toNat a) 0 25)) + 1)), .ref 7186], [r0, r1, r2, r3, r4, r5, r6, zH (upz (upz s7 17 (s7 0 25).toNat kind) 18 (2 * ((upz s7 17 (s7 0 25).toNat kind) 0 25)).toNat a) zL7 0, r8, r9])) rfl ?_
                obtain ⟨g41, H⟩ := zgd H
                refine zB.iast oX12_bar (g := 7) (p := 18) (N := 32) (i := (2 * ((upz (upz s7 17 (s7 0 25).toNat kind) 18 (2 * ((upz s7 17 (s7 0 25).toNat kind) 0 25)).toNat a) 0 25)) + 1) (hp1 := [r0, r1, r2, r3, r4, r5, r6, zH (upz (upz (upz s7 17 (s7 0 25).toNat kind) 18 (2 * ((upz s7 17 (s7 0 25).toNat kind) 0 25)).toNat a) 18 ((2 * ((upz (upz s7 17 (s7 0 25).toNat kind) 18 (2 * ((upz s7 17 (s7 0 25).toNat kind) 0 25)).toNat a) 0 25)) + 1).toNat b) zL7 0, r8, r9]) rfl rfl (by decide) (by decide) rfl rfl (by decide) g41 rfl ?_
                refine xB.run oX12_bar 5 (s := (186, [some (.ref 7168), some (.int (zI kind)), some (.int (zI a)), some (.int (zI b)), some (.int (zI str)), some (.int (zI y36))], [.int (zI str), .int (zI ((upz (upz (upz s7 17 (s7 0 25).toNat kind) 18 (2 * ((upz s7 17 (s7 0 25).toNat kind) 0 25)).toNat a) 18 ((2 * ((upz (upz s7 17 (s7 0 25).toNat kind) 18 (2 * ((upz s7 17 (s7 0 25).toNat kind) 0 25)).toNat a) 0 25)) + 1).toNat b) 0 25)), .ref 7187], [r0, r1, r2, r3, r4, r5, r6, zH (upz (upz (upz s7 17 (s7 0 25).toNat kind) 18 (2 * ((upz s7 17 (s7 0 25).toNat kind) 0 25)).toNat a) 18 ((2 * ((upz (upz s7 17 (s7 0 25).toNat kind) 18 (2 * ((upz s7 17 (s7 0 25).toNat kind) 0 25)).toNat a) 0 25)) + 1).toNat b) zL7 0, r8, r9])) rfl ?_
                obtain ⟨g40, H⟩ := zgd H
                refine zB.iast oX12_bar (g := 7) (p := 19) (N := 16) (i := (upz (upz (upz s7 17 (s7 0 25).toNat kind) 18 (2 * ((upz s7 17 (s7 0 25).toNat kind) 0 25)).toNat a) 18 ((2 * ((upz (upz s7 17 (s7 0 25).toNat kind) 18 (2 * ((upz s7 17 (s7 0 25).toNat kind) 0 25)).toNat a) 0 25)) + 1).toNat b) 0 25) (hp1 := [r0, r1, r2, r3, r4, r5, r6, zH (upz (upz (upz (upz s7 17 (s7 0 25).toNat kind) 18 (2 * ((upz s7 17 (s7 0 25).toNat kind) 0 25)).toNat a) 18 ((2 * ((upz (upz s7 17 (s7 0 25).toNat kind) 18 (2 * ((upz s7 17 (s7 0 25).toNat kind) 0 25)).toNat a) 0 25)) + 1).toNat b) 19 ((upz (upz (upz s7 17 (s7 0 25).toNat kind) 18 (2 * ((upz s7 17 (s7 0 25).toNat kind) 0 25)).toNat a) 18 ((2 * ((upz (upz s7 17 (s7 0 25).toNat kind) 18 (2 * ((upz s7 17 (s7 0 25).toNat kind) 0 25)).toNat a) 0 25)) + 1).toNat b) 0 25).toNat str) zL7 0, r8, r9]) rfl rfl (by decide) (by decide) rfl rfl (by decide) g40 rfl ?_
                refine xB.run oX12_bar 5 (s := (196, [some (.ref 7168), some (.int (zI kind)), some (.int (zI a)), some (.int (zI b)), some (.int (zI str)), some (.int (zI y36))], [.int (zI 0), .int (zI ((upz (upz (upz (upz s7 17 (s7 0 25).toNat kind) 18 (2 * ((upz s7 17 (s7 0 25).toNat kind) 0 25)).toNat a) 18 ((2 * ((upz (upz s7 17 (s7 0 25).toNat kind) 18 (2 * ((upz s7 17 (s7 0 25).toNat kind) 0 25)).toNat a) 0 25)) + 1).toNat b) 19 ((upz (upz (upz s7 17 (s7 0 25).toNat kind) 18 (2 * ((upz s7 17 (s7 0 25).toNat kind) 0 25)).toNat a) 18 ((2 * ((upz (upz s7 17 (s7 0 25).toNat kind) 18 (2 * ((upz s7 17 (s7 0 25).toNat kind) 0 25)).toNat a) 0 25)) + 1).toNat b) 0 25).toNat str) 0 25)), .ref 7188], [r0, r1, r2, r3, r4, r5, r6, zH (upz (upz (upz (upz s7 17 (s7 0 25).toNat kind) 18 (2 * ((upz s7 17 (s7 0 25).toNat kind) 0 25)).toNat a) 18 ((2 * ((upz (upz s7 17 (s7 0 25).toNat kind) 18 (2 * ((upz s7 17 (s7 0 25).toNat kind) 0 25)).toNat a) 0 25)) + 1).toNat b) 19 ((upz (upz (upz s7 17 (s7 0 25).toNat kind) 18 (2 * ((upz s7 17 (s7 0 25).toNat kind) 0 25)).toNat a) 18 ((2 * ((upz (upz s7 17 (s7 0 25).toNat kind) 18 (2 * ((upz s7 17 (s7 0 25).toNat kind) 0 25)).toNat a) 0 25)) + 1).toNat b) 0 25).toNat str) zL7 0, r8, r9])) rfl ?_
                obtain ⟨g39, H⟩ := zgd H
                refine zB.bast oX12_bar (g := 7) (p := 20) (N := 16) (i := (upz (upz (upz (upz s7 17 (s7 0 25).toNat kind) 18 (2 * ((upz s7 17 (s7 0 25).toNat kind) 0 25)).toNat a) 18 ((2 * ((upz (upz s7 17 (s7 0 25).toNat kind) 18 (2 * ((upz s7 17 (s7 0 25).toNat kind) 0 25)).toNat a) 0 25)) + 1).toNat b) 19 ((upz (upz (upz s7 17 (s7 0 25).toNat kind) 18 (2 * ((upz s7 17 (s7 0 25).toNat kind) 0 25)).toNat a) 18 ((2 * ((upz (upz s7 17 (s7 0 25).toNat kind) 18 (2 * ((upz s7 17 (s7 0 25).toNat kind) 0 25)).toNat a) 0 25)) + 1).toNat b) 0 25).toNat str) 0 25) (hp1 := [r0, r1, r2, r3, r4, r5, r6, zH (upz (upz (upz (upz (upz s7 17 (s7 0 25).toNat kind) 18 (2 * ((upz s7 17 (s7 0 25).toNat kind) 0 25)).toNat a) 18 ((2 * ((upz (upz s7 17 (s7 0 25).toNat kind) 18 (2 * ((upz s7 17 (s7 0 25).toNat kind) 0 25)).toNat a) 0 25)) + 1).toNat b) 19 ((upz (upz (upz s7 17 (s7 0 25).toNat kind) 18 (2 * ((upz s7 17 (s7 0 25).toNat kind) 0 25)).toNat a) 18 ((2 * ((upz (upz s7 17 (s7 0 25).toNat kind) 18 (2 * ((upz s7 17 (s7 0 25).toNat kind) 0 25)).toNat a) 0 25)) + 1).toNat b) 0 25).toNat str) 20 ((upz (upz (upz (upz s7 17 (s7 0 25).toNat kind) 18 (2 * ((upz s7 17 (s7 0 25).toNat kind) 0 25)).toNat a) 18 ((2 * ((upz (upz s7 17 (s7 0 25).toNat kind) 18 (2 * ((upz s7 17 (s7 0 25).toNat kind) 0 25)).toNat a) 0 25)) + 1).toNat b) 19 ((upz (upz (upz s7 17 (s7 0 25).toNat kind) 18 (2 * ((upz s7 17 (s7 0 25).toNat kind) 0 25)).toNat a) 18 ((2 * ((upz (upz s7 17 (s7 0 25).toNat kind) 18 (2 * ((upz s7 17 (s7 0 25).toNat kind) 0 25)).toNat a) 0 25)) + 1).toNat b) 0 25).toNat str) 0 25).toNat 0) zL7 0, r8, r9]) rfl rfl (by decide) (by decide) rfl rfl (by decide) (by decide) g39 rfl ?_
                refine xB.run oX12_bar 4 (s := (203, [some (.ref 7168), some (.int (zI kind)), some (.int (zI a)), some (.int (zI b)), some (.int (zI str)), some (.int (zI y36))], [.int (zI 1), .int (zI ((upz (upz (upz (upz (upz s7 17 (s7 0 25).toNat kind) 18 (2 * ((upz s7 17 (s7 0 25).toNat kind) 0 25)).toNat a) 18 ((2 * ((upz (upz s7 17 (s7 0 25).toNat kind) 18 (2 * ((upz s7 17 (s7 0 25).toNat kind) 0 25)).toNat a) 0 25)) + 1).toNat b) 19 ((upz (upz (upz s7 17 (s7 0 25).toNat kind) 18 (2 * ((upz s7 17 (s7 0 25).toNat kind) 0 25)).toNat a) 18 ((2 * ((upz (upz s7 17 (s7 0 25).toNat kind) 18 (2 * ((upz s7 17 (s7 0 25).toNat kind) 0 25)).toNat a) 0 25)) + 1).toNat b) 0 25).toNat str) 20 ((upz (upz (upz (upz s7 17 (s7 0 25).toNat kind) 18 (2 * ((upz s7 17 (s7 0 25).toNat kind) 0 25)).toNat a) 18 ((2 * ((upz (upz s7 17 (s7 0 25).toNat kind) 18 (2 * ((upz s7 17 (s7 0 25).toNat kind) 0 25)).toNat a) 0 25)) + 1).toNat b) 19 ((upz (upz (upz s7 17 (s7 0 25).toNat kind) 18 (2 * ((upz s7 17 (s7 0 25).toNat kind) 0 25)).toNat a) 18 ((2 * ((upz (upz s7 17 (s7 0 25).toNat kind) 18 (2 * ((upz s7 17 (s7 0 25).toNat kind) 0 25)).toNat a) 0 25)) + 1).toNat b) 0 25).toNat str) 0 25).toNat 0) 0 25)), .ref 7168], [r0, r1, r2, r3, r4, r5, r6, zH (upz (upz (upz (upz (upz s7 17 (s7 0 25).toNat kind) 18 (2 * ((upz s7 17 (s7 0 25).toNat kind) 0 25)).toNat a) 18 ((2 * ((upz (upz s7 17 (s7 0 25).toNat kind) 18 (2 * ((upz s7 17 (s7 0 25).toNat kind) 0 25)).toNat a) 0 25)) + 1).toNat b) 19 ((upz (upz (upz s7 17 (s7 0 25).toNat kind) 18 (2 * ((upz s7 17 (s7 0 25).toNat kind) 0 25)).toNat a) 18 ((2 * ((upz (upz s7 17 (s7 0 25).toNat kind) 18 (2 * ((upz s7 17 (s7 0 25).toNat kind) 0 25)).toNat a) 0 25)) + 1).toNat b) 0 25).toNat str) 20 ((upz (upz (upz (upz s7 17 (s7 0 25).toNat kind) 18 (2 * ((upz s7 17 (s7 0 25).toNat kind) 0 25)).toNat a) 18 ((2 * ((upz (upz s7 17 (s7 0 25).toNat kind) 18 (2 * ((upz s7 17 (s7 0 25).toNat kind) 0 25)).toNat a) 0 25)) + 1).toNat b) 19 ((upz (upz (upz s7 17 (s7 0 25).toNat kind) 18 (2 * ((upz s7 17 (s7 0 25).toNat kind) 0 25)).toNat a) 18 ((2 * ((upz (upz s7 17 (s7 0 25).toNat kind) 18 (2 * ((upz s7 17 (s7 0 25).toNat kind) 0 25)).toNat a) 0 25)) + 1).toNat b) 0 25).toNat str) 0 25).toNat 0) zL7 0, r8, r9])) rfl ?_
                refine zB.opi oX12_bar rfl (zi_add ((upz (upz (upz (upz (upz s7 17 (s7 0 25).toNat kind) 18 (2 * ((upz s7 17 (s7 0 25).toNat kind) 0 25)).toNat a) 18 ((2 * ((upz (upz s7 17 (s7 0 25).toNat kind) 18 (2 * ((upz s7 17 (s7 0 25).toNat kind) 0 25)).toNat a) 0 25)) + 1).toNat b) 19 ((upz (upz (upz s7 17 (s7 0 25).toNat kind) 18 (2 * ((upz s7 17 (s7 0 25).toNat kind) 0 25)).toNat a) 18 ((2 * ((upz (upz s7 17 (s7 0 25).toNat kind) 18 (2 * ((upz s7 17 (s7 0 25).toNat kind) 0 25)).toNat a) 0 25)) + 1).toNat b) 0 25).toNat str) 20 ((upz (upz (upz (upz s7 17 (s7 0 25).toNat kind) 18 (2 * ((upz s7 17 (s7 0 25).toNat kind) 0 25)).toNat a) 18 ((2 * ((upz (upz s7 17 (s7 0 25).toNat kind) 18 (2 * ((upz s7 17 (s7 0 25).toNat kind) 0 25)).toNat a) 0 25)) + 1).toNat b) 19 ((upz (upz (upz s7 17 (s7 0 25).toNat kind) 18 (2 * ((upz s7 17 (s7 0 25).toNat kind) 0 25)).toNat a) 18 ((2 * ((upz (upz s7 17 (s7 0 25).toNat kind) 18 (2 * ((upz s7 17 (s7 0 25).toNat kind) 0 25)).toNat a) 0 25)) + 1).toNat b) 0 25).toNat str) 0 25).toNat 0) 0 25) 1) ?_
                refine zB.putI oX12_bar (g := 7) (p := 0) (c := 12) (k := 25) (y := 0) (hp1 := [r0, r1, r2, r3, r4, r5, r6, zH (upz (upz (upz (upz (upz (upz s7 17 (s7 0 25).toNat kind) 18 (2 * ((upz s7 17 (s7 0 25).toNat kind) 0 25)).toNat a) 18 ((2 * ((upz (upz s7 17 (s7 0 25).toNat kind) 18 (2 * ((upz s7 17 (s7 0 25).toNat kind) 0 25)).toNat a) 0 25)) + 1).toNat b) 19 ((upz (upz (upz s7 17 (s7 0 25).toNat kind) 18 (2 * ((upz s7 17 (s7 0 25).toNat kind) 0 25)).toNat a) 18 ((2 * ((upz (upz s7 17 (s7 0 25).toNat kind) 18 (2 * ((upz s7 17 (s7 0 25).toNat kind) 0 25)).toNat a) 0 25)) + 1).toNat b) 0 25).toNat str) 20 ((upz (upz (upz (upz s7 17 (s7 0 25).toNat kind) 18 (2 * ((upz s7 17 (s7 0 25).toNat kind) 0 25)).toNat a) 18 ((2 * ((upz (upz s7 17 (s7 0 25).toNat kind) 18 (2 * ((upz s7 17 (s7 0 25).toNat kind) 0 25)).toNat a) 0 25)) + 1).toNat b) 19 ((upz (upz (upz s7 17 (s7 0 25).toNat kind) 18 (2 * ((upz s7 17 (s7 0 25).toNat kind) 0 25)).toNat a) 18 ((2 * ((upz (upz s7 17 (s7 0 25).toNat kind) 18 (2 * ((upz s7 17 (s7 0 25).toNat kind) 0 25)).toNat a) 0 25)) + 1).toNat b) 0 25).toNat str) 0 25).toNat 0) 0 25 (((upz (upz (upz (upz (upz s7 17 (s7 0 25).toNat kind) 18 (2 * ((upz s7 17 (s7 0 25).toNat kind) 0 25)).toNat a) 18 ((2 * ((upz (upz s7 17 (s7 0 25).toNat kind) 18 (2 * ((upz s7 17 (s7 0 25).toNat kind) 0 25)).toNat a) 0 25)) + 1).toNat b) 19 ((upz (upz (upz s7 17 (s7 0 25).toNat kind) 18 (2 * ((upz s7 17 (s7 0 25).toNat kind) 0 25)).toNat a) 18 ((2 * ((upz (upz s7 17 (s7 0 25).toNat kind) 18 (2 * ((upz s7 17 (s7 0 25).toNat kind) 0 25)).toNat a) 0 25)) + 1).toNat b) 0 25).toNat str) 20 ((upz (upz (upz (upz s7 17 (s7 0 25).toNat kind) 18 (2 * ((upz s7 17 (s7 0 25).toNat kind) 0 25)).toNat a) 18 ((2 * ((upz (upz s7 17 (s7 0 25).toNat kind) 18 (2 * ((upz s7 17 (s7 0 25).toNat kind) 0 25)).toNat a) 0 25)) + 1).toNat b) 19 ((upz (upz (upz s7 17 (s7 0 25).toNat kind) 18 (2 * ((upz s7 17 (s7 0 25).toNat kind) 0 25)).toNat a) 18 ((2 * ((upz (upz s7 17 (s7 0 25).toNat kind) 18 (2 * ((upz s7 17 (s7 0 25).toNat kind) 0 25)).toNat a) 0 25)) + 1).toNat b) 0 25).toNat str) 0 25).toNat 0) 0 25) + 1)) zL7 0, r8, r9]) rfl rfl (by decide) (by decide) rfl rfl rfl rfl rfl rfl ?_
                refine xB.run oX12_bar 3 (s := (212, [some (.ref 7168), some (.int (zI kind)), some (.int (zI a)), some (.int (zI b)), some (.int (zI str)), some (.int (zI y36))], [.int (zI 1), .int (zI ((upz (upz (upz (upz (upz (upz s7 17 (s7 0 25).toNat kind) 18 (2 * ((upz s7 17 (s7 0 25).toNat kind) 0 25)).toNat a) 18 ((2 * ((upz (upz s7 17 (s7 0 25).toNat kind) 18 (2 * ((upz s7 17 (s7 0 25).toNat kind) 0 25)).toNat a) 0 25)) + 1).toNat b) 19 ((upz (upz (upz s7 17 (s7 0 25).toNat kind) 18 (2 * ((upz s7 17 (s7 0 25).toNat kind) 0 25)).toNat a) 18 ((2 * ((upz (upz s7 17 (s7 0 25).toNat kind) 18 (2 * ((upz s7 17 (s7 0 25).toNat kind) 0 25)).toNat a) 0 25)) + 1).toNat b) 0 25).toNat str) 20 ((upz (upz (upz (upz s7 17 (s7 0 25).toNat kind) 18 (2 * ((upz s7 17 (s7 0 25).toNat kind) 0 25)).toNat a) 18 ((2 * ((upz (upz s7 17 (s7 0 25).toNat kind) 18 (2 * ((upz s7 17 (s7 0 25).toNat kind) 0 25)).toNat a) 0 25)) + 1).toNat b) 19 ((upz (upz (upz s7 17 (s7 0 25).toNat kind) 18 (2 * ((upz s7 17 (s7 0 25).toNat kind) 0 25)).toNat a) 18 ((2 * ((upz (upz s7 17 (s7 0 25).toNat kind) 18 (2 * ((upz s7 17 (s7 0 25).toNat kind) 0 25)).toNat a) 0 25)) + 1).toNat b) 0 25).toNat str) 0 25).toNat 0) 0 25 (((upz (upz (upz (upz (upz s7 17 (s7 0 25).toNat kind) 18 (2 * ((upz s7 17 (s7 0 25).toNat kind) 0 25)).toNat a) 18 ((2 * ((upz (upz s7 17 (s7 0 25).toNat kind) 18 (2 * ((upz s7 17 (s7 0 25).toNat kind) 0 25)).toNat a) 0 25)) + 1).toNat b) 19 ((upz (upz (upz s7 17 (s7 0 25).toNat kind) 18 (2 * ((upz s7 17 (s7 0 25).toNat kind) 0 25)).toNat a) 18 ((2 * ((upz (upz s7 17 (s7 0 25).toNat kind) 18 (2 * ((upz s7 17 (s7 0 25).toNat kind) 0 25)).toNat a) 0 25)) + 1).toNat b) 0 25).toNat str) 20 ((upz (upz (upz (upz s7 17 (s7 0 25).toNat kind) 18 (2 * ((upz s7 17 (s7 0 25).toNat kind) 0 25)).toNat a) 18 ((2 * ((upz (upz s7 17 (s7 0 25).toNat kind) 18 (2 * ((upz s7 17 (s7 0 25).toNat kind) 0 25)).toNat a) 0 25)) + 1).toNat b) 19 ((upz (upz (upz s7 17 (s7 0 25).toNat kind) 18 (2 * ((upz s7 17 (s7 0 25).toNat kind) 0 25)).toNat a) 18 ((2 * ((upz (upz s7 17 (s7 0 25).toNat kind) 18 (2 * ((upz s7 17 (s7 0 25).toNat kind) 0 25)).toNat a) 0 25)) + 1).toNat b) 0 25).toNat str) 0 25).toNat 0) 0 25) + 1)) 0 25))], [r0, r1, r2, r3, r4, r5, r6, zH (upz (upz (upz (upz (upz (upz s7 17 (s7 0 25).toNat kind) 18 (2 * ((upz s7 17 (s7 0 25).toNat kind) 0 25)).toNat a) 18 ((2 * ((upz (upz s7 17 (s7 0 25).toNat kind) 18 (2 * ((upz s7 17 (s7 0 25).toNat kind) 0 25)).toNat a) 0 25)) + 1).toNat b) 19 ((upz (upz (upz s7 17 (s7 0 25).toNat kind) 18 (2 * ((upz s7 17 (s7 0 25).toNat kind) 0 25)).toNat a) 18 ((2 * ((upz (upz s7 17 (s7 0 25).toNat kind) 18 (2 * ((upz s7 17 (s7 0 25).toNat kind) 0 25)).toNat a) 0 25)) + 1).toNat b) 0 25).toNat str) 20 ((upz (upz (upz (upz s7 17 (s7 0 25).toNat kind) 18 (2 * ((upz s7 17 (s7 0 25).toNat kind) 0 25)).toNat a) 18 ((2 * ((upz (upz s7 17 (s7 0 25).toNat kind) 18 (2 * ((upz s7 17 (s7 0 25).toNat kind) 0 25)).toNat a) 0 25)) + 1).toNat b) 19 ((upz (upz (upz s7 17 (s7 0 25).toNat kind) 18 (2 * ((upz s7 17 (s7 0 25).toNat kind) 0 25)).toNat a) 18 ((2 * ((upz (upz s7 17 (s7 0 25).toNat kind) 18 (2 * ((upz s7 17 (s7 0 25).toNat kind) 0 25)).toNat a) 0 25)) + 1).toNat b) 0 25).toNat str) 0 25).toNat 0) 0 25 (((upz (upz (upz (upz (upz s7 17 (s7 0 25).toNat kind) 18 (2 * ((upz s7 17 (s7 0 25).toNat kind) 0 25)).toNat a) 18 ((2 * ((upz (upz s7 17 (s7 0 25).toNat kind) 18 (2 * ((upz s7 17 (s7 0 25).toNat kind) 0 25)).toNat a) 0 25)) + 1).toNat b) 19 ((upz (upz (upz s7 17 (s7 0 25).toNat kind) 18 (2 * ((upz s7 17 (s7 0 25).toNat kind) 0 25)).toNat a) 18 ((2 * ((upz (upz s7 17 (s7 0 25).toNat kind) 18 (2 * ((upz s7 17 (s7 0 25).toNat kind) 0 25)).toNat a) 0 25)) + 1).toNat b) 0 25).toNat str) 20 ((upz (upz (upz (upz s7 17 (s7 0 25).toNat kind) 18 (2 * ((upz s7 17 (s7 0 25).toNat kind) 0 25)).toNat a) 18 ((2 * ((upz (upz s7 17 (s7 0 25).toNat kind) 18 (2 * ((upz s7 17 (s7 0 25).toNat kind) 0 25)).toNat a) 0 25)) + 1).toNat b) 19 ((upz (upz (upz s7 17 (s7 0 25).toNat kind) 18 (2 * ((upz s7 17 (s7 0 25).toNat kind) 0 25)).toNat a) 18 ((2 * ((upz (upz s7 17 (s7 0 25).toNat kind) 18 (2 * ((upz s7 17 (s7 0 25).toNat kind) 0 25)).toNat a) 0 25)) + 1).toNat b) 0 25).toNat str) 0 25).toNat 0) 0 25) + 1)) zL7 0, r8, r9])) rfl ?_
                refine zB.opi oX12_bar rfl (zi_sub ((upz (upz (upz (upz (upz (upz s7 17 (s7 0 25).toNat kind) 18 (2 * ((upz s7 17 (s7 0 25).toNat kind) 0 25)).toNat a) 18 ((2 * ((upz (upz s7 17 (s7 0 25).toNat kind) 18 (2 * ((upz s7 17 (s7 0 25).toNat kind) 0 25)).toNat a) 0 25)) + 1).toNat b) 19 ((upz (upz (upz s7 17 (s7 0 25).toNat kind) 18 (2 * ((upz s7 17 (s7 0 25).toNat kind) 0 25)).toNat a) 18 ((2 * ((upz (upz s7 17 (s7 0 25).toNat kind) 18 (2 * ((upz s7 17 (s7 0 25).toNat kind) 0 25)).toNat a) 0 25)) + 1).toNat b) 0 25).toNat str) 20 ((upz (upz (upz (upz s7 17 (s7 0 25).toNat kind) 18 (2 * ((upz s7 17 (s7 0 25).toNat kind) 0 25)).toNat a) 18 ((2 * ((upz (upz s7 17 (s7 0 25).toNat kind) 18 (2 * ((upz s7 17 (s7 0 25).toNat kind) 0 25)).toNat a) 0 25)) + 1).toNat b) 19 ((upz (upz (upz s7 17 (s7 0 25).toNat kind) 18 (2 * ((upz s7 17 (s7 0 25).toNat kind) 0 25)).toNat a) 18 ((2 * ((upz (upz s7 17 (s7 0 25).toNat kind) 18 (2 * ((upz s7 17 (s7 0 25).toNat kind) 0 25)).toNat a) 0 25)) + 1).toNat b) 0 25).toNat str) 0 25).toNat 0) 0 25 (((upz (upz (upz (upz (upz s7 17 (s7 0 25).toNat kind) 18 (2 * ((upz s7 17 (s7 0 25).toNat kind) 0 25)).toNat a) 18 ((2 * ((upz (upz s7 17 (s7 0 25).toNat kind) 18 (2 * ((upz s7 17 (s7 0 25).toNat kind) 0 25)).toNat a) 0 25)) + 1).toNat b) 19 ((upz (upz (upz s7 17 (s7 0 25).toNat kind) 18 (2 * ((upz s7 17 (s7 0 25).toNat kind) 0 25)).toNat a) 18 ((2 * ((upz (upz s7 17 (s7 0 25).toNat kind) 18 (2 * ((upz s7 17 (s7 0 25).toNat kind) 0 25)).toNat a) 0 25)) + 1).toNat b) 0 25).toNat str) 20 ((upz (upz (upz (upz s7 17 (s7 0 25).toNat kind) 18 (2 * ((upz s7 17 (s7 0 25).toNat kind) 0 25)).toNat a) 18 ((2 * ((upz (upz s7 17 (s7 0 25).toNat kind) 18 (2 * ((upz s7 17 (s7 0 25).toNat kind) 0 25)).toNat a) 0 25)) + 1).toNat b) 19 ((upz (upz (upz s7 17 (s7 0 25).toNat kind) 18 (2 * ((upz s7 17 (s7 0 25).toNat kind) 0 25)).toNat a) 18 ((2 * ((upz (upz s7 17 (s7 0 25).toNat kind) 18 (2 * ((upz s7 17 (s7 0 25).toNat kind) 0 25)).toNat a) 0 25)) + 1).toNat b) 0 25).toNat str) 0 25).toNat 0) 0 25) + 1)) 0 25) 1) ?_
                obtain rfl := Option.some.inj H
                exact xB.ret oX12_bar (r1 := some (.int (zI (((upz (upz (upz (upz (upz (upz s7 17 (s7 0 25).toNat kind) 18 (2 * ((upz s7 17 (s7 0 25).toNat kind) 0 25)).toNat a) 18 ((2 * ((upz (upz s7 17 (s7 0 25).toNat kind) 18 (2 * ((upz s7 17 (s7 0 25).toNat kind) 0 25)).toNat a) 0 25)) + 1).toNat b) 19 ((upz (upz (upz s7 17 (s7 0 25).toNat kind) 18 (2 * ((upz s7 17 (s7 0 25).toNat kind) 0 25)).toNat a) 18 ((2 * ((upz (upz s7 17 (s7 0 25).toNat kind) 18 (2 * ((upz s7 17 (s7 0 25).toNat kind) 0 25)).toNat a) 0 25)) + 1).toNat b) 0 25).toNat str) 20 ((upz (upz (upz (upz s7 17 (s7 0 25).toNat kind) 18 (2 * ((upz s7 17 (s7 0 25).toNat kind) 0 25)).toNat a) 18 ((2 * ((upz (upz s7 17 (s7 0 25).toNat kind) 18 (2 * ((upz s7 17 (s7 0 25).toNat kind) 0 25)).toNat a) 0 25)) + 1).toNat b) 19 ((upz (upz (upz s7 17 (s7 0 25).toNat kind) 18 (2 * ((upz s7 17 (s7 0 25).toNat kind) 0 25)).toNat a) 18 ((2 * ((upz (upz s7 17 (s7 0 25).toNat kind) 18 (2 * ((upz s7 17 (s7 0 25).toNat kind) 0 25)).toNat a) 0 25)) + 1).toNat b) 0 25).toNat str) 0 25).toNat 0) 0 25 (((upz (upz (upz (upz (upz s7 17 (s7 0 25).toNat kind) 18 (2 * ((upz s7 17 (s7 0 25).toNat kind) 0 25)).toNat a) 18 ((2 * ((upz (upz s7 17 (s7 0 25).toNat kind) 18 (2 * ((upz s7 17 (s7 0 25).toNat kind) 0 25)).toNat a) 0 25)) + 1).toNat b) 19 ((upz (upz (upz s7 17 (s7 0 25).toNat kind) 18 (2 * ((upz s7 17 (s7 0 25).toNat kind) 0 25)).toNat a) 18 ((2 * ((upz (upz s7 17 (s7 0 25).toNat kind) 18 (2 * ((upz s7 17 (s7 0 25).toNat kind) 0 25)).toNat a) 0 25)) + 1).toNat b) 0 25).toNat str) 20 ((upz (upz (upz (upz s7 17 (s7 0 25).toNat kind) 18 (2 * ((upz s7 17 (s7 0 25).toNat kind) 0 25)).toNat a) 18 ((2 * ((upz (upz s7 17 (s7 0 25).toNat kind) 18 (2 * ((upz s7 17 (s7 0 25).toNat kind) 0 25)).toNat a) 0 25)) + 1).toNat b) 19 ((upz (upz (upz s7 17 (s7 0 25).toNat kind) 18 (2 * ((upz s7 17 (s7 0 25).toNat kind) 0 25)).toNat a) 18 ((2 * ((upz (upz s7 17 (s7 0 25).toNat kind) 18 (2 * ((upz s7 17 (s7 0 25).toNat kind) 0 25)).toNat a) 0 25)) + 1).toNat b) 0 25).toNat str) 0 25).toNat 0) 0 25) + 1)) 0 25) - 1)))) rfl rfl rfl
              · have H := H.2 h38
                refine xB.run oX12_bar 1 (s := (139, [some (.ref 7168), some (.int (zI kind)), some (.int (zI a)), some (.int (zI b)), some (.int (zI str)), some (.int (zI y36))], [.int (zI (-4))], [r0, r1, r2, r3, r4, r5, r6, zH s7 zL7 0, r8, r9])) rfl ?_
                obtain rfl := Option.some.inj H
                exact xB.ret oX12_bar (r1 := some (.int (zI (-4)))) rfl rfl rfl
            · subst uQ
              obtain rfl := Option.some.inj H
              exact ⟨rfl, rfl⟩
          · have H := H.2 h13
            refine xB.run oX12_bar 1 (s := (50, [some (.ref 7168), some (.int (zI kind)), some (.int (zI a)), some (.int (zI b)), some (.int (zI str)), none], [.int (zI (-2))], [r0, r1, r2, r3, r4, r5, r6, zH s7 zL7 0, r8, r9])) rfl ?_
            obtain rfl := Option.some.inj H
            exact xB.ret oX12_bar (r1 := some (.int (zI (-2)))) rfl rfl rfl
    · have H := H.2 h6
      refine xB.run oX12_bar 1 (s := (17, [some (.ref 7168), some (.int (zI kind)), some (.int (zI a)), some (.int (zI b)), some (.int (zI str)), none], [.int (zI (-1))], [r0, r1, r2, r3, r4, r5, r6, zH s7 zL7 0, r8, r9])) rfl ?_
      obtain rfl := Option.some.inj H
      exact xB.ret oX12_bar (r1 := some (.int (zI (-1)))) rfl rfl rfl
def d_X12_cut (s7 : zZ) (b : Int) (is : Int) : Option (Int × zZ) := (d_X12_isBar s7 b).bind fun y1 => if (zr y1) then (if y1 ≠ 0 then (if (0 ≤ b ∧ b < 16) then (if (zr (s7 20 b.toNat) ∧ zr is) then (if (s7 20 b.toNat) ≠ is then (if ((0 ≤ b ∧ b < 16) ∧ (is = 0 ∨ is = 1)) then some (1, upz s7 20 b.toNat is) else none) else (if ((0 ≤ b ∧ b < 16) ∧ (is = 0 ∨ is = 1)) then some (0, upz s7 20 b.toNat is) else none)) else none) else none) else some ((-1), s7)) else none
set_option maxRecDepth 20000 in
theorem t_X12_cut (r0 : List va_E) (r1 : List va_E) (r2 : List va_E) (r3 : List va_E) (r4 : List va_E) (r5 : List va_E) (r6 : List va_E) (s7 : zZ) (r8 : List va_E) (r9 : List va_E) (b : Int) (is : Int) {rr : Int × zZ} (H : d_X12_cut s7 b is = some rr) : xC MX12_cut 1 [.ref 7168, .int (zI b), .int (zI is)] ([r0, r1, r2, r3, r4, r5, r6, zH s7 zL7 0, r8, r9]) (some (.int (zI rr.1))) ([r0, r1, r2, r3, r4, r5, r6, zH rr.2 zL7 0, r8, r9]) := by
  refine ⟨Nat.le_of_ble_eq_true rfl, ?_⟩
  show xBody MX12_cut 1 0 [some (.ref 7168), some (.int (zI b)), some (.int (zI is)), none] [] ([r0, r1, r2, r3, r4, r5, r6, zH s7 zL7 0, r8, r9]) _ _
  unfold d_X12_cut at H
  refine xB.run oX12_cut 2 (s := (2, [some (.ref 7168), some (.int (zI b)), some (.int (zI is)), none], [.int (zI b), .ref 7168], [r0, r1, r2, r3, r4, r5, r6, zH s7 zL7 0, r8, r9])) rfl ?_
  obtain ⟨y1, e2, H⟩ := zbd H
  refine xB.call oX12_cut (M2 := MX12_isBar) rfl rfl ((t_X12_isBar r0 r1 r2 r3 r4 r5 r6 s7 r8 r9 b e2).deep (by decide : 0 ≤ 0)) ?_
  show xBody MX12_cut 1 5 [some (.ref 7168), some (.int (zI b)), some (.int (zI is)), none] [.int (zI y1)] ([r0, r1, r2, r3, r4, r5, r6, zH s7 zL7 0, r8, r9]) _ _
  obtain ⟨g9, H⟩ := zgd H
  have H := zif H
  refine xB.brE oX12_cut (P := y1 ≠ 0) rfl (zc_ne (a := y1) (b := 0) ⟨g9, by decide⟩) (fun h3 => ?_) (fun h3 => ?_)
  · have H := H.1 h3
    refine xB.run oX12_cut 3 (s := (15, [some (.ref 7168), some (.int (zI b)), some (.int (zI is)), none], [.int (zI b), .ref 7188], [r0, r1, r2, r3, r4, r5, r6, zH s7 zL7 0, r8, r9])) rfl ?_
    obtain ⟨g8, H⟩ := zgd H
    refine zB.bald oX12_cut (g := 7) (p := 20) (N := 16) (i := b) rfl rfl (by decide) rfl rfl (by decide) g8 ?_
    refine xB.run oX12_cut 1 (s := (17, [some (.ref 7168), some (.int (zI b)), some (.int (zI is)), none], [.int (zI is), .int (zI (s7 20 b.toNat))], [r0, r1, r2, r3, r4, r5, r6, zH s7 zL7 0, r8, r9])) rfl ?_
    obtain ⟨g7, H⟩ := zgd H
    have H := zif H
    refine xB.brE oX12_cut (P := (s7 20 b.toNat) ≠ is) rfl (zc_ne (a := s7 20 b.toNat) (b := is) g7) (fun h4 => ?_) (fun h4 => ?_)
    · have H := H.1 h4
      refine xB.run oX12_cut 6 (s := (32, [some (.ref 7168), some (.int (zI b)), some (.int (zI is)), some (.int (zI 1))], [.int (zI is), .int (zI b), .ref 7188], [r0, r1, r2, r3, r4, r5, r6, zH s7 zL7 0, r8, r9])) rfl ?_
      obtain ⟨g5, H⟩ := zgd H
      refine zB.bast oX12_cut (g := 7) (p := 20) (N := 16) (i := b) (hp1 := [r0, r1, r2, r3, r4, r5, r6, zH (upz s7 20 b.toNat is) zL7 0, r8, r9]) rfl rfl (by decide) (by decide) rfl rfl (by decide) g5.2 g5.1 rfl ?_
      refine xB.run oX12_cut 1 (s := (34, [some (.ref 7168), some (.int (zI b)), some (.int (zI is)), some (.int (zI 1))], [.int (zI 1)], [r0, r1, r2, r3, r4, r5, r6, zH (upz s7 20 b.toNat is) zL7 0, r8, r9])) rfl ?_
      obtain rfl := Option.some.inj H
      exact xB.ret oX12_cut (r1 := some (.int (zI 1))) rfl rfl rfl
    · have H := H.2 h4
      refine xB.run oX12_cut 7 (s := (32, [some (.ref 7168), some (.int (zI b)), some (.int (zI is)), some (.int (zI 0))], [.int (zI is), .int (zI b), .ref 7188], [r0, r1, r2, r3, r4, r5, r6, zH s7 zL7 0, r8, r9])) rfl ?_
      obtain ⟨g6, H⟩ := zgd H
      refine zB.bast oX12_cut (g := 7) (p := 20) (N := 16) (i := b) (hp1 := [r0, r1, r2, r3, r4, r5, r6, zH (upz s7 20 b.toNat is) zL7 0, r8, r9]) rfl rfl (by decide) (by decide) rfl rfl (by decide) g6.2 g6.1 rfl ?_
      refine xB.run oX12_cut 1 (s := (34, [some (.ref 7168), some (.int (zI b)), some (.int (zI is)), some (.int (zI 0))], [.int (zI 0)], [r0, r1, r2, r3, r4, r5, r6, zH (upz s7 20 b.toNat is) zL7 0, r8, r9])) rfl ?_
      obtain rfl := Option.some.inj H
      exact xB.ret oX12_cut (r1 := some (.int (zI 0))) rfl rfl rfl
  · have H := H.2 h3
    refine xB.run oX12_cut 1 (s := (9, [some (.ref 7168), some (.int (zI b)), some (.int (zI is)), none], [.int (zI (-1))], [r0, r1, r2, r3, r4, r5, r6, zH s7 zL7 0, r8, r9])) rfl ?_
    obtain rfl := Option.some.inj H
    exact xB.ret oX12_cut (r1 := some (.int (zI (-1)))) rfl rfl rfl
def d_X12_about (s7 : zZ) (b : Int) (wh : Int) : Option (Int) := (d_X12_isBar s7 b).bind fun y1 => if (zr y1) then (if y1 ≠ 0 then (if zr wh then (if wh = 0 then (if (0 ≤ b ∧ b < 16) then some (s7 17 b.toNat) else none) else (if wh = 1 then (if (0 ≤ (2 * b) ∧ (2 * b) < 32) then some (s7 18 (2 * b).toNat) else none) else (if wh = 2 then (if (0 ≤ ((2 * b) + 1) ∧ ((2 * b) + 1) < 32) then some (s7 18 ((2 * b) + 1).toNat) else none) else (if wh = 3 then (if (0 ≤ b ∧ b < 16) then some (s7 19 b.toNat) else none) else (if wh = 4 then (if (0 ≤ b ∧ b < 16) then (if (zr (s7 20 b.toNat)) then (if (s7 20 b.toNat) = 0 then some 0 else some 1) else none) else none) else some (-2)))))) else none) else some (-1)) else none
set_option maxRecDepth 20000 in
theorem t_X12_about (r0 : List va_E) (r1 : List va_E) (r2 : List va_E) (r3 : List va_E) (r4 : List va_E) (r5 : List va_E) (r6 : List va_E) (s7 : zZ) (r8 : List va_E) (r9 : List va_E) (b : Int) (wh : Int) {rr : Int} (H : d_X12_about s7 b wh = some rr) : xC MX12_about 1 [.ref 7168, .int (zI b), .int (zI wh)] ([r0, r1, r2, r3, r4, r5, r6, zH s7 zL7 0, r8, r9]) (some (.int (zI rr))) ([r0, r1, r2, r3, r4, r5, r6, zH s7 zL7 0, r8, r9]) := by
  refine ⟨Nat.le_of_ble_eq_true rfl, ?_⟩
  show xBody MX12_about 1 0 [some (.ref 7168), some (.int (zI b)), some (.int (zI wh))] [] ([r0, r1, r2, r3, r4, r5, r6, zH s7 zL7 0, r8, r9]) _ _
  unfold d_X12_about at H
  refine xB.run oX12_about 2 (s := (2, [some (.ref 7168), some (.int (zI b)), some (.int (zI wh))], [.int (zI b), .ref 7168], [r0, r1, r2, r3, r4, r5, r6, zH s7 zL7 0, r8, r9])) rfl ?_
  obtain ⟨y1, e2, H⟩ := zbd H
  refine xB.call oX12_about (M2 := MX12_isBar) rfl rfl ((t_X12_isBar r0 r1 r2 r3 r4 r5 r6 s7 r8 r9 b e2).deep (by decide : 0 ≤ 0)) ?_
  show xBody MX12_about 1 5 [some (.ref 7168), some (.int (zI b)), some (.int (zI wh))] [.int (zI y1)] ([r0, r1, r2, r3, r4, r5, r6, zH s7 zL7 0, r8, r9]) _ _
  obtain ⟨g17, H⟩ := zgd H
  have H := zif H
  refine xB.brE oX12_about (P := y1 ≠ 0) rfl (zc_ne (a := y1) (b := 0) ⟨g17, by decide⟩) (fun h3 => ?_) (fun h3 => ?_)
  · have H := H.1 h3
    refine xB.run oX12_about 1 (s := (11, [some (.ref 7168), some (.int (zI b)), some (.int (zI wh))], [.int (zI wh)], [r0, r1, r2, r3, r4, r5, r6, zH s7 zL7 0, r8, r9])) rfl ?_
    obtain ⟨g4, H⟩ := zgd H
    have H := zif H
    by_cases h5 : wh = 0
    · have H := H.1 h5
      refine xB.next oX12_about (s := (44, [some (.ref 7168), some (.int (zI b)), some (.int (zI wh))], [], [r0, r1, r2, r3, r4, r5, r6, zH s7 zL7 0, r8, r9])) (xsw_at rfl (by rw [zsw g4 0 _ (by decide), if_pos (show wh = ((0 : Nat) : Int) from h5)])) ?_
      refine xB.run oX12_about 3 (s := (49, [some (.ref 7168), some (.int (zI b)), some (.int (zI wh))], [.int (zI b), .ref 7185], [r0, r1, r2, r3, r4, r5, r6, zH s7 zL7 0, r8, r9])) rfl ?_
      obtain ⟨g6, H⟩ := zgd H
      refine zB.iald oX12_about (g := 7) (p := 17) (N := 16) (i := b) rfl rfl (by decide) rfl rfl (by decide) g6 ?_
      obtain rfl := Option.some.inj H
      exact xB.ret oX12_about (r1 := some (.int (zI (s7 17 b.toNat)))) rfl rfl rfl
    · have H := H.2 h5
      have H := zif H
      by_cases h7 : wh = 1
      · have H := H.1 h7
        refine xB.next oX12_about (s := (51, [some (.ref 7168), some (.int (zI b)), some (.int (zI wh))], [], [r0, r1, r2, r3, r4, r5, r6, zH s7 zL7 0, r8, r9])) (xsw_at rfl (by rw [zsw g4 0 _ (by decide), if_neg (show ¬ wh = ((0 : Nat) : Int) from h5)]; rw [zsw g4 1 _ (by decide), if_pos (show wh = ((1 : Nat) : Int) from h7)])) ?_
        refine xB.run oX12_about 4 (s := (57, [some (.ref 7168), some (.int (zI b)), some (.int (zI wh))], [.int (zI b), .int (zI 2), .ref 7186], [r0, r1, r2, r3, r4, r5, r6, zH s7 zL7 0, r8, r9])) rfl ?_
        refine zB.opi oX12_about rfl (zi_mul 2 b) ?_
        obtain ⟨g8, H⟩ := zgd H
        refine zB.iald oX12_about (g := 7) (p := 18) (N := 32) (i := 2 * b) rfl rfl (by decide) rfl rfl (by decide) g8 ?_
        obtain rfl := Option.some.inj H
        exact xB.ret oX12_about (r1 := some (.int (zI (s7 18 (2 * b).toNat)))) rfl rfl rfl
      · have H := H.2 h7
        have H := zif H
        by_cases h9 : wh = 2
        · have H := H.1 h9
          refine xB.next oX12_about (s := (60, [some (.ref 7168), some (.int (zI b)), some (.int (zI wh))], [], [r0, r1, r2, r3, r4, r5, r6, zH s7 zL7 0, r8, r9])) (xsw_at rfl (by rw [zsw g4 0 _ (by decide), if_neg (show ¬ wh = ((0 : Nat) : Int) from h5)]; rw [zsw g4 1 _ (by decide), if_neg (show ¬ wh = ((1 : Nat) : Int) from h7)]; rw [zsw g4 2 _ (by decide), if_pos (show wh = ((2 : Nat) : Int) from h9)])) ?_
          refine xB.run oX12_about 4 (s := (66, [some (.ref 7168), some (.int (zI b)), some (.int (zI wh))], [.int (zI b), .int (zI 2), .ref 7186], [r0, r1, r2, r3, r4, r5, r6, zH s7 zL7 0, r8, r9])) rfl ?_
          refine zB.opi oX12_about rfl (zi_mul 2 b) ?_
          refine xB.run oX12_about 1 (s := (68, [some (.ref 7168), some (.int (zI b)), some (.int (zI wh))], [.int (zI 1), .int (zI (2 * b)), .ref 7186], [r0, r1, r2, r3, r4, r5, r6, zH s7 zL7 0, r8, r9])) rfl ?_
          refine zB.opi oX12_about rfl (zi_add (2 * b) 1) ?_
          obtain ⟨g10, H⟩ := zgd H
          refine zB.iald oX12_about (g := 7) (p := 18) (N := 32) (i := (2 * b) + 1) rfl rfl (by decide) rfl rfl (by decide) g10 ?_
          obtain rfl := Option.some.inj H
          exact xB.ret oX12_about (r1 := some (.int (zI (s7 18 ((2 * b) + 1).toNat)))) rfl rfl rfl
        · have H := H.2 h9
          have H := zif H
          by_cases h11 : wh = 3
          · have H := H.1 h11
            refine xB.next oX12_about (s := (71, [some (.ref 7168), some (.int (zI b)), some (.int (zI wh))], [], [r0, r1, r2, r3, r4, r5, r6, zH s7 zL7 0, r8, r9])) (xsw_at rfl (by rw [zsw g4 0 _ (by decide), if_neg (show ¬ wh = ((0 : Nat) : Int) from h5)]; rw [zsw g4 1 _ (by decide), if_neg (show ¬ wh = ((1 : Nat) : Int) from h7)]; rw [zsw g4 2 _ (by decide), if_neg (show ¬ wh = ((2 : Nat) : Int) from h9)]; rw [zsw g4 3 _ (by decide), if_pos (show wh = ((3 : Nat) : Int) from h11)])) ?_
            refine xB.run oX12_about 3 (s := (76, [some (.ref 7168), some (.int (zI b)), some (.int (zI wh))], [.int (zI b), .ref 7187], [r0, r1, r2, r3, r4, r5, r6, zH s7 zL7 0, r8, r9])) rfl ?_
            obtain ⟨g12, H⟩ := zgd H
            refine zB.iald oX12_about (g := 7) (p := 19) (N := 16) (i := b) rfl rfl (by decide) rfl rfl (by decide) g12 ?_
            obtain rfl := Option.some.inj H
            exact xB.ret oX12_about (r1 := some (.int (zI (s7 19 b.toNat)))) rfl rfl rfl
          · have H := H.2 h11
            have H := zif H
            by_cases h13 : wh = 4
            · have H := H.1 h13
              refine xB.next oX12_about (s := (78, [some (.ref 7168), some (.int (zI b)), some (.int (zI wh))], [], [r0, r1, r2, r3, r4, r5, r6, zH s7 zL7 0, r8, r9])) (xsw_at rfl (by rw [zsw g4 0 _ (by decide), if_neg (show ¬ wh = ((0 : Nat) : Int) from h5)]; rw [zsw g4 1 _ (by decide), if_neg (show ¬ wh = ((1 : Nat) : Int) from h7)]; rw [zsw g4 2 _ (by decide), if_neg (show ¬ wh = ((2 : Nat) : Int) from h9)]; rw [zsw g4 3 _ (by decide), if_neg (show ¬ wh = ((3 : Nat) : Int) from h11)]; rw [zsw g4 4 _ (by decide), if_pos (show wh = ((4 : Nat) : Int) from h13)])) ?_
              refine xB.run oX12_about 3 (s := (83, [some (.ref 7168), some (.int (zI b)), some (.int (zI wh))], [.int (zI b), .ref 7188], [r0, r1, r2, r3, r4, r5, r6, zH s7 zL7 0, r8, r9])) rfl ?_
              obtain ⟨g16, H⟩ := zgd H
              refine zB.bald oX12_about (g := 7) (p := 20) (N := 16) (i := b) rfl rfl (by decide) rfl rfl (by decide) g16 ?_
              obtain ⟨g15, H⟩ := zgd H
              have H := zif H
              refine xB.brE oX12_about (P := (s7 20 b.toNat) = 0) rfl (zc_eq (a := s7 20 b.toNat) (b := 0) ⟨g15, by decide⟩) (fun h14 => ?_) (fun h14 => ?_)
              · have H := H.1 h14
                refine xB.run oX12_about 1 (s := (92, [some (.ref 7168), some (.int (zI b)), some (.int (zI wh))], [.int (zI 0)], [r0, r1, r2, r3, r4, r5, r6, zH s7 zL7 0, r8, r9])) rfl ?_
                obtain rfl := Option.some.inj H
                exact xB.ret oX12_about (r1 := some (.int (zI 0))) rfl rfl rfl
              · have H := H.2 h14
                refine xB.run oX12_about 2 (s := (92, [some (.ref 7168), some (.int (zI b)), some (.int (zI wh))], [.int (zI 1)], [r0, r1, r2, r3, r4, r5, r6, zH s7 zL7 0, r8, r9])) rfl ?_
                obtain rfl := Option.some.inj H
                exact xB.ret oX12_about (r1 := some (.int (zI 1))) rfl rfl rfl
            · have H := H.2 h13
              refine xB.next oX12_about (s := (93, [some (.ref 7168), some (.int (zI b)), some (.int (zI wh))], [], [r0, r1, r2, r3, r4, r5, r6, zH s7 zL7 0, r8, r9])) (xsw_at rfl (by rw [zsw g4 0 _ (by decide), if_neg (show ¬ wh = ((0 : Nat) : Int) from h5)]; rw [zsw g4 1 _ (by decide), if_neg (show ¬ wh = ((1 : Nat) : Int) from h7)]; rw [zsw g4 2 _ (by decide), if_neg (show ¬ wh = ((2 : Nat) : Int) from h9)]; rw [zsw g4 3 _ (by decide), if_neg (show ¬ wh = ((3 : Nat) : Int) from h11)]; rw [zsw g4 4 _ (by decide), if_neg (show ¬ wh = ((4 : Nat) : Int) from h13)]; rfl)) ?_
              refine xB.run oX12_about 1 (s := (95, [some (.ref 7168), some (.int (zI b)), some (.int (zI wh))], [.int (zI (-2))], [r0, r1, r2, r3, r4, r5, r6, zH s7 zL7 0, r8, r9])) rfl ?_
              obtain rfl := Option.some.inj H
              exact xB.ret oX12_about (r1 := some (.int (zI (-2)))) rfl rfl rfl
  · have H := H.2 h3
    refine xB.run oX12_about 1 (s := (9, [some (.ref 7168), some (.int (zI b)), some (.int (zI wh))], [.int (zI (-1))], [r0, r1, r2, r3, r4, r5, r6, zH s7 zL7 0, r8, r9])) rfl ?_
    obtain rfl := Option.some.inj H
    exact xB.ret oX12_about (r1 := some (.int (zI (-1)))) rfl rfl rfl
def d_X12_load (s7 : zZ) (c : Int) (jt : Int) (x : Int) (y : Int) : Option (Int × zZ) := (d_X12_isCase c).bind fun y1 => if (zr y1) then (if y1 = 0 then some ((-1), s7) else ((d_X12_isJoint s7 jt).bind fun y4 => if (zr y4) then (if y4 ≠ 0 then (if zr x then ((d_X12_within x (-30) 30).bind fun y7 => if (zr y7) then (if y7 = 0 then some ((-2), s7) else (if zr y then ((d_X12_within y (-30) 30).bind fun y10 => if (zr y10) then (if y10 ≠ 0 then (if (0 ≤ jt ∧ jt < 8) then (if (zr (s7 16 jt.toNat)) then (if (s7 16 jt.toNat) ≠ (-9) then (if (0 ≤ jt ∧ jt < 8) then (if (0 ≤ ((8 * c) + (2 * (s7 16 jt.toNat))) ∧ ((8 * c) + (2 * (s7 16 jt.toNat))) < 48) then (if (0 ≤ jt ∧ jt < 8) then (if (0 ≤ (((8 * c) + (2 * ((upz s7 21 ((8 * c) + (2 * (s7 16 jt.toNat))).toNat x) 16 jt.toNat))) + 1) ∧ (((8 * c) + (2 * ((upz s7 21 ((8 * c) + (2 * (s7 16 jt.toNat))).toNat x) 16 jt.toNat))) + 1) < 48) then some (1, upz (upz s7 21 ((8 * c) + (2 * (s7 16 jt.toNat))).toNat x) 21 (((8 * c) + (2 * ((upz s7 21 ((8 * c) + (2 * (s7 16 jt.toNat))).toNat x) 16 jt.toNat))) + 1).toNat y) else none) else none) else none) else none) else some ((-3), s7)) else none) else none) else some ((-2), s7)) else none) else none)) else none) else none) else some ((-1), s7)) else none)) else none
set_option maxRecDepth 20000 in
theorem t_X12_load (r0 : List va_E) (r1 : List va_E) (r2 : List va_E) (r3 : List va_E) (r4 : List va_E) (r5 : List va_E) (r6 : List va_E) (s7 : zZ) (r8 : List va_E) (r9 : List va_E) (c : Int) (jt : Int) (x : Int) (y : Int) {rr : Int × zZ} (H : d_X12_load s7 c jt x y = some rr) : xC MX12_load 2 [.ref 7168, .int (zI c), .int (zI jt), .int (zI x), .int (zI y)] ([r0, r1, r2, r3, r4, r5, r6, zH s7 zL7 0, r8, r9]) (some (.int (zI rr.1))) ([r0, r1, r2, r3, r4, r5, r6, zH rr.2 zL7 0, r8, r9]) := by
  refine ⟨Nat.le_of_ble_eq_true rfl, ?_⟩
  show xBody MX12_load 2 0 [some (.ref 7168), some (.int (zI c)), some (.int (zI jt)), some (.int (zI x)), some (.int (zI y))] [] ([r0, r1, r2, r3, r4, r5, r6, zH s7 zL7 0, r8, r9]) _ _
  unfold d_X12_load at H
  refine xB.run oX12_load 1 (s := (1, [some (.ref 7168), some (.int (zI c)), some (.int (zI jt)), some (.int (zI x)), some (.int (zI y))], [.int (zI c)], [r0, r1, r2, r3, r4, r5, r6, zH s7 zL7 0, r8, r9])) rfl ?_
  obtain ⟨y1, e2, H⟩ := zbd H
  refine xB.call oX12_load (M2 := MX12_isCase) rfl rfl ((t_X12_isCase r0 r1 r2 r3 r4 r5 r6 (zH s7 zL7 0) r8 r9 c e2).deep (by decide : 1 ≤ 1)) ?_
  show xBody MX12_load 2 4 [some (.ref 7168), some (.int (zI c)), some (.int (zI jt)), some (.int (zI x)), some (.int (zI y))] [.int (zI y1)] ([r0, r1, r2, r3, r4, r5, r6, zH s7 zL7 0, r8, r9]) _ _
  obtain ⟨g25, H⟩ := zgd H
  have H := zif H
  refine xB.brE oX12_load (P := y1 = 0) rfl (zc_eq (a := y1) (b := 0) ⟨g25, by decide⟩) (fun h3 => ?_) (fun h3 => ?_)
  · have H := H.1 h3
    refine xB.run oX12_load 1 (s := (16, [some (.ref 7168), some (.int (zI c)), some (.int (zI jt)), some (.int (zI x)), some (.int (zI y))], [.int (zI (-1))], [r0, r1, r2, r3, r4, r5, r6, zH s7 zL7 0, r8, r9])) rfl ?_
    obtain rfl := Option.some.inj H
    exact xB.ret oX12_load (r1 := some (.int (zI (-1)))) rfl rfl rfl
  · have H := H.2 h3
    refine xB.run oX12_load 2 (s := (9, [some (.ref 7168), some (.int (zI c)), some (.int (zI jt)), some (.int (zI x)), some (.int (zI y))], [.int (zI jt), .ref 7168], [r0, r1, r2, r3, r4, r5, r6, zH s7 zL7 0, r8, r9])) rfl ?_
    obtain ⟨y4, e5, H⟩ := zbd H
    refine xB.call oX12_load (M2 := MX12_isJoint) rfl rfl ((t_X12_isJoint r0 r1 r2 r3 r4 r5 r6 s7 r8 r9 jt e5).deep (by decide : 0 ≤ 1)) ?_
    show xBody MX12_load 2 12 [some (.ref 7168), some (.int (zI c)), some (.int (zI jt)), some (.int (zI x)), some (.int (zI y))] [.int (zI y4)] ([r0, r1, r2, r3, r4, r5, r6, zH s7 zL7 0, r8, r9]) _ _
    obtain ⟨g24, H⟩ := zgd H
    have H := zif H
    refine xB.brE oX12_load (P := y4 ≠ 0) rfl (zc_ne (a := y4) (b := 0) ⟨g24, by decide⟩) (fun h6 => ?_) (fun h6 => ?_)
    · have H := H.1 h6
      refine xB.run oX12_load 1 (s := (18, [some (.ref 7168), some (.int (zI c)), some (.int (zI jt)), some (.int (zI x)), some (.int (zI y))], [.int (zI x)], [r0, r1, r2, r3, r4, r5, r6, zH s7 zL7 0, r8, r9])) rfl ?_
      obtain ⟨g23, H⟩ := zgd H
      refine zB.opl oX12_load rfl (zi_i2l g23) ?_
      refine xB.run oX12_load 2 (s := (25, [some (.ref 7168), some (.int (zI c)), some (.int (zI jt)), some (.int (zI x)), some (.int (zI y))], [.long (zJ 30), .long (zJ (-30)), .long (zJ x)], [r0, r1, r2, r3, r4, r5, r6, zH s7 zL7 0, r8, r9])) rfl ?_
      obtain ⟨y7, e8, H⟩ := zbd H
      refine xB.call oX12_load (M2 := MX12_within) rfl rfl ((t_X12_within r0 r1 r2 r3 r4 r5 r6 (zH s7 zL7 0) r8 r9 x (-30) 30 e8).deep (by decide : 0 ≤ 1)) ?_
      show xBody MX12_load 2 28 [some (.ref 7168), some (.int (zI c)), some (.int (zI jt)), some (.int (zI x)), some (.int (zI y))] [.int (zI y7)] ([r0, r1, r2, r3, r4, r5, r6, zH s7 zL7 0, r8, r9]) _ _
      obtain ⟨g22, H⟩ := zgd H
      have H := zif H
      refine xB.brE oX12_load (P := y7 = 0) rfl (zc_eq (a := y7) (b := 0) ⟨g22, by decide⟩) (fun h9 => ?_) (fun h9 => ?_)
      · have H := H.1 h9
        refine xB.run oX12_load 1 (s := (48, [some (.ref 7168), some (.int (zI c)), some (.int (zI jt)), some (.int (zI x)), some (.int (zI y))], [.int (zI (-2))], [r0, r1, r2, r3, r4, r5, r6, zH s7 zL7 0, r8, r9])) rfl ?_
        obtain rfl := Option.some.inj H
        exact xB.ret oX12_load (r1 := some (.int (zI (-2)))) rfl rfl rfl
      · have H := H.2 h9
        refine xB.run oX12_load 1 (s := (33, [some (.ref 7168), some (.int (zI c)), some (.int (zI jt)), some (.int (zI x)), some (.int (zI y))], [.int (zI y)], [r0, r1, r2, r3, r4, r5, r6, zH s7 zL7 0, r8, r9])) rfl ?_
        obtain ⟨g21, H⟩ := zgd H
        refine zB.opl oX12_load rfl (zi_i2l g21) ?_
        refine xB.run oX12_load 2 (s := (40, [some (.ref 7168), some (.int (zI c)), some (.int (zI jt)), some (.int (zI x)), some (.int (zI y))], [.long (zJ 30), .long (zJ (-30)), .long (zJ y)], [r0, r1, r2, r3, r4, r5, r6, zH s7 zL7 0, r8, r9])) rfl ?_
        obtain ⟨y10, e11, H⟩ := zbd H
        refine xB.call oX12_load (M2 := MX12_within) rfl rfl ((t_X12_within r0 r1 r2 r3 r4 r5 r6 (zH s7 zL7 0) r8 r9 y (-30) 30 e11).deep (by decide : 0 ≤ 1)) ?_
        show xBody MX12_load 2 43 [some (.ref 7168), some (.int (zI c)), some (.int (zI jt)), some (.int (zI x)), some (.int (zI y))] [.int (zI y10)] ([r0, r1, r2, r3, r4, r5, r6, zH s7 zL7 0, r8, r9]) _ _
        obtain ⟨g20, H⟩ := zgd H
        have H := zif H
        refine xB.brE oX12_load (P := y10 ≠ 0) rfl (zc_ne (a := y10) (b := 0) ⟨g20, by decide⟩) (fun h12 => ?_) (fun h12 => ?_)
        · have H := H.1 h12
          refine xB.run oX12_load 3 (s := (54, [some (.ref 7168), some (.int (zI c)), some (.int (zI jt)), some (.int (zI x)), some (.int (zI y))], [.int (zI jt), .ref 7184], [r0, r1, r2, r3, r4, r5, r6, zH s7 zL7 0, r8, r9])) rfl ?_
          obtain ⟨g19, H⟩ := zgd H
          refine zB.iald oX12_load (g := 7) (p := 16) (N := 8) (i := jt) rfl rfl (by decide) rfl rfl (by decide) g19 ?_
          refine xB.run oX12_load 1 (s := (57, [some (.ref 7168), some (.int (zI c)), some (.int (zI jt)), some (.int (zI x)), some (.int (zI y))], [.int (zI (-9)), .int (zI (s7 16 jt.toNat))], [r0, r1, r2, r3, r4, r5, r6, zH s7 zL7 0, r8, r9])) rfl ?_
          obtain ⟨g18, H⟩ := zgd H
          have H := zif H
          refine xB.brE oX12_load (P := (s7 16 jt.toNat) ≠ (-9)) rfl (zc_ne (a := s7 16 jt.toNat) (b := (-9)) ⟨g18, by decide⟩) (fun h13 => ?_) (fun h13 => ?_)
          · have H := H.1 h13
            refine xB.run oX12_load 4 (s := (70, [some (.ref 7168), some (.int (zI c)), some (.int (zI jt)), some (.int (zI x)), some (.int (zI y))], [.int (zI c), .int (zI 8), .ref 7189], [r0, r1, r2, r3, r4, r5, r6, zH s7 zL7 0, r8, r9])) rfl ?_
            refine zB.opi oX12_load rfl (zi_mul 8 c) ?_
            refine xB.run oX12_load 4 (s := (77, [some (.ref 7168), some (.int (zI c)), some (.int (zI jt)), some (.int (zI x)), some (.int (zI y))], [.int (zI jt), .ref 7184, .int (zI 2), .int (zI (8 * c)), .ref 7189], [r0, r1, r2, r3, r4, r5, r6, zH s7 zL7 0, r8, r9])) rfl ?_
            obtain ⟨g17, H⟩ := zgd H
            refine zB.iald oX12_load (g := 7) (p := 16) (N := 8) (i := jt) rfl rfl (by decide) rfl rfl (by decide) g17 ?_
            refine zB.opi oX12_load rfl (zi_mul 2 (s7 16 jt.toNat)) ?_
            refine zB.opi oX12_load rfl (zi_add (8 * c) (2 * (s7 16 jt.toNat))) ?_
            refine xB.run oX12_load 1 (s := (81, [some (.ref 7168), some (.int (zI c)), some (.int (zI jt)), some (.int (zI x)), some (.int (zI y))], [.int (zI x), .int (zI ((8 * c) + (2 * (s7 16 jt.toNat)))), .ref 7189], [r0, r1, r2, r3, r4, r5, r6, zH s7 zL7 0, r8, r9])) rfl ?_
            obtain ⟨g16, H⟩ := zgd H
            refine zB.iast oX12_load (g := 7) (p := 21) (N := 48) (i := (8 * c) + (2 * (s7 16 jt.toNat))) (hp1 := [r0, r1, r2, r3, r4, r5, r6, zH (upz s7 21 ((8 * c) + (2 * (s7 16 jt.toNat))).toNat x) zL7 0, r8, r9]) rfl rfl (by decide) (by decide) rfl rfl (by decide) g16 rfl ?_
            refine xB.run oX12_load 4 (s := (89, [some (.ref 7168), some (.int (zI c)), some (.int (zI jt)), some (.int (zI x)), some (.int (zI y))], [.int (zI c), .int (zI 8), .ref 7189], [r0, r1, r2, r3, r4, r5, r6, zH (upz s7 21 ((8 * c) + (2 * (s7 16 jt.toNat))).toNat x) zL7 0, r8, r9])) rfl ?_
            refine zB.opi oX12_load rfl (zi_mul 8 c) ?_
            refine xB.run oX12_load 4 (s := (96, [some (.ref 7168), some (.int (zI c)), some (.int (zI jt)), some (.int (zI x)), some (.int (zI y))], [.int (zI jt), .ref 7184, .int (zI 2), .int (zI (8 * c)), .ref 7189], [r0, r1, r2, r3, r4, r5, r6, zH (upz s7 21 ((8 * c) + (2 * (s7 16 jt.toNat))).toNat x) zL7 0, r8, r9])) rfl ?_
            obtain ⟨g15, H⟩ := zgd H
            refine zB.iald oX12_load (g := 7) (p := 16) (N := 8) (i := jt) rfl rfl (by decide) rfl rfl (by decide) g15 ?_
            refine zB.opi oX12_load rfl (zi_mul 2 ((upz s7 21 ((8 * c) + (2 * (s7 16 jt.toNat))).toNat x) 16 jt.toNat)) ?_
            refine zB.opi oX12_load rfl (zi_add (8 * c) (2 * ((upz s7 21 ((8 * c) + (2 * (s7 16 jt.toNat))).toNat x) 16 jt.toNat))) ?_
            refine xB.run oX12_load 1 (s := (100, [some (.ref 7168), some (.int (zI c)), some (.int (zI jt)), some (.int (zI x)), some (.int (zI y))], [.int (zI 1), .int (zI ((8 * c) + (2 * ((upz s7 21 ((8 * c) + (2 * (s7 16 jt.toNat))).toNat x) 16 jt.toNat)))), .ref 7189], [r0, r1, r2, r3, r4, r5, r6, zH (upz s7 21 ((8 * c) + (2 * (s7 16 jt.toNat))).toNat x) zL7 0, r8, r9])) rfl ?_
            refine zB.opi oX12_load rfl (zi_add ((8 * c) + (2 * ((upz s7 21 ((8 * c) + (2 * (s7 16 jt.toNat))).toNat x) 16 jt.toNat))) 1) ?_
            refine xB.run oX12_load 1 (s := (103, [some (.ref 7168), some (.int (zI c)), some (.int (zI jt)), some (.int (zI x)), some (.int (zI y))], [.int (zI y), .int (zI (((8 * c) + (2 * ((upz s7 21 ((8 * c) + (2 * (s7 16 jt.toNat))).toNat x) 16 jt.toNat))) + 1)), .ref 7189], [r0, r1, r2, r3, r4, r5, r6, zH (upz s7 21 ((8 * c) + (2 * (s7 16 jt.toNat))).toNat x) zL7 0, r8, r9])) rfl ?_
            obtain ⟨g14, H⟩ := zgd H
            refine zB.iast oX12_load (g := 7) (p := 21) (N := 48) (i := ((8 * c) + (2 * ((upz s7 21 ((8 * c) + (2 * (s7 16 jt.toNat))).toNat x) 16 jt.toNat))) + 1) (hp1 := [r0, r1, r2, r3, r4, r5, r6, zH (upz (upz s7 21 ((8 * c) + (2 * (s7 16 jt.toNat))).toNat x) 21 (((8 * c) + (2 * ((upz s7 21 ((8 * c) + (2 * (s7 16 jt.toNat))).toNat x) 16 jt.toNat))) + 1).toNat y) zL7 0, r8, r9]) rfl rfl (by decide) (by decide) rfl rfl (by decide) g14 rfl ?_
            refine xB.run oX12_load 1 (s := (105, [some (.ref 7168), some (.int (zI c)), some (.int (zI jt)), some (.int (zI x)), some (.int (zI y))], [.int (zI 1)], [r0, r1, r2, r3, r4, r5, r6, zH (upz (upz s7 21 ((8 * c) + (2 * (s7 16 jt.toNat))).toNat x) 21 (((8 * c) + (2 * ((upz s7 21 ((8 * c) + (2 * (s7 16 jt.toNat))).toNat x) 16 jt.toNat))) + 1).toNat y) zL7 0, r8, r9])) rfl ?_
            obtain rfl := Option.some.inj H
            exact xB.ret oX12_load (r1 := some (.int (zI 1))) rfl rfl rfl
          · have H := H.2 h13
            refine xB.run oX12_load 1 (s := (62, [some (.ref 7168), some (.int (zI c)), some (.int (zI jt)), some (.int (zI x)), some (.int (zI y))], [.int (zI (-3))], [r0, r1, r2, r3, r4, r5, r6, zH s7 zL7 0, r8, r9])) rfl ?_
            obtain rfl := Option.some.inj H
            exact xB.ret oX12_load (r1 := some (.int (zI (-3)))) rfl rfl rfl
        · have H := H.2 h12
          refine xB.run oX12_load 1 (s := (48, [some (.ref 7168), some (.int (zI c)), some (.int (zI jt)), some (.int (zI x)), some (.int (zI y))], [.int (zI (-2))], [r0, r1, r2, r3, r4, r5, r6, zH s7 zL7 0, r8, r9])) rfl ?_
          obtain rfl := Option.some.inj H
          exact xB.ret oX12_load (r1 := some (.int (zI (-2)))) rfl rfl rfl
    · have H := H.2 h6
      refine xB.run oX12_load 1 (s := (16, [some (.ref 7168), some (.int (zI c)), some (.int (zI jt)), some (.int (zI x)), some (.int (zI y))], [.int (zI (-1))], [r0, r1, r2, r3, r4, r5, r6, zH s7 zL7 0, r8, r9])) rfl ?_
      obtain rfl := Option.some.inj H
      exact xB.ret oX12_load (r1 := some (.int (zI (-1)))) rfl rfl rfl
def d_X12_divideRow_5 (s7 : zZ) (row : Int) (cols : Int) : Nat → Int → Int → Option (Int × Int)
  | 0, _, _ => none
  | uN + 1, by_, c => if (zr c ∧ zr cols) then (if cols ≤ c then some (by_, c) else (if (0 ≤ ((20 * row) + c) ∧ ((20 * row) + c) < 320) then ((d_X12_common by_ (s7 22 ((20 * row) + c).toNat)).bind fun y2 => d_X12_divideRow_5 s7 row cols uN y2 (c + 1)) else none)) else none
def d_X12_divideRow_37 (row : Int) (cols : Int) (by_ : Int) : Nat → Int → zZ → Option (Int × zZ)
  | 0, _, _ => none
  | uN + 1, c, s7 => if (zr c ∧ zr cols) then (if cols ≤ c then some (c, s7) else (if (zrl by_) then (if by_ ≤ 1 then some (c, s7) else (if (0 ≤ ((20 * row) + c) ∧ ((20 * row) + c) < 320) then (if (zrl (s7 22 ((20 * row) + c).toNat) ∧ by_ ≠ 0 ∧ zrl by_) then (if (0 ≤ ((20 * row) + c) ∧ ((20 * row) + c) < 320) then (d_X12_divideRow_37 row cols by_ uN (c + 1) (upz s7 22 ((20 * row) + c).toNat ((s7 22 ((20 * row) + c).toNat).tdiv by_))) else none) else none) else none)) else none)) else none
def d_X12_divideRow (s7 : zZ) (row : Int) (cols : Int) : Option (zZ) := (d_X12_divideRow_5 s7 row cols zF 0 0).bind fun y6 => (d_X12_divideRow_37 row cols y6.1 zF 0 s7).bind fun y15 => some y15.2
set_option maxRecDepth 20000 in
theorem l_X12_divideRow_5 (r0 : List va_E) (r1 : List va_E) (r2 : List va_E) (r3 : List va_E) (r4 : List va_E) (r5 : List va_E) (r6 : List va_E) (s7 : zZ) (r8 : List va_E) (r9 : List va_E) (row : Int) (cols : Int) {r : Option Value} {hp1 : xH} : ∀ (uN : Nat) (by_ : Int) (c : Int) {uX : Int × Int}, d_X12_divideRow_5 s7 row cols uN by_ c = some uX → (xBody MX12_divideRow 2 34 [some (.ref 7168), some (.int (zI row)), some (.int (zI cols)), some (.long (zJ uX.1)), none, some (.int (zI uX.2))] [] ([r0, r1, r2, r3, r4, r5, r6, zH s7 zL7 0, r8, r9]) r hp1) → xBody MX12_divideRow 2 5 [some (.ref 7168), some (.int (zI row)), some (.int (zI cols)), some (.long (zJ by_)), none, some (.int (zI c))] [] ([r0, r1, r2, r3, r4, r5, r6, zH s7 zL7 0, r8, r9]) r hp1 := by
  intro uN
  induction uN with
  | zero => intro by_ c uX H K; cases H
  | succ uN ih =>
    intro by_ c uX H K
    unfold d_X12_divideRow_5 at H
    refine xB.run oX12_divideRow 2 (s := (8, [some (.ref 7168), some (.int (zI row)), some (.int (zI cols)), some (.long (zJ by_)), none, some (.int (zI c))], [.int (zI cols), .int (zI c)], [r0, r1, r2, r3, r4, r5, r6, zH s7 zL7 0, r8, r9])) rfl ?_
    obtain ⟨g5, H⟩ := zgd H
    have H := zif H
    refine xB.brE oX12_divideRow (P := cols ≤ c) rfl (zc_ge (a := c) (b := cols) g5) (fun h1 => ?_) (fun h1 => ?_)
    · have H := H.1 h1
      obtain rfl := Option.some.inj H
      exact K
    · have H := H.2 h1
      refine xB.run oX12_divideRow 5 (s := (19, [some (.ref 7168), some (.int (zI row)), some (.int (zI cols)), some (.long (zJ by_)), none, some (.int (zI c))], [.int (zI row), .int (zI 20), .ref 7190, .long (zJ by_)], [r0, r1, r2, r3, r4, r5, r6, zH s7 zL7 0, r8, r9])) rfl ?_
      refine zB.opi oX12_divideRow rfl (zi_mul 20 row) ?_
      refine xB.run oX12_divideRow 1 (s := (22, [some (.ref 7168), some (.int (zI row)), some (.int (zI cols)), some (.long (zJ by_)), none, some (.int (zI c))], [.int (zI c), .int (zI (20 * row)), .ref 7190, .long (zJ by_)], [r0, r1, r2, r3, r4, r5, r6, zH s7 zL7 0, r8, r9])) rfl ?_
      refine zB.opi oX12_divideRow rfl (zi_add (20 * row) c) ?_
      obtain ⟨g4, H⟩ := zgd H
      refine zB.lald oX12_divideRow (g := 7) (p := 22) (N := 320) (i := (20 * row) + c) rfl rfl (by decide) rfl rfl (by decide) g4 ?_
      obtain ⟨y2, e3, H⟩ := zbd H
      refine xB.call oX12_divideRow (M2 := MX12_common) rfl rfl ((t_X12_common r0 r1 r2 r3 r4 r5 r6 (zH s7 zL7 0) r8 r9 by_ (s7 22 ((20 * row) + c).toNat) e3).deep (by decide : 1 ≤ 1)) ?_
      show xBody MX12_divideRow 2 27 [some (.ref 7168), some (.int (zI row)), some (.int (zI cols)), some (.long (zJ by_)), none, some (.int (zI c))] [.long (zJ y2)] ([r0, r1, r2, r3, r4, r5, r6, zH s7 zL7 0, r8, r9]) _ _
      refine xB.run oX12_divideRow 1 (s := (28, [some (.ref 7168), some (.int (zI row)), some (.int (zI cols)), some (.long (zJ y2)), none, some (.int (zI c))], [], [r0, r1, r2, r3, r4, r5, r6, zH s7 zL7 0, r8, r9])) rfl ?_
      refine zB.inc oX12_divideRow rfl (lv2 := [some (.ref 7168), some (.int (zI row)), some (.int (zI cols)), some (.long (zJ y2)), none, some (.int (zI (c + 1)))]) (zi_inc (a := 0) (zi_addp1 c) _ rfl) ?_
      refine xB.run oX12_divideRow 1 (s := (5, [some (.ref 7168), some (.int (zI row)), some (.int (zI cols)), some (.long (zJ y2)), none, some (.int (zI (c + 1)))], [], [r0, r1, r2, r3, r4, r5, r6, zH s7 zL7 0, r8, r9])) rfl ?_
      exact ih y2 (c + 1) H K
set_option maxRecDepth 20000 in
theorem l_X12_divideRow_37 (r0 : List va_E) (r1 : List va_E) (r2 : List va_E) (r3 : List va_E) (r4 : List va_E) (r5 : List va_E) (r6 : List va_E) (r8 : List va_E) (r9 : List va_E) (row : Int) (cols : Int) (by_ : Int) {r : Option Value} {hp1 : xH} : ∀ (uN : Nat) (c : Int) (s7 : zZ) {uX : Int × zZ}, d_X12_divideRow_37 row cols by_ uN c s7 = some uX → (xBody MX12_divideRow 2 71 [some (.ref 7168), some (.int (zI row)), some (.int (zI cols)), some (.long (zJ by_)), none, some (.int (zI uX.1))] [] ([r0, r1, r2, r3, r4, r5, r6, zH uX.2 zL7 0, r8, r9]) r hp1) → xBody MX12_divideRow 2 37 [some (.ref 7168), some (.int (zI row)), some (.int (zI cols)), some (.long (zJ by_)), none, some (.int (zI c))] [] ([r0, r1, r2, r3, r4, r5, r6, zH s7 zL7 0, r8, r9]) r hp1 := by
  intro uN
  induction uN with
  | zero => intro c s7 uX H K; cases H
  | succ uN ih =>
    intro c s7 uX H K
    unfold d_X12_divideRow_37 at H
    refine xB.run oX12_divideRow 2 (s := (40, [some (.ref 7168), some (.int (zI row)), some (.int (zI cols)), some (.long (zJ by_)), none, some (.int (zI c))], [.int (zI cols), .int (zI c)], [r0, r1, r2, r3, r4, r5, r6, zH s7 zL7 0, r8, r9])) rfl ?_
    obtain ⟨g14, H⟩ := zgd H
    have H := zif H
    refine xB.brE oX12_divideRow (P := cols ≤ c) rfl (zc_ge (a := c) (b := cols) g14) (fun h8 => ?_) (fun h8 => ?_)
    · have H := H.1 h8
      obtain rfl := Option.some.inj H
      exact K
    · have H := H.2 h8
      refine xB.run oX12_divideRow 3 (s := (46, [some (.ref 7168), some (.int (zI row)), some (.int (zI cols)), some (.long (zJ by_)), none, some (.int (zI c))], [.int (lg_cmp (zJ by_) (zJ 1))], [r0, r1, r2, r3, r4, r5, r6, zH s7 zL7 0, r8, r9])) rfl ?_
      obtain ⟨g13, H⟩ := zgd H
      have H := zif H
      refine xB.brE oX12_divideRow (P := by_ ≤ 1) rfl (zl_le (a := by_) (b := 1) ⟨g13, by decide⟩) (fun h9 => ?_) (fun h9 => ?_)
      · have H := H.1 h9
        obtain rfl := Option.some.inj H
        exact K
      · have H := H.2 h9
        refine xB.run oX12_divideRow 4 (s := (56, [some (.ref 7168), some (.int (zI row)), some (.int (zI cols)), some (.long (zJ by_)), none, some (.int (zI c))], [.int (zI row), .int (zI 20), .ref 7190], [r0, r1, r2, r3, r4, r5, r6, zH s7 zL7 0, r8, r9])) rfl ?_
        refine zB.opi oX12_divideRow rfl (zi_mul 20 row) ?_
        refine xB.run oX12_divideRow 1 (s := (59, [some (.ref 7168), some (.int (zI row)), some (.int (zI cols)), some (.long (zJ by_)), none, some (.int (zI c))], [.int (zI c), .int (zI (20 * row)), .ref 7190], [r0, r1, r2, r3, r4, r5, r6, zH s7 zL7 0, r8, r9])) rfl ?_
        refine zB.opi oX12_divideRow rfl (zi_add (20 * row) c) ?_
        refine xB.run oX12_divideRow 1 (s := (61, [some (.ref 7168), some (.int (zI row)), some (.int (zI cols)), some (.long (zJ by_)), none, some (.int (zI c))], [.int (zI ((20 * row) + c)), .ref 7190, .int (zI ((20 * row) + c)), .ref 7190], [r0, r1, r2, r3, r4, r5, r6, zH s7 zL7 0, r8, r9])) rfl ?_
        obtain ⟨g12, H⟩ := zgd H
        refine zB.lald oX12_divideRow (g := 7) (p := 22) (N := 320) (i := (20 * row) + c) rfl rfl (by decide) rfl rfl (by decide) g12 ?_
        refine xB.run oX12_divideRow 1 (s := (63, [some (.ref 7168), some (.int (zI row)), some (.int (zI cols)), some (.long (zJ by_)), none, some (.int (zI c))], [.long (zJ by_), .long (zJ (s7 22 ((20 * row) + c).toNat)), .int (zI ((20 * row) + c)), .ref 7190], [r0, r1, r2, r3, r4, r5, r6, zH s7 zL7 0, r8, r9])) rfl ?_
        obtain ⟨g11, H⟩ := zgd H
        refine zB.divl oX12_divideRow (b := by_) rfl (zj_div ⟨g11.1, g11.2.2⟩) rfl g11.2 ?_
        obtain ⟨g10, H⟩ := zgd H
        refine zB.last oX12_divideRow (g := 7) (p := 22) (N := 320) (i := (20 * row) + c) (hp1 := [r0, r1, r2, r3, r4, r5, r6, zH (upz s7 22 ((20 * row) + c).toNat ((s7 22 ((20 * row) + c).toNat).tdiv by_)) zL7 0, r8, r9]) rfl rfl (by decide) (by decide) rfl rfl (by decide) g10 rfl ?_
        refine zB.inc oX12_divideRow rfl (lv2 := [some (.ref 7168), some (.int (zI row)), some (.int (zI cols)), some (.long (zJ by_)), none, some (.int (zI (c + 1)))]) (zi_inc (a := 0) (zi_addp1 c) _ rfl) ?_
        refine xB.run oX12_divideRow 1 (s := (37, [some (.ref 7168), some (.int (zI row)), some (.int (zI cols)), some (.long (zJ by_)), none, some (.int (zI (c + 1)))], [], [r0, r1, r2, r3, r4, r5, r6, zH (upz s7 22 ((20 * row) + c).toNat ((s7 22 ((20 * row) + c).toNat).tdiv by_)) zL7 0, r8, r9])) rfl ?_
        exact ih (c + 1) (upz s7 22 ((20 * row) + c).toNat ((s7 22 ((20 * row) + c).toNat).tdiv by_)) H K
set_option maxRecDepth 20000 in
theorem t_X12_divideRow (r0 : List va_E) (r1 : List va_E) (r2 : List va_E) (r3 : List va_E) (r4 : List va_E) (r5 : List va_E) (r6 : List va_E) (s7 : zZ) (r8 : List va_E) (r9 : List va_E) (row : Int) (cols : Int) {rr : zZ} (H : d_X12_divideRow s7 row cols = some rr) : xC MX12_divideRow 2 [.ref 7168, .int (zI row), .int (zI cols)] ([r0, r1, r2, r3, r4, r5, r6, zH s7 zL7 0, r8, r9]) (none) ([r0, r1, r2, r3, r4, r5, r6, zH rr zL7 0, r8, r9]) := by
  refine ⟨Nat.le_of_ble_eq_true rfl, ?_⟩
  show xBody MX12_divideRow 2 0 [some (.ref 7168), some (.int (zI row)), some (.int (zI cols)), none, none, none] [] ([r0, r1, r2, r3, r4, r5, r6, zH s7 zL7 0, r8, r9]) _ _
  unfold d_X12_divideRow at H
  refine xB.run oX12_divideRow 4 (s := (5, [some (.ref 7168), some (.int (zI row)), some (.int (zI cols)), some (.long (zJ 0)), none, some (.int (zI 0))], [], [r0, r1, r2, r3, r4, r5, r6, zH s7 zL7 0, r8, r9])) rfl ?_
  obtain ⟨y6, e7, H⟩ := zbd H
  refine l_X12_divideRow_5 r0 r1 r2 r3 r4 r5 r6 s7 r8 r9 row cols _ 0 0 e7 ?_
  refine xB.run oX12_divideRow 2 (s := (37, [some (.ref 7168), some (.int (zI row)), some (.int (zI cols)), some (.long (zJ y6.1)), none, some (.int (zI 0))], [], [r0, r1, r2, r3, r4, r5, r6, zH s7 zL7 0, r8, r9])) rfl ?_
  obtain ⟨y15, e16, H⟩ := zbd H
  refine l_X12_divideRow_37 r0 r1 r2 r3 r4 r5 r6 r8 r9 row cols y6.1 _ 0 s7 e16 ?_
  obtain rfl := Option.some.inj H
  exact xB.ret oX12_divideRow (r1 := none) rfl rfl rfl
def d_X12_swapRows_2 (a : Int) (b : Int) : Nat → Int → zZ → Option (Int × zZ)
  | 0, _, _ => none
  | uN + 1, c, s7 => if (zr c) then (if (20 : Int) ≤ c then some (c, s7) else (if (0 ≤ ((20 * a) + c) ∧ ((20 * a) + c) < 320) then (if (0 ≤ ((20 * b) + c) ∧ ((20 * b) + c) < 320) then (if (0 ≤ ((20 * a) + c) ∧ ((20 * a) + c) < 320) then (if (0 ≤ ((20 * b) + c) ∧ ((20 * b) + c) < 320) then (d_X12_swapRows_2 a b uN (c + 1) (upz (upz s7 22 ((20 * a) + c).toNat (s7 22 ((20 * b) + c).toNat)) 22 ((20 * b) + c).toNat (s7 22 ((20 * a) + c).toNat))) else none) else none) else none) else none)) else none
def d_X12_swapRows (s7 : zZ) (a : Int) (b : Int) : Option (zZ) := (d_X12_swapRows_2 a b zF 0 s7).bind fun y7 => some y7.2
set_option maxRecDepth 20000 in
theorem l_X12_swapRows_2 (r0 : List va_E) (r1 : List va_E) (r2 : List va_E) (r3 : List va_E) (r4 : List va_E) (r5 : List va_E) (r6 : List va_E) (r8 : List va_E) (r9 : List va_E) (a : Int) (b : Int) {r : Option Value} {hp1 : xH} : ∀ (uN : Nat) (c : Int) (s7 : zZ) {uX : Int × zZ}, d_X12_swapRows_2 a b uN c s7 = some uX → (xBody MX12_swapRows 0 62 [some (.ref 7168), some (.int (zI a)), some (.int (zI b)), some (.int (zI uX.1)), none, none] [] ([r0, r1, r2, r3, r4, r5, r6, zH uX.2 zL7 0, r8, r9]) r hp1) → xBody MX12_swapRows 0 2 [some (.ref 7168), some (.int (zI a)), some (.int (zI b)), some (.int (zI c)), none, none] [] ([r0, r1, r2, r3, r4, r5, r6, zH s7 zL7 0, r8, r9]) r hp1 := by
  intro uN
  induction uN with
  | zero => intro c s7 uX H K; cases H
  | succ uN ih =>
    intro c s7 uX H K
    unfold d_X12_swapRows_2 at H
    refine xB.run oX12_swapRows 2 (s := (5, [some (.ref 7168), some (.int (zI a)), some (.int (zI b)), some (.int (zI c)), none, none], [.int (zI 20), .int (zI c)], [r0, r1, r2, r3, r4, r5, r6, zH s7 zL7 0, r8, r9])) rfl ?_
    obtain ⟨g6, H⟩ := zgd H
    have H := zif H
    refine xB.brE oX12_swapRows (P := (20 : Int) ≤ c) rfl (zc_ge (a := c) (b := 20) ⟨g6, by decide⟩) (fun h1 => ?_) (fun h1 => ?_)
    · have H := H.1 h1
      obtain rfl := Option.some.inj H
      exact K
    · have H := H.2 h1
      refine xB.run oX12_swapRows 4 (s := (15, [some (.ref 7168), some (.int (zI a)), some (.int (zI b)), some (.int (zI c)), none, none], [.int (zI a), .int (zI 20), .ref 7190], [r0, r1, r2, r3, r4, r5, r6, zH s7 zL7 0, r8, r9])) rfl ?_
      refine zB.opi oX12_swapRows rfl (zi_mul 20 a) ?_
      refine xB.run oX12_swapRows 1 (s := (17, [some (.ref 7168), some (.int (zI a)), some (.int (zI b)), some (.int (zI c)), none, none], [.int (zI c), .int (zI (20 * a)), .ref 7190], [r0, r1, r2, r3, r4, r5, r6, zH s7 zL7 0, r8, r9])) rfl ?_
      refine zB.opi oX12_swapRows rfl (zi_add (20 * a) c) ?_
      obtain ⟨g5, H⟩ := zgd H
      refine zB.lald oX12_swapRows (g := 7) (p := 22) (N := 320) (i := (20 * a) + c) rfl rfl (by decide) rfl rfl (by decide) g5 ?_
      refine xB.run oX12_swapRows 5 (s := (28, [some (.ref 7168), some (.int (zI a)), some (.int (zI b)), some (.int (zI c)), some (.long (zJ (s7 22 ((20 * a) + c).toNat))), none], [.int (zI a), .int (zI 20), .ref 7190], [r0, r1, r2, r3, r4, r5, r6, zH s7 zL7 0, r8, r9])) rfl ?_
      refine zB.opi oX12_swapRows rfl (zi_mul 20 a) ?_
      refine xB.run oX12_swapRows 1 (s := (30, [some (.ref 7168), some (.int (zI a)), some (.int (zI b)), some (.int (zI c)), some (.long (zJ (s7 22 ((20 * a) + c).toNat))), none], [.int (zI c), .int (zI (20 * a)), .ref 7190], [r0, r1, r2, r3, r4, r5, r6, zH s7 zL7 0, r8, r9])) rfl ?_
      refine zB.opi oX12_swapRows rfl (zi_add (20 * a) c) ?_
      refine xB.run oX12_swapRows 4 (s := (38, [some (.ref 7168), some (.int (zI a)), some (.int (zI b)), some (.int (zI c)), some (.long (zJ (s7 22 ((20 * a) + c).toNat))), none], [.int (zI b), .int (zI 20), .ref 7190, .int (zI ((20 * a) + c)), .ref 7190], [r0, r1, r2, r3, r4, r5, r6, zH s7 zL7 0, r8, r9])) rfl ?_
      refine zB.opi oX12_swapRows rfl (zi_mul 20 b) ?_
      refine xB.run oX12_swapRows 1 (s := (40, [some (.ref 7168), some (.int (zI a)), some (.int (zI b)), some (.int (zI c)), some (.long (zJ (s7 22 ((20 * a) + c).toNat))), none], [.int (zI c), .int (zI (20 * b)), .ref 7190, .int (zI ((20 * a) + c)), .ref 7190], [r0, r1, r2, r3, r4, r5, r6, zH s7 zL7 0, r8, r9])) rfl ?_
      refine zB.opi oX12_swapRows rfl (zi_add (20 * b) c) ?_
      obtain ⟨g4, H⟩ := zgd H
      refine zB.lald oX12_swapRows (g := 7) (p := 22) (N := 320) (i := (20 * b) + c) rfl rfl (by decide) rfl rfl (by decide) g4 ?_
      obtain ⟨g3, H⟩ := zgd H
      refine zB.last oX12_swapRows (g := 7) (p := 22) (N := 320) (i := (20 * a) + c) (hp1 := [r0, r1, r2, r3, r4, r5, r6, zH (upz s7 22 ((20 * a) + c).toNat (s7 22 ((20 * b) + c).toNat)) zL7 0, r8, r9]) rfl rfl (by decide) (by decide) rfl rfl (by decide) g3 rfl ?_
      refine xB.run oX12_swapRows 4 (s := (50, [some (.ref 7168), some (.int (zI a)), some (.int (zI b)), some (.int (zI c)), some (.long (zJ (s7 22 ((20 * a) + c).toNat))), none], [.int (zI b), .int (zI 20), .ref 7190], [r0, r1, r2, r3, r4, r5, r6, zH (upz s7 22 ((20 * a) + c).toNat (s7 22 ((20 * b) + c).toNat)) zL7 0, r8, r9])) rfl ?_
      refine zB.opi oX12_swapRows rfl (zi_mul 20 b) ?_
      refine xB.run oX12_swapRows 1 (s := (52, [some (.ref 7168), some (.int (zI a)), some (.int (zI b)), some (.int (zI c)), some (.long (zJ (s7 22 ((20 * a) + c).toNat))), none], [.int (zI c), .int (zI (20 * b)), .ref 7190], [r0, r1, r2, r3, r4, r5, r6, zH (upz s7 22 ((20 * a) + c).toNat (s7 22 ((20 * b) + c).toNat)) zL7 0, r8, r9])) rfl ?_
      refine zB.opi oX12_swapRows rfl (zi_add (20 * b) c) ?_
      refine xB.run oX12_swapRows 1 (s := (55, [some (.ref 7168), some (.int (zI a)), some (.int (zI b)), some (.int (zI c)), some (.long (zJ (s7 22 ((20 * a) + c).toNat))), none], [.long (zJ (s7 22 ((20 * a) + c).toNat)), .int (zI ((20 * b) + c)), .ref 7190], [r0, r1, r2, r3, r4, r5, r6, zH (upz s7 22 ((20 * a) + c).toNat (s7 22 ((20 * b) + c).toNat)) zL7 0, r8, r9])) rfl ?_
      obtain ⟨g2, H⟩ := zgd H
      refine zB.last oX12_swapRows (g := 7) (p := 22) (N := 320) (i := (20 * b) + c) (hp1 := [r0, r1, r2, r3, r4, r5, r6, zH (upz (upz s7 22 ((20 * a) + c).toNat (s7 22 ((20 * b) + c).toNat)) 22 ((20 * b) + c).toNat (s7 22 ((20 * a) + c).toNat)) zL7 0, r8, r9]) rfl rfl (by decide) (by decide) rfl rfl (by decide) g2 rfl ?_
      refine zB.inc oX12_swapRows rfl (lv2 := [some (.ref 7168), some (.int (zI a)), some (.int (zI b)), some (.int (zI (c + 1))), some (.long (zJ (s7 22 ((20 * a) + c).toNat))), none]) (zi_inc (a := 0) (zi_addp1 c) _ rfl) ?_
      refine xB.run oX12_swapRows 1 (s := (2, [some (.ref 7168), some (.int (zI a)), some (.int (zI b)), some (.int (zI (c + 1))), some (.long (zJ (s7 22 ((20 * a) + c).toNat))), none], [], [r0, r1, r2, r3, r4, r5, r6, zH (upz (upz s7 22 ((20 * a) + c).toNat (s7 22 ((20 * b) + c).toNat)) 22 ((20 * b) + c).toNat (s7 22 ((20 * a) + c).toNat)) zL7 0, r8, r9])) rfl ?_
      refine xB.forget (lv1 := [some (.ref 7168), some (.int (zI a)), some (.int (zI b)), some (.int (zI (c + 1))), none, none]) (xle_same (xle_same (xle_same (xle_same (xle_none (xle_same (xle_nil))))))) ?_
      exact ih (c + 1) (upz (upz s7 22 ((20 * a) + c).toNat (s7 22 ((20 * b) + c).toNat)) 22 ((20 * b) + c).toNat (s7 22 ((20 * a) + c).toNat)) H K
set_option maxRecDepth 20000 in
theorem t_X12_swapRows (r0 : List va_E) (r1 : List va_E) (r2 : List va_E) (r3 : List va_E) (r4 : List va_E) (r5 : List va_E) (r6 : List va_E) (s7 : zZ) (r8 : List va_E) (r9 : List va_E) (a : Int) (b : Int) {rr : zZ} (H : d_X12_swapRows s7 a b = some rr) : xC MX12_swapRows 0 [.ref 7168, .int (zI a), .int (zI b)] ([r0, r1, r2, r3, r4, r5, r6, zH s7 zL7 0, r8, r9]) (none) ([r0, r1, r2, r3, r4, r5, r6, zH rr zL7 0, r8, r9]) := by
  refine ⟨Nat.le_of_ble_eq_true rfl, ?_⟩
  show xBody MX12_swapRows 0 0 [some (.ref 7168), some (.int (zI a)), some (.int (zI b)), none, none, none] [] ([r0, r1, r2, r3, r4, r5, r6, zH s7 zL7 0, r8, r9]) _ _
  unfold d_X12_swapRows at H
  refine xB.run oX12_swapRows 2 (s := (2, [some (.ref 7168), some (.int (zI a)), some (.int (zI b)), some (.int (zI 0)), none, none], [], [r0, r1, r2, r3, r4, r5, r6, zH s7 zL7 0, r8, r9])) rfl ?_
  obtain ⟨y7, e8, H⟩ := zbd H
  refine l_X12_swapRows_2 r0 r1 r2 r3 r4 r5 r6 r8 r9 a b _ 0 s7 e8 ?_
  obtain rfl := Option.some.inj H
  exact xB.ret oX12_swapRows (r1 := none) rfl rfl rfl
def d_X12_reduce_29 (s7 : zZ) (rows : Int) (cols : Int) (all : Int) (c : Int) : Nat → Int → Option (Int)
  | 0, _ => none
  | uN + 1, pv => if (zr pv ∧ zr rows) then (if rows ≤ pv then some pv else (if (0 ≤ ((20 * pv) + c) ∧ ((20 * pv) + c) < 320) then (if (zrl (s7 22 ((20 * pv) + c).toNat)) then (if (s7 22 ((20 * pv) + c).toNat) ≠ 0 then some pv else (d_X12_reduce_29 s7 rows cols all c uN (pv + 1))) else none) else none)) else none
def d_X12_reduce_141 (rows : Int) (cols : Int) (all : Int) (c : Int) (pv : Int) (row : Int) (by_ : Int) (p : Int) : Nat → Int → zZ → Option (Int × zZ)
  | 0, _, _ => none
  | uN + 1, k, s7 => if (zr k ∧ zr all) then (if all ≤ k then some (k, s7) else (if (0 ≤ ((20 * row) + k) ∧ ((20 * row) + k) < 320) then (if (0 ≤ ((20 * (s7 0 33)) + k) ∧ ((20 * (s7 0 33)) + k) < 320) then (if (0 ≤ ((20 * row) + k) ∧ ((20 * row) + k) < 320) then (d_X12_reduce_141 rows cols all c pv row by_ p uN (k + 1) (upz s7 22 ((20 * row) + k).toNat (((s7 22 ((20 * row) + k).toNat) * p) - ((s7 22 ((20 * (s7 0 33)) + k).toNat) * by_)))) else none) else none) else none)) else none
def d_X12_reduce_81 (rows : Int) (cols : Int) (all : Int) (c : Int) (pv : Int) : Nat → Int → zZ → Option (Int × zZ)
  | 0, _, _ => none
  | uN + 1, row, s7 => if (zr row ∧ zr rows) then (if rows ≤ row then some (row, s7) else (if (0 ≤ ((20 * row) + c) ∧ ((20 * row) + c) < 320) then (if (zr row ∧ zr (s7 0 33)) then (if row = (s7 0 33) then (d_X12_reduce_81 rows cols all c pv uN (row + 1) s7) else (if (zrl (s7 22 ((20 * row) + c).toNat)) then (if (s7 22 ((20 * row) + c).toNat) ≠ 0 then (if (0 ≤ ((20 * (s7 0 33)) + c) ∧ ((20 * (s7 0 33)) + c) < 320) then ((d_X12_reduce_141 rows cols all c pv row (s7 22 ((20 * row) + c).toNat) (s7 22 ((20 * (s7 0 33)) + c).toNat) zF 0 s7).bind fun y20 => (d_X12_divideRow y20.2 row all).bind fun y22 => d_X12_reduce_81 rows cols all c pv uN (row + 1) y22) else none) else (d_X12_reduce_81 rows cols all c pv uN (row + 1) s7)) else none)) else none) else none)) else none
def d_X12_reduce_8 (rows : Int) (cols : Int) (all : Int) : Nat → Int → zZ → Option (Int × zZ)
  | 0, _, _ => none
  | uN + 1, c, s7 => if (zr c ∧ zr cols) then (if cols ≤ c then some (c, s7) else (if (0 ≤ c ∧ c < 20) then ((d_X12_reduce_29 (upz s7 23 c.toNat (-9)) rows cols all c zF ((upz s7 23 c.toNat (-9)) 0 33)).bind fun y7 => if (zr y7 ∧ zr rows) then (if y7 ≠ rows then ((d_X12_swapRows (upz s7 23 c.toNat (-9)) y7 ((upz s7 23 c.toNat (-9)) 0 33)).bind fun y10 => (d_X12_reduce_81 rows cols all c y7 zF 0 y10).bind fun y29 => if (0 ≤ c ∧ c < 20) then (d_X12_reduce_8 rows cols all uN (c + 1) (upz (upz y29.2 23 c.toNat (y29.2 0 33)) 0 33 (((upz y29.2 23 c.toNat (y29.2 0 33)) 0 33) + 1))) else none) else (d_X12_reduce_8 rows cols all uN (c + 1) (upz s7 23 c.toNat (-9)))) else none) else none)) else none
def d_X12_reduce (s7 : zZ) (rows : Int) (cols : Int) (all : Int) : Option (zZ) := (d_X12_reduce_8 rows cols all zF 0 (upz s7 0 33 0)).bind fun y35 => some y35.2
set_option maxRecDepth 20000 in
theorem l_X12_reduce_29 (r0 : List va_E) (r1 : List va_E) (r2 : List va_E) (r3 : List va_E) (r4 : List va_E) (r5 : List va_E) (r6 : List va_E) (s7 : zZ) (r8 : List va_E) (r9 : List va_E) (rows : Int) (cols : Int) (all : Int) (c : Int) {r : Option Value} {hp1 : xH} : ∀ (uN : Nat) (pv : Int) {uX : Int}, d_X12_reduce_29 s7 rows cols all c uN pv = some uX → (xBody MX12_reduce 3 59 [some (.ref 7168), some (.int (zI rows)), some (.int (zI cols)), some (.int (zI all)), some (.int (zI c)), some (.int (zI uX)), none, none, none, none, none, none] [] ([r0, r1, r2, r3, r4, r5, r6, zH s7 zL7 0, r8, r9]) r hp1) → xBody MX12_reduce 3 29 [some (.ref 7168), some (.int (zI rows)), some (.int (zI cols)), some (.int (zI all)), some (.int (zI c)), some (.int (zI pv)), none, none, none, none, none, none] [] ([r0, r1, r2, r3, r4, r5, r6, zH s7 zL7 0, r8, r9]) r hp1 := by
  intro uN
  induction uN with
  | zero => intro pv uX H K; cases H
  | succ uN ih =>
    intro pv uX H K
    unfold d_X12_reduce_29 at H
    refine xB.run oX12_reduce 2 (s := (32, [some (.ref 7168), some (.int (zI rows)), some (.int (zI cols)), some (.int (zI all)), some (.int (zI c)), some (.int (zI pv)), none, none, none, none, none, none], [.int (zI rows), .int (zI pv)], [r0, r1, r2, r3, r4, r5, r6, zH s7 zL7 0, r8, r9])) rfl ?_
    obtain ⟨g6, H⟩ := zgd H
    have H := zif H
    refine xB.brE oX12_reduce (P := rows ≤ pv) rfl (zc_ge (a := pv) (b := rows) g6) (fun h2 => ?_) (fun h2 => ?_)
    · have H := H.1 h2
      obtain rfl := Option.some.inj H
      exact K
    · have H := H.2 h2
      refine xB.run oX12_reduce 4 (s := (43, [some (.ref 7168), some (.int (zI rows)), some (.int (zI cols)), some (.int (zI all)), some (.int (zI c)), some (.int (zI pv)), none, none, none, none, none, none], [.int (zI pv), .int (zI 20), .ref 7190], [r0, r1, r2, r3, r4, r5, r6, zH s7 zL7 0, r8, r9])) rfl ?_
      refine zB.opi oX12_reduce rfl (zi_mul 20 pv) ?_
      refine xB.run oX12_reduce 1 (s := (46, [some (.ref 7168), some (.int (zI rows)), some (.int (zI cols)), some (.int (zI all)), some (.int (zI c)), some (.int (zI pv)), none, none, none, none, none, none], [.int (zI c), .int (zI (20 * pv)), .ref 7190], [r0, r1, r2, r3, r4, r5, r6, zH s7 zL7 0, r8, r9])) rfl ?_
      refine zB.opi oX12_reduce rfl (zi_add (20 * pv) c) ?_
      obtain ⟨g5, H⟩ := zgd H
      refine zB.lald oX12_reduce (g := 7) (p := 22) (N := 320) (i := (20 * pv) + c) rfl rfl (by decide) rfl rfl (by decide) g5 ?_
      refine xB.run oX12_reduce 2 (s := (50, [some (.ref 7168), some (.int (zI rows)), some (.int (zI cols)), some (.int (zI all)), some (.int (zI c)), some (.int (zI pv)), none, none, none, none, none, none], [.int (lg_cmp (zJ (s7 22 ((20 * pv) + c).toNat)) (zJ 0))], [r0, r1, r2, r3, r4, r5, r6, zH s7 zL7 0, r8, r9])) rfl ?_
      obtain ⟨g4, H⟩ := zgd H
      have H := zif H
      refine xB.brE oX12_reduce (P := (s7 22 ((20 * pv) + c).toNat) ≠ 0) rfl (zl_ne (a := s7 22 ((20 * pv) + c).toNat) (b := 0) ⟨g4, by decide⟩) (fun h3 => ?_) (fun h3 => ?_)
      · have H := H.1 h3
        obtain rfl := Option.some.inj H
        exact K
      · have H := H.2 h3
        refine zB.inc oX12_reduce rfl (lv2 := [some (.ref 7168), some (.int (zI rows)), some (.int (zI cols)), some (.int (zI all)), some (.int (zI c)), some (.int (zI (pv + 1))), none, none, none, none, none, none]) (zi_inc (a := 0) (zi_addp1 pv) _ rfl) ?_
        refine xB.run oX12_reduce 1 (s := (29, [some (.ref 7168), some (.int (zI rows)), some (.int (zI cols)), some (.int (zI all)), some (.int (zI c)), some (.int (zI (pv + 1))), none, none, none, none, none, none], [], [r0, r1, r2, r3, r4, r5, r6, zH s7 zL7 0, r8, r9])) rfl ?_
        exact ih (pv + 1) H K
set_option maxRecDepth 20000 in
theorem l_X12_reduce_141 (r0 : List va_E) (r1 : List va_E) (r2 : List va_E) (r3 : List va_E) (r4 : List va_E) (r5 : List va_E) (r6 : List va_E) (r8 : List va_E) (r9 : List va_E) (rows : Int) (cols : Int) (all : Int) (c : Int) (pv : Int) (row : Int) (by_ : Int) (p : Int) {r : Option Value} {hp1 : xH} : ∀ (uN : Nat) (k : Int) (s7 : zZ) {uX : Int × zZ}, d_X12_reduce_141 rows cols all c pv row by_ p uN k s7 = some uX → (xBody MX12_reduce 3 201 [some (.ref 7168), some (.int (zI rows)), some (.int (zI cols)), some (.int (zI all)), some (.int (zI c)), some (.int (zI pv)), some (.int (zI row)), some (.long (zJ by_)), none, some (.long (zJ p)), none, some (.int (zI uX.1))] [] ([r0, r1, r2, r3, r4, r5, r6, zH uX.2 zL7 0, r8, r9]) r hp1) → xBody MX12_reduce 3 141 [some (.ref 7168), some (.int (zI rows)), some (.int (zI cols)), some (.int (zI all)), some (.int (zI c)), some (.int (zI pv)), some (.int (zI row)), some (.long (zJ by_)), none, some (.long (zJ p)), none, some (.int (zI k))] [] ([r0, r1, r2, r3, r4, r5, r6, zH s7 zL7 0, r8, r9]) r hp1 := by
  intro uN
  induction uN with
  | zero => intro k s7 uX H K; cases H
  | succ uN ih =>
    intro k s7 uX H K
    unfold d_X12_reduce_141 at H
    refine xB.run oX12_reduce 2 (s := (144, [some (.ref 7168), some (.int (zI rows)), some (.int (zI cols)), some (.int (zI all)), some (.int (zI c)), some (.int (zI pv)), some (.int (zI row)), some (.long (zJ by_)), none, some (.long (zJ p)), none, some (.int (zI k))], [.int (zI all), .int (zI k)], [r0, r1, r2, r3, r4, r5, r6, zH s7 zL7 0, r8, r9])) rfl ?_
    obtain ⟨g19, H⟩ := zgd H
    have H := zif H
    refine xB.brE oX12_reduce (P := all ≤ k) rfl (zc_ge (a := k) (b := all) g19) (fun h15 => ?_) (fun h15 => ?_)
    · have H := H.1 h15
      obtain rfl := Option.some.inj H
      exact K
    · have H := H.2 h15
      refine xB.run oX12_reduce 4 (s := (155, [some (.ref 7168), some (.int (zI rows)), some (.int (zI cols)), some (.int (zI all)), some (.int (zI c)), some (.int (zI pv)), some (.int (zI row)), some (.long (zJ by_)), none, some (.long (zJ p)), none, some (.int (zI k))], [.int (zI row), .int (zI 20), .ref 7190], [r0, r1, r2, r3, r4, r5, r6, zH s7 zL7 0, r8, r9])) rfl ?_
      refine zB.opi oX12_reduce rfl (zi_mul 20 row) ?_
      refine xB.run oX12_reduce 1 (s := (158, [some (.ref 7168), some (.int (zI rows)), some (.int (zI cols)), some (.int (zI all)), some (.int (zI c)), some (.int (zI pv)), some (.int (zI row)), some (.long (zJ by_)), none, some (.long (zJ p)), none, some (.int (zI k))], [.int (zI k), .int (zI (20 * row)), .ref 7190], [r0, r1, r2, r3, r4, r5, r6, zH s7 zL7 0, r8, r9])) rfl ?_
      refine zB.opi oX12_reduce rfl (zi_add (20 * row) k) ?_
      refine xB.run oX12_reduce 4 (s := (167, [some (.ref 7168), some (.int (zI rows)), some (.int (zI cols)), some (.int (zI all)), some (.int (zI c)), some (.int (zI pv)), some (.int (zI row)), some (.long (zJ by_)), none, some (.long (zJ p)), none, some (.int (zI k))], [.int (zI row), .int (zI 20), .ref 7190, .int (zI ((20 * row) + k)), .ref 7190], [r0, r1, r2, r3, r4, r5, r6, zH s7 zL7 0, r8, r9])) rfl ?_
      refine zB.opi oX12_reduce rfl (zi_mul 20 row) ?_
      refine xB.run oX12_reduce 1 (s := (170, [some (.ref 7168), some (.int (zI rows)), some (.int (zI cols)), some (.int (zI all)), some (.int (zI c)), some (.int (zI pv)), some (.int (zI row)), some (.long (zJ by_)), none, some (.long (zJ p)), none, some (.int (zI k))], [.int (zI k), .int (zI (20 * row)), .ref 7190, .int (zI ((20 * row) + k)), .ref 7190], [r0, r1, r2, r3, r4, r5, r6, zH s7 zL7 0, r8, r9])) rfl ?_
      refine zB.opi oX12_reduce rfl (zi_add (20 * row) k) ?_
      obtain ⟨g18, H⟩ := zgd H
      refine zB.lald oX12_reduce (g := 7) (p := 22) (N := 320) (i := (20 * row) + k) rfl rfl (by decide) rfl rfl (by decide) g18 ?_
      refine xB.run oX12_reduce 1 (s := (174, [some (.ref 7168), some (.int (zI rows)), some (.int (zI cols)), some (.int (zI all)), some (.int (zI c)), some (.int (zI pv)), some (.int (zI row)), some (.long (zJ by_)), none, some (.long (zJ p)), none, some (.int (zI k))], [.long (zJ p), .long (zJ (s7 22 ((20 * row) + k).toNat)), .int (zI ((20 * row) + k)), .ref 7190], [r0, r1, r2, r3, r4, r5, r6, zH s7 zL7 0, r8, r9])) rfl ?_
      refine zB.opl oX12_reduce rfl (zj_mul (s7 22 ((20 * row) + k).toNat) p) ?_
      refine xB.run oX12_reduce 5 (s := (185, [some (.ref 7168), some (.int (zI rows)), some (.int (zI cols)), some (.int (zI all)), some (.int (zI c)), some (.int (zI pv)), some (.int (zI row)), some (.long (zJ by_)), none, some (.long (zJ p)), none, some (.int (zI k))], [.int (zI (s7 0 33)), .int (zI 20), .ref 7190, .long (zJ ((s7 22 ((20 * row) + k).toNat) * p)), .int (zI ((20 * row) + k)), .ref 7190], [r0, r1, r2, r3, r4, r5, r6, zH s7 zL7 0, r8, r9])) rfl ?_
      refine zB.opi oX12_reduce rfl (zi_mul 20 (s7 0 33)) ?_
      refine xB.run oX12_reduce 1 (s := (188, [some (.ref 7168), some (.int (zI rows)), some (.int (zI cols)), some (.int (zI all)), some (.int (zI c)), some (.int (zI pv)), some (.int (zI row)), some (.long (zJ by_)), none, some (.long (zJ p)), none, some (.int (zI k))], [.int (zI k), .int (zI (20 * (s7 0 33))), .ref 7190, .long (zJ ((s7 22 ((20 * row) + k).toNat) * p)), .int (zI ((20 * row) + k)), .ref 7190], [r0, r1, r2, r3, r4, r5, r6, zH s7 zL7 0, r8, r9])) rfl ?_
      refine zB.opi oX12_reduce rfl (zi_add (20 * (s7 0 33)) k) ?_
      obtain ⟨g17, H⟩ := zgd H
      refine zB.lald oX12_reduce (g := 7) (p := 22) (N := 320) (i := (20 * (s7 0 33)) + k) rfl rfl (by decide) rfl rfl (by decide) g17 ?_
      refine xB.run oX12_reduce 1 (s := (192, [some (.ref 7168), some (.int (zI rows)), some (.int (zI cols)), some (.int (zI all)), some (.int (zI c)), some (.int (zI pv)), some (.int (zI row)), some (.long (zJ by_)), none, some (.long (zJ p)), none, some (.int (zI k))], [.long (zJ by_), .long (zJ (s7 22 ((20 * (s7 0 33)) + k).toNat)), .long (zJ ((s7 22 ((20 * row) + k).toNat) * p)), .int (zI ((20 * row) + k)), .ref 7190], [r0, r1, r2, r3, r4, r5, r6, zH s7 zL7 0, r8, r9])) rfl ?_
      refine zB.opl oX12_reduce rfl (zj_mul (s7 22 ((20 * (s7 0 33)) + k).toNat) by_) ?_
      refine zB.opl oX12_reduce rfl (zj_sub ((s7 22 ((20 * row) + k).toNat) * p) ((s7 22 ((20 * (s7 0 33)) + k).toNat) * by_)) ?_
      obtain ⟨g16, H⟩ := zgd H
      refine zB.last oX12_reduce (g := 7) (p := 22) (N := 320) (i := (20 * row) + k) (hp1 := [r0, r1, r2, r3, r4, r5, r6, zH (upz s7 22 ((20 * row) + k).toNat (((s7 22 ((20 * row) + k).toNat) * p) - ((s7 22 ((20 * (s7 0 33)) + k).toNat) * by_))) zL7 0, r8, r9]) rfl rfl (by decide) (by decide) rfl rfl (by decide) g16 rfl ?_
      refine zB.inc oX12_reduce rfl (lv2 := [some (.ref 7168), some (.int (zI rows)), some (.int (zI cols)), some (.int (zI all)), some (.int (zI c)), some (.int (zI pv)), some (.int (zI row)), some (.long (zJ by_)), none, some (.long (zJ p)), none, some (.int (zI (k + 1)))]) (zi_inc (a := 0) (zi_addp1 k) _ rfl) ?_
      refine xB.run oX12_reduce 1 (s := (141, [some (.ref 7168), some (.int (zI rows)), some (.int (zI cols)), some (.int (zI all)), some (.int (zI c)), some (.int (zI pv)), some (.int (zI row)), some (.long (zJ by_)), none, some (.long (zJ p)), none, some (.int (zI (k + 1)))], [], [r0, r1, r2, r3, r4, r5, r6, zH (upz s7 22 ((20 * row) + k).toNat (((s7 22 ((20 * row) + k).toNat) * p) - ((s7 22 ((20 * (s7 0 33)) + k).toNat) * by_))) zL7 0, r8, r9])) rfl ?_
      exact ih (k + 1) (upz s7 22 ((20 * row) + k).toNat (((s7 22 ((20 * row) + k).toNat) * p) - ((s7 22 ((20 * (s7 0 33)) + k).toNat) * by_))) H K
set_option maxRecDepth 20000 in
theorem l_X12_reduce_81 (r0 : List va_E) (r1 : List va_E) (r2 : List va_E) (r3 : List va_E) (r4 : List va_E) (r5 : List va_E) (r6 : List va_E) (r8 : List va_E) (r9 : List va_E) (rows : Int) (cols : Int) (all : Int) (c : Int) (pv : Int) {r : Option Value} {hp1 : xH} : ∀ (uN : Nat) (row : Int) (s7 : zZ) {uX : Int × zZ}, d_X12_reduce_81 rows cols all c pv uN row s7 = some uX → (xBody MX12_reduce 3 214 [some (.ref 7168), some (.int (zI rows)), some (.int (zI cols)), some (.int (zI all)), some (.int (zI c)), some (.int (zI pv)), some (.int (zI uX.1)), none, none, none, none, none] [] ([r0, r1, r2, r3, r4, r5, r6, zH uX.2 zL7 0, r8, r9]) r hp1) → xBody MX12_reduce 3 81 [some (.ref 7168), some (.int (zI rows)), some (.int (zI cols)), some (.int (zI all)), some (.int (zI c)), some (.int (zI pv)), some (.int (zI row)), none, none, none, none, none] [] ([r0, r1, r2, r3, r4, r5, r6, zH s7 zL7 0, r8, r9]) r hp1 := by
  intro uN
  induction uN with
  | zero => intro row s7 uX H K; cases H
  | succ uN ih =>
    intro row s7 uX H K
    unfold d_X12_reduce_81 at H
    refine xB.run oX12_reduce 2 (s := (84, [some (.ref 7168), some (.int (zI rows)), some (.int (zI cols)), some (.int (zI all)), some (.int (zI c)), some (.int (zI pv)), some (.int (zI row)), none, none, none, none, none], [.int (zI rows), .int (zI row)], [r0, r1, r2, r3, r4, r5, r6, zH s7 zL7 0, r8, r9])) rfl ?_
    obtain ⟨g28, H⟩ := zgd H
    have H := zif H
    refine xB.brE oX12_reduce (P := rows ≤ row) rfl (zc_ge (a := row) (b := rows) g28) (fun h12 => ?_) (fun h12 => ?_)
    · have H := H.1 h12
      obtain rfl := Option.some.inj H
      exact K
    · have H := H.2 h12
      refine xB.run oX12_reduce 4 (s := (95, [some (.ref 7168), some (.int (zI rows)), some (.int (zI cols)), some (.int (zI all)), some (.int (zI c)), some (.int (zI pv)), some (.int (zI row)), none, none, none, none, none], [.int (zI row), .int (zI 20), .ref 7190], [r0, r1, r2, r3, r4, r5, r6, zH s7 zL7 0, r8, r9])) rfl ?_
      refine zB.opi oX12_reduce rfl (zi_mul 20 row) ?_
      refine xB.run oX12_reduce 1 (s := (98, [some (.ref 7168), some (.int (zI rows)), some (.int (zI cols)), some (.int (zI all)), some (.int (zI c)), some (.int (zI pv)), some (.int (zI row)), none, none, none, none, none], [.int (zI c), .int (zI (20 * row)), .ref 7190], [r0, r1, r2, r3, r4, r5, r6, zH s7 zL7 0, r8, r9])) rfl ?_
      refine zB.opi oX12_reduce rfl (zi_add (20 * row) c) ?_
      obtain ⟨g27, H⟩ := zgd H
      refine zB.lald oX12_reduce (g := 7) (p := 22) (N := 320) (i := (20 * row) + c) rfl rfl (by decide) rfl rfl (by decide) g27 ?_
      refine xB.run oX12_reduce 4 (s := (108, [some (.ref 7168), some (.int (zI rows)), some (.int (zI cols)), some (.int (zI all)), some (.int (zI c)), some (.int (zI pv)), some (.int (zI row)), some (.long (zJ (s7 22 ((20 * row) + c).toNat))), none, none, none, none], [.int (zI (s7 0 33)), .int (zI row)], [r0, r1, r2, r3, r4, r5, r6, zH s7 zL7 0, r8, r9])) rfl ?_
      obtain ⟨g26, H⟩ := zgd H
      have H := zif H
      refine xB.brE oX12_reduce (P := row = (s7 0 33)) rfl (zc_eq (a := row) (b := s7 0 33) g26) (fun h13 => ?_) (fun h13 => ?_)
      · have H := H.1 h13
        refine zB.inc oX12_reduce rfl (lv2 := [some (.ref 7168), some (.int (zI rows)), some (.int (zI cols)), some (.int (zI all)), some (.int (zI c)), some (.int (zI pv)), some (.int (zI (row + 1))), some (.long (zJ (s7 22 ((20 * row) + c).toNat))), none, none, none, none]) (zi_inc (a := 0) (zi_addp1 row) _ rfl) ?_
        refine xB.run oX12_reduce 1 (s := (81, [some (.ref 7168), some (.int (zI rows)), some (.int (zI cols)), some (.int (zI all)), some (.int (zI c)), some (.int (zI pv)), some (.int (zI (row + 1))), some (.long (zJ (s7 22 ((20 * row) + c).toNat))), none, none, none, none], [], [r0, r1, r2, r3, r4, r5, r6, zH s7 zL7 0, r8, r9])) rfl ?_
        refine xB.forget (lv1 := [some (.ref 7168), some (.int (zI rows)), some (.int (zI cols)), some (.int (zI all)), some (.int (zI c)), some (.int (zI pv)), some (.int (zI (row + 1))), none, none, none, none, none]) (xle_same (xle_same (xle_same (xle_same (xle_same (xle_same (xle_same (xle_none (xle_same (xle_same (xle_same (xle_same (xle_nil))))))))))))) ?_
        exact ih (row + 1) s7 H K
      · have H := H.2 h13
        refine xB.run oX12_reduce 3 (s := (115, [some (.ref 7168), some (.int (zI rows)), some (.int (zI cols)), some (.int (zI all)), some (.int (zI c)), some (.int (zI pv)), some (.int (zI row)), some (.long (zJ (s7 22 ((20 * row) + c).toNat))), none, none, none, none], [.int (lg_cmp (zJ (s7 22 ((20 * row) + c).toNat)) (zJ 0))], [r0, r1, r2, r3, r4, r5, r6, zH s7 zL7 0, r8, r9])) rfl ?_
        obtain ⟨g25, H⟩ := zgd H
        have H := zif H
        refine xB.brE oX12_reduce (P := (s7 22 ((20 * row) + c).toNat) ≠ 0) rfl (zl_ne (a := s7 22 ((20 * row) + c).toNat) (b := 0) ⟨g25, by decide⟩) (fun h14 => ?_) (fun h14 => ?_)
        · have H := H.1 h14
          refine xB.run oX12_reduce 5 (s := (131, [some (.ref 7168), some (.int (zI rows)), some (.int (zI cols)), some (.int (zI all)), some (.int (zI c)), some (.int (zI pv)), some (.int (zI row)), some (.long (zJ (s7 22 ((20 * row) + c).toNat))), none, none, none, none], [.int (zI (s7 0 33)), .int (zI 20), .ref 7190], [r0, r1, r2, r3, r4, r5, r6, zH s7 zL7 0, r8, r9])) rfl ?_
          refine zB.opi oX12_reduce rfl (zi_mul 20 (s7 0 33)) ?_
          refine xB.run oX12_reduce 1 (s := (134, [some (.ref 7168), some (.int (zI rows)), some (.int (zI cols)), some (.int (zI all)), some (.int (zI c)), some (.int (zI pv)), some (.int (zI row)), some (.long (zJ (s7 22 ((20 * row) + c).toNat))), none, none, none, none], [.int (zI c), .int (zI (20 * (s7 0 33))), .ref 7190], [r0, r1, r2, r3, r4, r5, r6, zH s7 zL7 0, r8, r9])) rfl ?_
          refine zB.opi oX12_reduce rfl (zi_add (20 * (s7 0 33)) c) ?_
          obtain ⟨g24, H⟩ := zgd H
          refine zB.lald oX12_reduce (g := 7) (p := 22) (N := 320) (i := (20 * (s7 0 33)) + c) rfl rfl (by decide) rfl rfl (by decide) g24 ?_
          refine xB.run oX12_reduce 3 (s := (141, [some (.ref 7168), some (.int (zI rows)), some (.int (zI cols)), some (.int (zI all)), some (.int (zI c)), some (.int (zI pv)), some (.int (zI row)), some (.long (zJ (s7 22 ((20 * row) + c).toNat))), none, some (.long (zJ (s7 22 ((20 * (s7 0 33)) + c).toNat))), none, some (.int (zI 0))], [], [r0, r1, r2, r3, r4, r5, r6, zH s7 zL7 0, r8, r9])) rfl ?_
          obtain ⟨y20, e21, H⟩ := zbd H
          refine l_X12_reduce_141 r0 r1 r2 r3 r4 r5 r6 r8 r9 rows cols all c pv row (s7 22 ((20 * row) + c).toNat) (s7 22 ((20 * (s7 0 33)) + c).toNat) _ 0 s7 e21 ?_
          refine xB.run oX12_reduce 3 (s := (205, [some (.ref 7168), some (.int (zI rows)), some (.int (zI cols)), some (.int (zI all)), some (.int (zI c)), some (.int (zI pv)), some (.int (zI row)), some (.long (zJ (s7 22 ((20 * row) + c).toNat))), none, some (.long (zJ (s7 22 ((20 * (s7 0 33)) + c).toNat))), none, some (.int (zI y20.1))], [.int (zI all), .int (zI row), .ref 7168], [r0, r1, r2, r3, r4, r5, r6, zH y20.2 zL7 0, r8, r9])) rfl ?_
          obtain ⟨y22, e23, H⟩ := zbd H
          refine xB.call oX12_reduce (M2 := MX12_divideRow) rfl rfl ((t_X12_divideRow r0 r1 r2 r3 r4 r5 r6 y20.2 r8 r9 row all e23).deep (by decide : 2 ≤ 2)) ?_
          show xBody MX12_reduce 3 208 [some (.ref 7168), some (.int (zI rows)), some (.int (zI cols)), some (.int (zI all)), some (.int (zI c)), some (.int (zI pv)), some (.int (zI row)), some (.long (zJ (s7 22 ((20 * row) + c).toNat))), none, some (.long (zJ (s7 22 ((20 * (s7 0 33)) + c).toNat))), none, some (.int (zI y20.1))] [] ([r0, r1, r2, r3, r4, r5, r6, zH y22 zL7 0, r8, r9]) _ _
          refine zB.inc oX12_reduce rfl (lv2 := [some (.ref 7168), some (.int (zI rows)), some (.int (zI cols)), some (.int (zI all)), some (.int (zI c)), some (.int (zI pv)), some (.int (zI (row + 1))), some (.long (zJ (s7 22 ((20 * row) + c).toNat))), none, some (.long (zJ (s7 22 ((20 * (s7 0 33)) + c).toNat))), none, some (.int (zI y20.1))]) (zi_inc (a := 0) (zi_addp1 row) _ rfl) ?_
          refine xB.run oX12_reduce 1 (s := (81, [some (.ref 7168), some (.int (zI rows)), some (.int (zI cols)), some (.int (zI all)), some (.int (zI c)), some (.int (zI pv)), some (.int (zI (row + 1))), some (.long (zJ (s7 22 ((20 * row) + c).toNat))), none, some (.long (zJ (s7 22 ((20 * (s7 0 33)) + c).toNat))), none, some (.int (zI y20.1))], [], [r0, r1, r2, r3, r4, r5, r6, zH y22 zL7 0, r8, r9])) rfl ?_
          refine xB.forget (lv1 := [some (.ref 7168), some (.int (zI rows)), some (.int (zI cols)), some (.int (zI all)), some (.int (zI c)), some (.int (zI pv)), some (.int (zI (row + 1))), none, none, none, none, none]) (xle_same (xle_same (xle_same (xle_same (xle_same (xle_same (xle_same (xle_none (xle_same (xle_none (xle_same (xle_none (xle_nil))))))))))))) ?_
          exact ih (row + 1) y22 H K
        · have H := H.2 h14
          refine xB.run oX12_reduce 1 (s := (208, [some (.ref 7168), some (.int (zI rows)), some (.int (zI cols)), some (.int (zI all)), some (.int (zI c)), some (.int (zI pv)), some (.int (zI row)), some (.long (zJ (s7 22 ((20 * row) + c).toNat))), none, none, none, none], [], [r0, r1, r2, r3, r4, r5, r6, zH s7 zL7 0, r8, r9])) rfl ?_
          refine zB.inc oX12_reduce rfl (lv2 := [some (.ref 7168), some (.int (zI rows)), some (.int (zI cols)), some (.int (zI all)), some (.int (zI c)), some (.int (zI pv)), some (.int (zI (row + 1))), some (.long (zJ (s7 22 ((20 * row) + c).toNat))), none, none, none, none]) (zi_inc (a := 0) (zi_addp1 row) _ rfl) ?_
          refine xB.run oX12_reduce 1 (s := (81, [some (.ref 7168), some (.int (zI rows)), some (.int (zI cols)), some (.int (zI all)), some (.int (zI c)), some (.int (zI pv)), some (.int (zI (row + 1))), some (.long (zJ (s7 22 ((20 * row) + c).toNat))), none, none, none, none], [], [r0, r1, r2, r3, r4, r5, r6, zH s7 zL7 0, r8, r9])) rfl ?_
          refine xB.forget (lv1 := [some (.ref 7168), some (.int (zI rows)), some (.int (zI cols)), some (.int (zI all)), some (.int (zI c)), some (.int (zI pv)), some (.int (zI (row + 1))), none, none, none, none, none]) (xle_same (xle_same (xle_same (xle_same (xle_same (xle_same (xle_same (xle_none (xle_same (xle_same (xle_same (xle_same (xle_nil))))))))))))) ?_
          exact ih (row + 1) s7 H K
set_option maxRecDepth 20000 in
theorem l_X12_reduce_8 (r0 : List va_E) (r1 : List va_E) (r2 : List va_E) (r3 : List va_E) (r4 : List va_E) (r5 : List va_E) (r6 : List va_E) (r8 : List va_E) (r9 : List va_E) (rows : Int) (cols : Int) (all : Int) {r : Option Value} {hp1 : xH} : ∀ (uN : Nat) (c : Int) (s7 : zZ) {uX : Int × zZ}, d_X12_reduce_8 rows cols all uN c s7 = some uX → (xBody MX12_reduce 3 241 [some (.ref 7168), some (.int (zI rows)), some (.int (zI cols)), some (.int (zI all)), some (.int (zI uX.1)), none, none, none, none, none, none, none] [] ([r0, r1, r2, r3, r4, r5, r6, zH uX.2 zL7 0, r8, r9]) r hp1) → xBody MX12_reduce 3 8 [some (.ref 7168), some (.int (zI rows)), some (.int (zI cols)), some (.int (zI all)), some (.int (zI c)), none, none, none, none, none, none, none] [] ([r0, r1, r2, r3, r4, r5, r6, zH s7 zL7 0, r8, r9]) r hp1 := by
  intro uN
  induction uN with
  | zero => intro c s7 uX H K; cases H
  | succ uN ih =>
    intro c s7 uX H K
    unfold d_X12_reduce_8 at H
    refine xB.run oX12_reduce 2 (s := (11, [some (.ref 7168), some (.int (zI rows)), some (.int (zI cols)), some (.int (zI all)), some (.int (zI c)), none, none, none, none, none, none, none], [.int (zI cols), .int (zI c)], [r0, r1, r2, r3, r4, r5, r6, zH s7 zL7 0, r8, r9])) rfl ?_
    obtain ⟨g34, H⟩ := zgd H
    have H := zif H
    refine xB.brE oX12_reduce (P := cols ≤ c) rfl (zc_ge (a := c) (b := cols) g34) (fun h1 => ?_) (fun h1 => ?_)
    · have H := H.1 h1
      obtain rfl := Option.some.inj H
      exact K
    · have H := H.2 h1
      refine xB.run oX12_reduce 4 (s := (22, [some (.ref 7168), some (.int (zI rows)), some (.int (zI cols)), some (.int (zI all)), some (.int (zI c)), none, none, none, none, none, none, none], [.int (zI (-9)), .int (zI c), .ref 7191], [r0, r1, r2, r3, r4, r5, r6, zH s7 zL7 0, r8, r9])) rfl ?_
      obtain ⟨g33, H⟩ := zgd H
      refine zB.iast oX12_reduce (g := 7) (p := 23) (N := 20) (i := c) (hp1 := [r0, r1, r2, r3, r4, r5, r6, zH (upz s7 23 c.toNat (-9)) zL7 0, r8, r9]) rfl rfl (by decide) (by decide) rfl rfl (by decide) g33 rfl ?_
      refine xB.run oX12_reduce 3 (s := (29, [some (.ref 7168), some (.int (zI rows)), some (.int (zI cols)), some (.int (zI all)), some (.int (zI c)), some (.int (zI ((upz s7 23 c.toNat (-9)) 0 33))), none, none, none, none, none, none], [], [r0, r1, r2, r3, r4, r5, r6, zH (upz s7 23 c.toNat (-9)) zL7 0, r8, r9])) rfl ?_
      obtain ⟨y7, e8, H⟩ := zbd H
      refine l_X12_reduce_29 r0 r1 r2 r3 r4 r5 r6 (upz s7 23 c.toNat (-9)) r8 r9 rows cols all c _ ((upz s7 23 c.toNat (-9)) 0 33) e8 ?_
      refine xB.run oX12_reduce 2 (s := (62, [some (.ref 7168), some (.int (zI rows)), some (.int (zI cols)), some (.int (zI all)), some (.int (zI c)), some (.int (zI y7)), none, none, none, none, none, none], [.int (zI rows), .int (zI y7)], [r0, r1, r2, r3, r4, r5, r6, zH (upz s7 23 c.toNat (-9)) zL7 0, r8, r9])) rfl ?_
      obtain ⟨g32, H⟩ := zgd H
      have H := zif H
      refine xB.brE oX12_reduce (P := y7 ≠ rows) rfl (zc_ne (a := y7) (b := rows) g32) (fun h9 => ?_) (fun h9 => ?_)
      · have H := H.1 h9
        refine xB.run oX12_reduce 4 (s := (75, [some (.ref 7168), some (.int (zI rows)), some (.int (zI cols)), some (.int (zI all)), some (.int (zI c)), some (.int (zI y7)), none, none, none, none, none, none], [.int (zI ((upz s7 23 c.toNat (-9)) 0 33)), .int (zI y7), .ref 7168], [r0, r1, r2, r3, r4, r5, r6, zH (upz s7 23 c.toNat (-9)) zL7 0, r8, r9])) rfl ?_
        obtain ⟨y10, e11, H⟩ := zbd H
        refine xB.call oX12_reduce (M2 := MX12_swapRows) rfl rfl ((t_X12_swapRows r0 r1 r2 r3 r4 r5 r6 (upz s7 23 c.toNat (-9)) r8 r9 y7 ((upz s7 23 c.toNat (-9)) 0 33) e11).deep (by decide : 0 ≤ 2)) ?_
        show xBody MX12_reduce 3 78 [some (.ref 7168), some (.int (zI rows)), some (.int (zI cols)), some (.int (zI all)), some (.int (zI c)), some (.int (zI y7)), none, none, none, none, none, none] [] ([r0, r1, r2, r3, r4, r5, r6, zH y10 zL7 0, r8, r9]) _ _
        refine xB.run oX12_reduce 2 (s := (81, [some (.ref 7168), some (.int (zI rows)), some (.int (zI cols)), some (.int (zI all)), some (.int (zI c)), some (.int (zI y7)), some (.int (zI 0)), none, none, none, none, none], [], [r0, r1, r2, r3, r4, r5, r6, zH y10 zL7 0, r8, r9])) rfl ?_
        obtain ⟨y29, e30, H⟩ := zbd H
        refine l_X12_reduce_81 r0 r1 r2 r3 r4 r5 r6 r8 r9 rows cols all c y7 _ 0 y10 e30 ?_
        refine xB.run oX12_reduce 5 (s := (224, [some (.ref 7168), some (.int (zI rows)), some (.int (zI cols)), some (.int (zI all)), some (.int (zI c)), some (.int (zI y7)), some (.int (zI y29.1)), none, none, none, none, none], [.int (zI (y29.2 0 33)), .int (zI c), .ref 7191], [r0, r1, r2, r3, r4, r5, r6, zH y29.2 zL7 0, r8, r9])) rfl ?_
        obtain ⟨g31, H⟩ := zgd H
        refine zB.iast oX12_reduce (g := 7) (p := 23) (N := 20) (i := c) (hp1 := [r0, r1, r2, r3, r4, r5, r6, zH (upz y29.2 23 c.toNat (y29.2 0 33)) zL7 0, r8, r9]) rfl rfl (by decide) (by decide) rfl rfl (by decide) g31 rfl ?_
        refine xB.run oX12_reduce 4 (s := (231, [some (.ref 7168), some (.int (zI rows)), some (.int (zI cols)), some (.int (zI all)), some (.int (zI c)), some (.int (zI y7)), some (.int (zI y29.1)), none, none, none, none, none], [.int (zI 1), .int (zI ((upz y29.2 23 c.toNat (y29.2 0 33)) 0 33)), .ref 7168], [r0, r1, r2, r3, r4, r5, r6, zH (upz y29.2 23 c.toNat (y29.2 0 33)) zL7 0, r8, r9])) rfl ?_
        refine zB.opi oX12_reduce rfl (zi_add ((upz y29.2 23 c.toNat (y29.2 0 33)) 0 33) 1) ?_
        refine zB.putI oX12_reduce (g := 7) (p := 0) (c := 12) (k := 33) (y := 0) (hp1 := [r0, r1, r2, r3, r4, r5, r6, zH (upz (upz y29.2 23 c.toNat (y29.2 0 33)) 0 33 (((upz y29.2 23 c.toNat (y29.2 0 33)) 0 33) + 1)) zL7 0, r8, r9]) rfl rfl (by decide) (by decide) rfl rfl rfl rfl rfl rfl ?_
        refine zB.inc oX12_reduce rfl (lv2 := [some (.ref 7168), some (.int (zI rows)), some (.int (zI cols)), some (.int (zI all)), some (.int (zI (c + 1))), some (.int (zI y7)), some (.int (zI y29.1)), none, none, none, none, none]) (zi_inc (a := 0) (zi_addp1 c) _ rfl) ?_
        refine xB.run oX12_reduce 1 (s := (8, [some (.ref 7168), some (.int (zI rows)), some (.int (zI cols)), some (.int (zI all)), some (.int (zI (c + 1))), some (.int (zI y7)), some (.int (zI y29.1)), none, none, none, none, none], [], [r0, r1, r2, r3, r4, r5, r6, zH (upz (upz y29.2 23 c.toNat (y29.2 0 33)) 0 33 (((upz y29.2 23 c.toNat (y29.2 0 33)) 0 33) + 1)) zL7 0, r8, r9])) rfl ?_
        refine xB.forget (lv1 := [some (.ref 7168), some (.int (zI rows)), some (.int (zI cols)), some (.int (zI all)), some (.int (zI (c + 1))), none, none, none, none, none, none, none]) (xle_same (xle_same (xle_same (xle_same (xle_same (xle_none (xle_none (xle_same (xle_same (xle_same (xle_same (xle_same (xle_nil))))))))))))) ?_
        exact ih (c + 1) (upz (upz y29.2 23 c.toNat (y29.2 0 33)) 0 33 (((upz y29.2 23 c.toNat (y29.2 0 33)) 0 33) + 1)) H K
      · have H := H.2 h9
        refine xB.run oX12_reduce 1 (s := (235, [some (.ref 7168), some (.int (zI rows)), some (.int (zI cols)), some (.int (zI all)), some (.int (zI c)), some (.int (zI y7)), none, none, none, none, none, none], [], [r0, r1, r2, r3, r4, r5, r6, zH (upz s7 23 c.toNat (-9)) zL7 0, r8, r9])) rfl ?_
        refine zB.inc oX12_reduce rfl (lv2 := [some (.ref 7168), some (.int (zI rows)), some (.int (zI cols)), some (.int (zI all)), some (.int (zI (c + 1))), some (.int (zI y7)), none, none, none, none, none, none]) (zi_inc (a := 0) (zi_addp1 c) _ rfl) ?_
        refine xB.run oX12_reduce 1 (s := (8, [some (.ref 7168), some (.int (zI rows)), some (.int (zI cols)), some (.int (zI all)), some (.int (zI (c + 1))), some (.int (zI y7)), none, none, none, none, none, none], [], [r0, r1, r2, r3, r4, r5, r6, zH (upz s7 23 c.toNat (-9)) zL7 0, r8, r9])) rfl ?_
        refine xB.forget (lv1 := [some (.ref 7168), some (.int (zI rows)), some (.int (zI cols)), some (.int (zI all)), some (.int (zI (c + 1))), none, none, none, none, none, none, none]) (xle_same (xle_same (xle_same (xle_same (xle_same (xle_none (xle_same (xle_same (xle_same (xle_same (xle_same (xle_same (xle_nil))))))))))))) ?_
        exact ih (c + 1) (upz s7 23 c.toNat (-9)) H K
set_option maxRecDepth 20000 in
theorem t_X12_reduce (r0 : List va_E) (r1 : List va_E) (r2 : List va_E) (r3 : List va_E) (r4 : List va_E) (r5 : List va_E) (r6 : List va_E) (s7 : zZ) (r8 : List va_E) (r9 : List va_E) (rows : Int) (cols : Int) (all : Int) {rr : zZ} (H : d_X12_reduce s7 rows cols all = some rr) : xC MX12_reduce 3 [.ref 7168, .int (zI rows), .int (zI cols), .int (zI all)] ([r0, r1, r2, r3, r4, r5, r6, zH s7 zL7 0, r8, r9]) (none) ([r0, r1, r2, r3, r4, r5, r6, zH rr zL7 0, r8, r9]) := by
  refine ⟨Nat.le_of_ble_eq_true rfl, ?_⟩
  show xBody MX12_reduce 3 0 [some (.ref 7168), some (.int (zI rows)), some (.int (zI cols)), some (.int (zI all)), none, none, none, none, none, none, none, none] [] ([r0, r1, r2, r3, r4, r5, r6, zH s7 zL7 0, r8, r9]) _ _
  unfold d_X12_reduce at H
  refine xB.run oX12_reduce 2 (s := (2, [some (.ref 7168), some (.int (zI rows)), some (.int (zI cols)), some (.int (zI all)), none, none, none, none, none, none, none, none], [.int (zI 0), .ref 7168], [r0, r1, r2, r3, r4, r5, r6, zH s7 zL7 0, r8, r9])) rfl ?_
  refine zB.putI oX12_reduce (g := 7) (p := 0) (c := 12) (k := 33) (y := 0) (hp1 := [r0, r1, r2, r3, r4, r5, r6, zH (upz s7 0 33 0) zL7 0, r8, r9]) rfl rfl (by decide) (by decide) rfl rfl rfl rfl rfl rfl ?_
  refine xB.run oX12_reduce 2 (s := (8, [some (.ref 7168), some (.int (zI rows)), some (.int (zI cols)), some (.int (zI all)), some (.int (zI 0)), none, none, none, none, none, none, none], [], [r0, r1, r2, r3, r4, r5, r6, zH (upz s7 0 33 0) zL7 0, r8, r9])) rfl ?_
  obtain ⟨y35, e36, H⟩ := zbd H
  refine l_X12_reduce_8 r0 r1 r2 r3 r4 r5 r6 r8 r9 rows cols all _ 0 (upz s7 0 33 0) e36 ?_
  obtain rfl := Option.some.inj H
  exact xB.ret oX12_reduce (r1 := none) rfl rfl rfl
def d_X12_stretch (s7 : zZ) (b : Int) (jt : Int) (way : Int) : Option (Int) := if (0 ≤ (2 * b) ∧ (2 * b) < 32) then (if (0 ≤ ((2 * b) + 1) ∧ ((2 * b) + 1) < 32) then (if (zr (s7 18 (2 * b).toNat) ∧ zr jt) then (if (s7 18 (2 * b).toNat) = jt then (if (zr (s7 18 (2 * b).toNat) ∧ zr jt) then (if (s7 18 (2 * b).toNat) ≠ jt then (if (zr way) then (if way ≠ 0 then (if (0 ≤ (s7 18 (2 * b).toNat) ∧ (s7 18 (2 * b).toNat) < 8) then (if (0 ≤ jt ∧ jt < 8) then some ((s7 15 (s7 18 (2 * b).toNat).toNat) - (s7 15 jt.toNat)) else none) else none) else (if (0 ≤ (s7 18 (2 * b).toNat) ∧ (s7 18 (2 * b).toNat) < 8) then (if (0 ≤ jt ∧ jt < 8) then some ((s7 14 (s7 18 (2 * b).toNat).toNat) - (s7 14 jt.toNat)) else none) else none)) else none) else (if (zr way) then (if way ≠ 0 then (if (0 ≤ (s7 18 ((2 * b) + 1).toNat) ∧ (s7 18 ((2 * b) + 1).toNat) < 8) then (if (0 ≤ jt ∧ jt < 8) then some ((s7 15 (s7 18 ((2 * b) + 1).toNat).toNat) - (s7 15 jt.toNat)) else none) else none) else (if (0 ≤ (s7 18 ((2 * b) + 1).toNat) ∧ (s7 18 ((2 * b) + 1).toNat) < 8) then (if (0 ≤ jt ∧ jt < 8) then some ((s7 14 (s7 18 ((2 * b) + 1).toNat).toNat) - (s7 14 jt.toNat)) else none) else none)) else none)) else none) else (if (zr (s7 18 ((2 * b) + 1).toNat) ∧ zr jt) then (if (s7 18 ((2 * b) + 1).toNat) = jt then (if (zr (s7 18 (2 * b).toNat) ∧ zr jt) then (if (s7 18 (2 * b).toNat) ≠ jt then (if (zr way) then (if way ≠ 0 then (if (0 ≤ (s7 18 (2 * b).toNat) ∧ (s7 18 (2 * b).toNat) < 8) then (if (0 ≤ jt ∧ jt < 8) then some ((s7 15 (s7 18 (2 * b).toNat).toNat) - (s7 15 jt.toNat)) else none) else none) else (if (0 ≤ (s7 18 (2 * b).toNat) ∧ (s7 18 (2 * b).toNat) < 8) then (if (0 ≤ jt ∧ jt < 8) then some ((s7 14 (s7 18 (2 * b).toNat).toNat) - (s7 14 jt.toNat)) else none) else none)) else none) else (if (zr way) then (if way ≠ 0 then (if (0 ≤ (s7 18 ((2 * b) + 1).toNat) ∧ (s7 18 ((2 * b) + 1).toNat) < 8) then (if (0 ≤ jt ∧ jt < 8) then some ((s7 15 (s7 18 ((2 * b) + 1).toNat).toNat) - (s7 15 jt.toNat)) else none) else none) else (if (0 ≤ (s7 18 ((2 * b) + 1).toNat) ∧ (s7 18 ((2 * b) + 1).toNat) < 8) then (if (0 ≤ jt ∧ jt < 8) then some ((s7 14 (s7 18 ((2 * b) + 1).toNat).toNat) - (s7 14 jt.toNat)) else none) else none)) else none)) else none) else some 0) else none)) else none) else none) else none
set_option maxRecDepth 20000 in
theorem t_X12_stretch (r0 : List va_E) (r1 : List va_E) (r2 : List va_E) (r3 : List va_E) (r4 : List va_E) (r5 : List va_E) (r6 : List va_E) (s7 : zZ) (r8 : List va_E) (r9 : List va_E) (b : Int) (jt : Int) (way : Int) {rr : Int} (H : d_X12_stretch s7 b jt way = some rr) : xC MX12_stretch 0 [.ref 7168, .int (zI b), .int (zI jt), .int (zI way)] ([r0, r1, r2, r3, r4, r5, r6, zH s7 zL7 0, r8, r9]) (some (.int (zI rr))) ([r0, r1, r2, r3, r4, r5, r6, zH s7 zL7 0, r8, r9]) := by
  refine ⟨Nat.le_of_ble_eq_true rfl, ?_⟩
  show xBody MX12_stretch 0 0 [some (.ref 7168), some (.int (zI b)), some (.int (zI jt)), some (.int (zI way)), none, none, none] [] ([r0, r1, r2, r3, r4, r5, r6, zH s7 zL7 0, r8, r9]) _ _
  unfold d_X12_stretch at H
  refine xB.run oX12_stretch 4 (s := (6, [some (.ref 7168), some (.int (zI b)), some (.int (zI jt)), some (.int (zI way)), none, none, none], [.int (zI b), .int (zI 2), .ref 7186], [r0, r1, r2, r3, r4, r5, r6, zH s7 zL7 0, r8, r9])) rfl ?_
  refine zB.opi oX12_stretch rfl (zi_mul 2 b) ?_
  obtain ⟨g34, H⟩ := zgd H
  refine zB.iald oX12_stretch (g := 7) (p := 18) (N := 32) (i := 2 * b) rfl rfl (by decide) rfl rfl (by decide) g34 ?_
  refine xB.run oX12_stretch 5 (s := (16, [some (.ref 7168), some (.int (zI b)), some (.int (zI jt)), some (.int (zI way)), some (.int (zI (s7 18 (2 * b).toNat))), none, none], [.int (zI b), .int (zI 2), .ref 7186], [r0, r1, r2, r3, r4, r5, r6, zH s7 zL7 0, r8, r9])) rfl ?_
  refine zB.opi oX12_stretch rfl (zi_mul 2 b) ?_
  refine xB.run oX12_stretch 1 (s := (18, [some (.ref 7168), some (.int (zI b)), some (.int (zI jt)), some (.int (zI way)), some (.int (zI (s7 18 (2 * b).toNat))), none, none], [.int (zI 1), .int (zI (2 * b)), .ref 7186], [r0, r1, r2, r3, r4, r5, r6, zH s7 zL7 0, r8, r9])) rfl ?_
  refine zB.opi oX12_stretch rfl (zi_add (2 * b) 1) ?_
  obtain ⟨g33, H⟩ := zgd H
  refine zB.iald oX12_stretch (g := 7) (p := 18) (N := 32) (i := (2 * b) + 1) rfl rfl (by decide) rfl rfl (by decide) g33 ?_
  refine xB.run oX12_stretch 3 (s := (25, [some (.ref 7168), some (.int (zI b)), some (.int (zI jt)), some (.int (zI way)), some (.int (zI (s7 18 (2 * b).toNat))), some (.int (zI (s7 18 ((2 * b) + 1).toNat))), none], [.int (zI jt), .int (zI (s7 18 (2 * b).toNat))], [r0, r1, r2, r3, r4, r5, r6, zH s7 zL7 0, r8, r9])) rfl ?_
  obtain ⟨g32, H⟩ := zgd H
  have H := zif H
  refine xB.brE oX12_stretch (P := (s7 18 (2 * b).toNat) = jt) rfl (zc_eq (a := s7 18 (2 * b).toNat) (b := jt) g32) (fun h1 => ?_) (fun h1 => ?_)
  · have H := H.1 h1
    refine xB.run oX12_stretch 2 (s := (39, [some (.ref 7168), some (.int (zI b)), some (.int (zI jt)), some (.int (zI way)), some (.int (zI (s7 18 (2 * b).toNat))), some (.int (zI (s7 18 ((2 * b) + 1).toNat))), none], [.int (zI jt), .int (zI (s7 18 (2 * b).toNat))], [r0, r1, r2, r3, r4, r5, r6, zH s7 zL7 0, r8, r9])) rfl ?_
    obtain ⟨g15, H⟩ := zgd H
    have H := zif H
    refine xB.brE oX12_stretch (P := (s7 18 (2 * b).toNat) ≠ jt) rfl (zc_ne (a := s7 18 (2 * b).toNat) (b := jt) g15) (fun h2 => ?_) (fun h2 => ?_)
    · have H := H.1 h2
      refine xB.run oX12_stretch 3 (s := (52, [some (.ref 7168), some (.int (zI b)), some (.int (zI jt)), some (.int (zI way)), some (.int (zI (s7 18 (2 * b).toNat))), some (.int (zI (s7 18 ((2 * b) + 1).toNat))), some (.int (zI (s7 18 (2 * b).toNat)))], [.int (zI way)], [r0, r1, r2, r3, r4, r5, r6, zH s7 zL7 0, r8, r9])) rfl ?_
      obtain ⟨g8, H⟩ := zgd H
      have H := zif H
      refine xB.brE oX12_stretch (P := way ≠ 0) rfl (zc_ne (a := way) (b := 0) ⟨g8, by decide⟩) (fun h3 => ?_) (fun h3 => ?_)
      · have H := H.1 h3
        refine xB.run oX12_stretch 3 (s := (78, [some (.ref 7168), some (.int (zI b)), some (.int (zI jt)), some (.int (zI way)), some (.int (zI (s7 18 (2 * b).toNat))), some (.int (zI (s7 18 ((2 * b) + 1).toNat))), some (.int (zI (s7 18 (2 * b).toNat)))], [.int (zI (s7 18 (2 * b).toNat)), .ref 7183], [r0, r1, r2, r3, r4, r5, r6, zH s7 zL7 0, r8, r9])) rfl ?_
        obtain ⟨g5, H⟩ := zgd H
        refine zB.iald oX12_stretch (g := 7) (p := 15) (N := 8) (i := s7 18 (2 * b).toNat) rfl rfl (by decide) rfl rfl (by decide) g5 ?_
        refine xB.run oX12_stretch 3 (s := (84, [some (.ref 7168), some (.int (zI b)), some (.int (zI jt)), some (.int (zI way)), some (.int (zI (s7 18 (2 * b).toNat))), some (.int (zI (s7 18 ((2 * b) + 1).toNat))), some (.int (zI (s7 18 (2 * b).toNat)))], [.int (zI jt), .ref 7183, .int (zI (s7 15 (s7 18 (2 * b).toNat).toNat))], [r0, r1, r2, r3, r4, r5, r6, zH s7 zL7 0, r8, r9])) rfl ?_
        obtain ⟨g4, H⟩ := zgd H
        refine zB.iald oX12_stretch (g := 7) (p := 15) (N := 8) (i := jt) rfl rfl (by decide) rfl rfl (by decide) g4 ?_
        refine zB.opi oX12_stretch rfl (zi_sub (s7 15 (s7 18 (2 * b).toNat).toNat) (s7 15 jt.toNat)) ?_
        obtain rfl := Option.some.inj H
        exact xB.ret oX12_stretch (r1 := some (.int (zI ((s7 15 (s7 18 (2 * b).toNat).toNat) - (s7 15 jt.toNat))))) rfl rfl rfl
      · have H := H.2 h3
        refine xB.run oX12_stretch 3 (s := (61, [some (.ref 7168), some (.int (zI b)), some (.int (zI jt)), some (.int (zI way)), some (.int (zI (s7 18 (2 * b).toNat))), some (.int (zI (s7 18 ((2 * b) + 1).toNat))), some (.int (zI (s7 18 (2 * b).toNat)))], [.int (zI (s7 18 (2 * b).toNat)), .ref 7182], [r0, r1, r2, r3, r4, r5, r6, zH s7 zL7 0, r8, r9])) rfl ?_
        obtain ⟨g7, H⟩ := zgd H
        refine zB.iald oX12_stretch (g := 7) (p := 14) (N := 8) (i := s7 18 (2 * b).toNat) rfl rfl (by decide) rfl rfl (by decide) g7 ?_
        refine xB.run oX12_stretch 3 (s := (67, [some (.ref 7168), some (.int (zI b)), some (.int (zI jt)), some (.int (zI way)), some (.int (zI (s7 18 (2 * b).toNat))), some (.int (zI (s7 18 ((2 * b) + 1).toNat))), some (.int (zI (s7 18 (2 * b).toNat)))], [.int (zI jt), .ref 7182, .int (zI (s7 14 (s7 18 (2 * b).toNat).toNat))], [r0, r1, r2, r3, r4, r5, r6, zH s7 zL7 0, r8, r9])) rfl ?_
        obtain ⟨g6, H⟩ := zgd H
        refine zB.iald oX12_stretch (g := 7) (p := 14) (N := 8) (i := jt) rfl rfl (by decide) rfl rfl (by decide) g6 ?_
        refine zB.opi oX12_stretch rfl (zi_sub (s7 14 (s7 18 (2 * b).toNat).toNat) (s7 14 jt.toNat)) ?_
        refine xB.run oX12_stretch 1 (s := (86, [some (.ref 7168), some (.int (zI b)), some (.int (zI jt)), some (.int (zI way)), some (.int (zI (s7 18 (2 * b).toNat))), some (.int (zI (s7 18 ((2 * b) + 1).toNat))), some (.int (zI (s7 18 (2 * b).toNat)))], [.int (zI ((s7 14 (s7 18 (2 * b).toNat).toNat) - (s7 14 jt.toNat)))], [r0, r1, r2, r3, r4, r5, r6, zH s7 zL7 0, r8, r9])) rfl ?_
        obtain rfl := Option.some.inj H
        exact xB.ret oX12_stretch (r1 := some (.int (zI ((s7 14 (s7 18 (2 * b).toNat).toNat) - (s7 14 jt.toNat))))) rfl rfl rfl
    · have H := H.2 h2
      refine xB.run oX12_stretch 4 (s := (52, [some (.ref 7168), some (.int (zI b)), some (.int (zI jt)), some (.int (zI way)), some (.int (zI (s7 18 (2 * b).toNat))), some (.int (zI (s7 18 ((2 * b) + 1).toNat))), some (.int (zI (s7 18 ((2 * b) + 1).toNat)))], [.int (zI way)], [r0, r1, r2, r3, r4, r5, r6, zH s7 zL7 0, r8, r9])) rfl ?_
      obtain ⟨g14, H⟩ := zgd H
      have H := zif H
      refine xB.brE oX12_stretch (P := way ≠ 0) rfl (zc_ne (a := way) (b := 0) ⟨g14, by decide⟩) (fun h9 => ?_) (fun h9 => ?_)
      · have H := H.1 h9
        refine xB.run oX12_stretch 3 (s := (78, [some (.ref 7168), some (.int (zI b)), some (.int (zI jt)), some (.int (zI way)), some (.int (zI (s7 18 (2 * b).toNat))), some (.int (zI (s7 18 ((2 * b) + 1).toNat))), some (.int (zI (s7 18 ((2 * b) + 1).toNat)))], [.int (zI (s7 18 ((2 * b) + 1).toNat)), .ref 7183], [r0, r1, r2, r3, r4, r5, r6, zH s7 zL7 0, r8, r9])) rfl ?_
        obtain ⟨g11, H⟩ := zgd H
        refine zB.iald oX12_stretch (g := 7) (p := 15) (N := 8) (i := s7 18 ((2 * b) + 1).toNat) rfl rfl (by decide) rfl rfl (by decide) g11 ?_
        refine xB.run oX12_stretch 3 (s := (84, [some (.ref 7168), some (.int (zI b)), some (.int (zI jt)), some (.int (zI way)), some (.int (zI (s7 18 (2 * b).toNat))), some (.int (zI (s7 18 ((2 * b) + 1).toNat))), some (.int (zI (s7 18 ((2 * b) + 1).toNat)))], [.int (zI jt), .ref 7183, .int (zI (s7 15 (s7 18 ((2 * b) + 1).toNat).toNat))], [r0, r1, r2, r3, r4, r5, r6, zH s7 zL7 0, r8, r9])) rfl ?_
        obtain ⟨g10, H⟩ := zgd H
        refine zB.iald oX12_stretch (g := 7) (p := 15) (N := 8) (i := jt) rfl rfl (by decide) rfl rfl (by decide) g10 ?_
        refine zB.opi oX12_stretch rfl (zi_sub (s7 15 (s7 18 ((2 * b) + 1).toNat).toNat) (s7 15 jt.toNat)) ?_
        obtain rfl := Option.some.inj H
        exact xB.ret oX12_stretch (r1 := some (.int (zI ((s7 15 (s7 18 ((2 * b) + 1).toNat).toNat) - (s7 15 jt.toNat))))) rfl rfl rfl
      · have H := H.2 h9
        refine xB.run oX12_stretch 3 (s := (61, [some (.ref 7168), some (.int (zI b)), some (.int (zI jt)), some (.int (zI way)), some (.int (zI (s7 18 (2 * b).toNat))), some (.int (zI (s7 18 ((2 * b) + 1).toNat))), some (.int (zI (s7 18 ((2 * b) + 1).toNat)))], [.int (zI (s7 18 ((2 * b) + 1).toNat)), .ref 7182], [r0, r1, r2, r3, r4, r5, r6, zH s7 zL7 0, r8, r9])) rfl ?_
        obtain ⟨g13, H⟩ := zgd H
        refine zB.iald oX12_stretch (g := 7) (p := 14) (N := 8) (i := s7 18 ((2 * b) + 1).toNat) rfl rfl (by decide) rfl rfl (by decide) g13 ?_
        refine xB.run oX12_stretch 3 (s := (67, [some (.ref 7168), some (.int (zI b)), some (.int (zI jt)), some (.int (zI way)), some (.int (zI (s7 18 (2 * b).toNat))), some (.int (zI (s7 18 ((2 * b) + 1).toNat))), some (.int (zI (s7 18 ((2 * b) + 1).toNat)))], [.int (zI jt), .ref 7182, .int (zI (s7 14 (s7 18 ((2 * b) + 1).toNat).toNat))], [r0, r1, r2, r3, r4, r5, r6, zH s7 zL7 0, r8, r9])) rfl ?_
        obtain ⟨g12, H⟩ := zgd H
        refine zB.iald oX12_stretch (g := 7) (p := 14) (N := 8) (i := jt) rfl rfl (by decide) rfl rfl (by decide) g12 ?_
        refine zB.opi oX12_stretch rfl (zi_sub (s7 14 (s7 18 ((2 * b) + 1).toNat).toNat) (s7 14 jt.toNat)) ?_
        refine xB.run oX12_stretch 1 (s := (86, [some (.ref 7168), some (.int (zI b)), some (.int (zI jt)), some (.int (zI way)), some (.int (zI (s7 18 (2 * b).toNat))), some (.int (zI (s7 18 ((2 * b) + 1).toNat))), some (.int (zI (s7 18 ((2 * b) + 1).toNat)))], [.int (zI ((s7 14 (s7 18 ((2 * b) + 1).toNat).toNat) - (s7 14 jt.toNat)))], [r0, r1, r2, r3, r4, r5, r6, zH s7 zL7 0, r8, r9])) rfl ?_
        obtain rfl := Option.some.inj H
        exact xB.ret oX12_stretch (r1 := some (.int (zI ((s7 14 (s7 18 ((2 * b) + 1).toNat).toNat) - (s7 14 jt.toNat))))) rfl rfl rfl
  · have H := H.2 h1
    refine xB.run oX12_stretch 2 (s := (31, [some (.ref 7168), some (.int (zI b)), some (.int (zI jt)), some (.int (zI way)), some (.int (zI (s7 18 (2 * b).toNat))), some (.int (zI (s7 18 ((2 * b) + 1).toNat))), none], [.int (zI jt), .int (zI (s7 18 ((2 * b) + 1).toNat))], [r0, r1, r2, r3, r4, r5, r6, zH s7 zL7 0, r8, r9])) rfl ?_
    obtain ⟨g31, H⟩ := zgd H
    have H := zif H
    refine xB.brE oX12_stretch (P := (s7 18 ((2 * b) + 1).toNat) = jt) rfl (zc_eq (a := s7 18 ((2 * b) + 1).toNat) (b := jt) g31) (fun h16 => ?_) (fun h16 => ?_)
    · have H := H.1 h16
      refine xB.run oX12_stretch 2 (s := (39, [some (.ref 7168), some (.int (zI b)), some (.int (zI jt)), some (.int (zI way)), some (.int (zI (s7 18 (2 * b).toNat))), some (.int (zI (s7 18 ((2 * b) + 1).toNat))), none], [.int (zI jt), .int (zI (s7 18 (2 * b).toNat))], [r0, r1, r2, r3, r4, r5, r6, zH s7 zL7 0, r8, r9])) rfl ?_
      obtain ⟨g30, H⟩ := zgd H
      have H := zif H
      refine xB.brE oX12_stretch (P := (s7 18 (2 * b).toNat) ≠ jt) rfl (zc_ne (a := s7 18 (2 * b).toNat) (b := jt) g30) (fun h17 => ?_) (fun h17 => ?_)
      · have H := H.1 h17
        refine xB.run oX12_stretch 3 (s := (52, [some (.ref 7168), some (.int (zI b)), some (.int (zI jt)), some (.int (zI way)), some (.int (zI (s7 18 (2 * b).toNat))), some (.int (zI (s7 18 ((2 * b) + 1).toNat))), some (.int (zI (s7 18 (2 * b).toNat)))], [.int (zI way)], [r0, r1, r2, r3, r4, r5, r6, zH s7 zL7 0, r8, r9])) rfl ?_
        obtain ⟨g23, H⟩ := zgd H
        have H := zif H
        refine xB.brE oX12_stretch (P := way ≠ 0) rfl (zc_ne (a := way) (b := 0) ⟨g23, by decide⟩) (fun h18 => ?_) (fun h18 => ?_)
        · have H := H.1 h18
          refine xB.run oX12_stretch 3 (s := (78, [some (.ref 7168), some (.int (zI b)), some (.int (zI jt)), some (.int (zI way)), some (.int (zI (s7 18 (2 * b).toNat))), some (.int (zI (s7 18 ((2 * b) + 1).toNat))), some (.int (zI (s7 18 (2 * b).toNat)))], [.int (zI (s7 18 (2 * b).toNat)), .ref 7183], [r0, r1, r2, r3, r4, r5, r6, zH s7 zL7 0, r8, r9])) rfl ?_
          obtain ⟨g20, H⟩ := zgd H
          refine zB.iald oX12_stretch (g := 7) (p := 15) (N := 8) (i := s7 18 (2 * b).toNat) rfl rfl (by decide) rfl rfl (by decide) g20 ?_
          refine xB.run oX12_stretch 3 (s := (84, [some (.ref 7168), some (.int (zI b)), some (.int (zI jt)), some (.int (zI way)), some (.int (zI (s7 18 (2 * b).toNat))), some (.int (zI (s7 18 ((2 * b) + 1).toNat))), some (.int (zI (s7 18 (2 * b).toNat)))], [.int (zI jt), .ref 7183, .int (zI (s7 15 (s7 18 (2 * b).toNat).toNat))], [r0, r1, r2, r3, r4, r5, r6, zH s7 zL7 0, r8, r9])) rfl ?_
          obtain ⟨g19, H⟩ := zgd H
          refine zB.iald oX12_stretch (g := 7) (p := 15) (N := 8) (i := jt) rfl rfl (by decide) rfl rfl (by decide) g19 ?_
          refine zB.opi oX12_stretch rfl (zi_sub (s7 15 (s7 18 (2 * b).toNat).toNat) (s7 15 jt.toNat)) ?_
          obtain rfl := Option.some.inj H
          exact xB.ret oX12_stretch (r1 := some (.int (zI ((s7 15 (s7 18 (2 * b).toNat).toNat) - (s7 15 jt.toNat))))) rfl rfl rfl
        · have H := H.2 h18
          refine xB.run oX12_stretch 3 (s := (61, [some (.ref 7168), some (.int (zI b)), some (.int (zI jt)), some (.int (zI way)), some (.int (zI (s7 18 (2 * b).toNat))), some (.int (zI (s7 18 ((2 * b) + 1).toNat))), some (.int (zI (s7 18 (2 * b).toNat)))], [.int (zI (s7 18 (2 * b).toNat)), .ref 7182], [r0, r1, r2, r3, r4, r5, r6, zH s7 zL7 0, r8, r9])) rfl ?_
          obtain ⟨g22, H⟩ := zgd H
          refine zB.iald oX12_stretch (g := 7) (p := 14) (N := 8) (i := s7 18 (2 * b).toNat) rfl rfl (by decide) rfl rfl (by decide) g22 ?_
          refine xB.run oX12_stretch 3 (s := (67, [some (.ref 7168), some (.int (zI b)), some (.int (zI jt)), some (.int (zI way)), some (.int (zI (s7 18 (2 * b).toNat))), some (.int (zI (s7 18 ((2 * b) + 1).toNat))), some (.int (zI (s7 18 (2 * b).toNat)))], [.int (zI jt), .ref 7182, .int (zI (s7 14 (s7 18 (2 * b).toNat).toNat))], [r0, r1, r2, r3, r4, r5, r6, zH s7 zL7 0, r8, r9])) rfl ?_
          obtain ⟨g21, H⟩ := zgd H
          refine zB.iald oX12_stretch (g := 7) (p := 14) (N := 8) (i := jt) rfl rfl (by decide) rfl rfl (by decide) g21 ?_
          refine zB.opi oX12_stretch rfl (zi_sub (s7 14 (s7 18 (2 * b).toNat).toNat) (s7 14 jt.toNat)) ?_
          refine xB.run oX12_stretch 1 (s := (86, [some (.ref 7168), some (.int (zI b)), some (.int (zI jt)), some (.int (zI way)), some (.int (zI (s7 18 (2 * b).toNat))), some (.int (zI (s7 18 ((2 * b) + 1).toNat))), some (.int (zI (s7 18 (2 * b).toNat)))], [.int (zI ((s7 14 (s7 18 (2 * b).toNat).toNat) - (s7 14 jt.toNat)))], [r0, r1, r2, r3, r4, r5, r6, zH s7 zL7 0, r8, r9])) rfl ?_
          obtain rfl := Option.some.inj H
          exact xB.ret oX12_stretch (r1 := some (.int (zI ((s7 14 (s7 18 (2 * b).toNat).toNat) - (s7 14 jt.toNat))))) rfl rfl rfl
      · have H := H.2 h17
        refine xB.run oX12_stretch 4 (s := (52, [some (.ref 7168), some (.int (zI b)), some (.int (zI jt)), some (.int (zI way)), some (.int (zI (s7 18 (2 * b).toNat))), some (.int (zI (s7 18 ((2 * b) + 1).toNat))), some (.int (zI (s7 18 ((2 * b) + 1).toNat)))], [.int (zI way)], [r0, r1, r2, r3, r4, r5, r6, zH s7 zL7 0, r8, r9])) rfl ?_
        obtain ⟨g29, H⟩ := zgd H
        have H := zif H
        refine xB.brE oX12_stretch (P := way ≠ 0) rfl (zc_ne (a := way) (b := 0) ⟨g29, by decide⟩) (fun h24 => ?_) (fun h24 => ?_)
        · have H := H.1 h24
          refine xB.run oX12_stretch 3 (s := (78, [some (.ref 7168), some (.int (zI b)), some (.int (zI jt)), some (.int (zI way)), some (.int (zI (s7 18 (2 * b).toNat))), some (.int (zI (s7 18 ((2 * b) + 1).toNat))), some (.int (zI (s7 18 ((2 * b) + 1).toNat)))], [.int (zI (s7 18 ((2 * b) + 1).toNat)), .ref 7183], [r0, r1, r2, r3, r4, r5, r6, zH s7 zL7 0, r8, r9])) rfl ?_
          obtain ⟨g26, H⟩ := zgd H
          refine zB.iald oX12_stretch (g := 7) (p := 15) (N := 8) (i := s7 18 ((2 * b) + 1).toNat) rfl rfl (by decide) rfl rfl (by decide) g26 ?_
          refine xB.run oX12_stretch 3 (s := (84, [some (.ref 7168), some (.int (zI b)), some (.int (zI jt)), some (.int (zI way)), some (.int (zI (s7 18 (2 * b).toNat))), some (.int (zI (s7 18 ((2 * b) + 1).toNat))), some (.int (zI (s7 18 ((2 * b) + 1).toNat)))], [.int (zI jt), .ref 7183, .int (zI (s7 15 (s7 18 ((2 * b) + 1).toNat).toNat))], [r0, r1, r2, r3, r4, r5, r6, zH s7 zL7 0, r8, r9])) rfl ?_
          obtain ⟨g25, H⟩ := zgd H
          refine zB.iald oX12_stretch (g := 7) (p := 15) (N := 8) (i := jt) rfl rfl (by decide) rfl rfl (by decide) g25 ?_
          refine zB.opi oX12_stretch rfl (zi_sub (s7 15 (s7 18 ((2 * b) + 1).toNat).toNat) (s7 15 jt.toNat)) ?_
          obtain rfl := Option.some.inj H
          exact xB.ret oX12_stretch (r1 := some (.int (zI ((s7 15 (s7 18 ((2 * b) + 1).toNat).toNat) - (s7 15 jt.toNat))))) rfl rfl rfl
        · have H := H.2 h24
          refine xB.run oX12_stretch 3 (s := (61, [some (.ref 7168), some (.int (zI b)), some (.int (zI jt)), some (.int (zI way)), some (.int (zI (s7 18 (2 * b).toNat))), some (.int (zI (s7 18 ((2 * b) + 1).toNat))), some (.int (zI (s7 18 ((2 * b) + 1).toNat)))], [.int (zI (s7 18 ((2 * b) + 1).toNat)), .ref 7182], [r0, r1, r2, r3, r4, r5, r6, zH s7 zL7 0, r8, r9])) rfl ?_
          obtain ⟨g28, H⟩ := zgd H
          refine zB.iald oX12_stretch (g := 7) (p := 14) (N := 8) (i := s7 18 ((2 * b) + 1).toNat) rfl rfl (by decide) rfl rfl (by decide) g28 ?_
          refine xB.run oX12_stretch 3 (s := (67, [some (.ref 7168), some (.int (zI b)), some (.int (zI jt)), some (.int (zI way)), some (.int (zI (s7 18 (2 * b).toNat))), some (.int (zI (s7 18 ((2 * b) + 1).toNat))), some (.int (zI (s7 18 ((2 * b) + 1).toNat)))], [.int (zI jt), .ref 7182, .int (zI (s7 14 (s7 18 ((2 * b) + 1).toNat).toNat))], [r0, r1, r2, r3, r4, r5, r6, zH s7 zL7 0, r8, r9])) rfl ?_
          obtain ⟨g27, H⟩ := zgd H
          refine zB.iald oX12_stretch (g := 7) (p := 14) (N := 8) (i := jt) rfl rfl (by decide) rfl rfl (by decide) g27 ?_
          refine zB.opi oX12_stretch rfl (zi_sub (s7 14 (s7 18 ((2 * b) + 1).toNat).toNat) (s7 14 jt.toNat)) ?_
          refine xB.run oX12_stretch 1 (s := (86, [some (.ref 7168), some (.int (zI b)), some (.int (zI jt)), some (.int (zI way)), some (.int (zI (s7 18 (2 * b).toNat))), some (.int (zI (s7 18 ((2 * b) + 1).toNat))), some (.int (zI (s7 18 ((2 * b) + 1).toNat)))], [.int (zI ((s7 14 (s7 18 ((2 * b) + 1).toNat).toNat) - (s7 14 jt.toNat)))], [r0, r1, r2, r3, r4, r5, r6, zH s7 zL7 0, r8, r9])) rfl ?_
          obtain rfl := Option.some.inj H
          exact xB.ret oX12_stretch (r1 := some (.int (zI ((s7 14 (s7 18 ((2 * b) + 1).toNat).toNat) - (s7 14 jt.toNat))))) rfl rfl rfl
    · have H := H.2 h16
      refine xB.run oX12_stretch 1 (s := (35, [some (.ref 7168), some (.int (zI b)), some (.int (zI jt)), some (.int (zI way)), some (.int (zI (s7 18 (2 * b).toNat))), some (.int (zI (s7 18 ((2 * b) + 1).toNat))), none], [.int (zI 0)], [r0, r1, r2, r3, r4, r5, r6, zH s7 zL7 0, r8, r9])) rfl ?_
      obtain rfl := Option.some.inj H
      exact xB.ret oX12_stretch (r1 := some (.int (zI 0))) rfl rfl rfl
def d_X12_layNet_46 (but : Int) (j : Int) (way : Int) (row : Int) : Nat → Int → zZ → Option (Int × zZ)
  | 0, _, _ => none
  | uN + 1, b, s7 => if (zr b ∧ zr (s7 0 25)) then (if (s7 0 25) ≤ b then some (b, s7) else (if (0 ≤ b ∧ b < 16) then (if (zr (s7 20 b.toNat)) then (if (s7 20 b.toNat) ≠ 0 then (if (0 ≤ ((20 * row) + b) ∧ ((20 * row) + b) < 320) then (d_X12_layNet_46 but j way row uN (b + 1) (upz s7 22 ((20 * row) + b).toNat 0)) else none) else (if (zr b ∧ zr but) then (if b ≠ but then ((d_X12_stretch s7 b j way).bind fun y8 => if zr y8 then (if (0 ≤ ((20 * row) + b) ∧ ((20 * row) + b) < 320) then (d_X12_layNet_46 but j way row uN (b + 1) (upz s7 22 ((20 * row) + b).toNat y8)) else none) else none) else (if (0 ≤ ((20 * row) + b) ∧ ((20 * row) + b) < 320) then (d_X12_layNet_46 but j way row uN (b + 1) (upz s7 22 ((20 * row) + b).toNat 0)) else none)) else none)) else none) else none)) else none
def d_X12_layNet_26 (but : Int) (j : Int) : Nat → Int → zZ → Option (Int × zZ)
  | 0, _, _ => none
  | uN + 1, way, s7 => if (zr way) then (if (2 : Int) ≤ way then some (way, s7) else (if (0 ≤ j ∧ j < 8) then ((d_X12_layNet_46 but j way ((2 * (s7 16 j.toNat)) + way) zF 0 s7).bind fun y17 => if (0 ≤ ((2 * (s7 16 j.toNat)) + way) ∧ ((2 * (s7 16 j.toNat)) + way) < 8) then (if zr (-(y17.2 24 ((2 * (s7 16 j.toNat)) + way).toNat)) then (if (0 ≤ ((20 * ((2 * (s7 16 j.toNat)) + way)) + (y17.2 0 25)) ∧ ((20 * ((2 * (s7 16 j.toNat)) + way)) + (y17.2 0 25)) < 320) then (d_X12_layNet_26 but j uN (way + 1) (upz y17.2 22 ((20 * ((2 * (s7 16 j.toNat)) + way)) + (y17.2 0 25)).toNat (-(y17.2 24 ((2 * (s7 16 j.toNat)) + way).toNat)))) else none) else none) else none) else none)) else none
def d_X12_layNet_2 (but : Int) : Nat → Int → zZ → Option (Int × zZ)
  | 0, _, _ => none
  | uN + 1, j, s7 => if (zr j ∧ zr (s7 0 20)) then (if (s7 0 20) ≤ j then some (j, s7) else (if (0 ≤ j ∧ j < 8) then (if (zr (s7 16 j.toNat)) then (if (s7 16 j.toNat) ≠ (-9) then ((d_X12_layNet_26 but j zF 0 s7).bind fun y24 => d_X12_layNet_2 but uN (j + 1) y24.2) else (d_X12_layNet_2 but uN (j + 1) s7)) else none) else none)) else none
def d_X12_layNet (s7 : zZ) (but : Int) : Option (zZ) := (d_X12_layNet_2 but zF 0 s7).bind fun y29 => (d_X12_reduce y29.2 (2 * (y29.2 0 21)) (y29.2 0 25) ((y29.2 0 25) + 1)).bind fun y31 => some y31
set_option maxRecDepth 20000 in
theorem l_X12_layNet_46 (r0 : List va_E) (r1 : List va_E) (r2 : List va_E) (r3 : List va_E) (r4 : List va_E) (r5 : List va_E) (r6 : List va_E) (r8 : List va_E) (r9 : List va_E) (but : Int) (j : Int) (way : Int) (row : Int) {r : Option Value} {hp1 : xH} : ∀ (uN : Nat) (b : Int) (s7 : zZ) {uX : Int × zZ}, d_X12_layNet_46 but j way row uN b s7 = some uX → (xBody MX12_layNet 4 103 [some (.ref 7168), some (.int (zI but)), some (.int (zI j)), some (.int (zI way)), some (.int (zI row)), some (.int (zI uX.1))] [] ([r0, r1, r2, r3, r4, r5, r6, zH uX.2 zL7 0, r8, r9]) r hp1) → xBody MX12_layNet 4 46 [some (.ref 7168), some (.int (zI but)), some (.int (zI j)), some (.int (zI way)), some (.int (zI row)), some (.int (zI b))] [] ([r0, r1, r2, r3, r4, r5, r6, zH s7 zL7 0, r8, r9]) r hp1 := by
  intro uN
  induction uN with
  | zero => intro b s7 uX H K; cases H
  | succ uN ih =>
    intro b s7 uX H K
    unfold d_X12_layNet_46 at H
    refine xB.run oX12_layNet 3 (s := (52, [some (.ref 7168), some (.int (zI but)), some (.int (zI j)), some (.int (zI way)), some (.int (zI row)), some (.int (zI b))], [.int (zI (s7 0 25)), .int (zI b)], [r0, r1, r2, r3, r4, r5, r6, zH s7 zL7 0, r8, r9])) rfl ?_
    obtain ⟨g16, H⟩ := zgd H
    have H := zif H
    refine xB.brE oX12_layNet (P := (s7 0 25) ≤ b) rfl (zc_ge (a := b) (b := s7 0 25) g16) (fun h4 => ?_) (fun h4 => ?_)
    · have H := H.1 h4
      obtain rfl := Option.some.inj H
      exact K
    · have H := H.2 h4
      refine xB.run oX12_layNet 4 (s := (63, [some (.ref 7168), some (.int (zI but)), some (.int (zI j)), some (.int (zI way)), some (.int (zI row)), some (.int (zI b))], [.int (zI row), .int (zI 20), .ref 7190], [r0, r1, r2, r3, r4, r5, r6, zH s7 zL7 0, r8, r9])) rfl ?_
      refine zB.opi oX12_layNet rfl (zi_mul 20 row) ?_
      refine xB.run oX12_layNet 1 (s := (66, [some (.ref 7168), some (.int (zI but)), some (.int (zI j)), some (.int (zI way)), some (.int (zI row)), some (.int (zI b))], [.int (zI b), .int (zI (20 * row)), .ref 7190], [r0, r1, r2, r3, r4, r5, r6, zH s7 zL7 0, r8, r9])) rfl ?_
      refine zB.opi oX12_layNet rfl (zi_add (20 * row) b) ?_
      refine xB.run oX12_layNet 3 (s := (73, [some (.ref 7168), some (.int (zI but)), some (.int (zI j)), some (.int (zI way)), some (.int (zI row)), some (.int (zI b))], [.int (zI b), .ref 7188, .int (zI ((20 * row) + b)), .ref 7190], [r0, r1, r2, r3, r4, r5, r6, zH s7 zL7 0, r8, r9])) rfl ?_
      obtain ⟨g15, H⟩ := zgd H
      refine zB.bald oX12_layNet (g := 7) (p := 20) (N := 16) (i := b) rfl rfl (by decide) rfl rfl (by decide) g15 ?_
      obtain ⟨g14, H⟩ := zgd H
      have H := zif H
      refine xB.brE oX12_layNet (P := (s7 20 b.toNat) ≠ 0) rfl (zc_ne (a := s7 20 b.toNat) (b := 0) ⟨g14, by decide⟩) (fun h5 => ?_) (fun h5 => ?_)
      · have H := H.1 h5
        refine xB.run oX12_layNet 2 (s := (96, [some (.ref 7168), some (.int (zI but)), some (.int (zI j)), some (.int (zI way)), some (.int (zI row)), some (.int (zI b))], [.long (zJ 0), .int (zI ((20 * row) + b)), .ref 7190], [r0, r1, r2, r3, r4, r5, r6, zH s7 zL7 0, r8, r9])) rfl ?_
        obtain ⟨g6, H⟩ := zgd H
        refine zB.last oX12_layNet (g := 7) (p := 22) (N := 320) (i := (20 * row) + b) (hp1 := [r0, r1, r2, r3, r4, r5, r6, zH (upz s7 22 ((20 * row) + b).toNat 0) zL7 0, r8, r9]) rfl rfl (by decide) (by decide) rfl rfl (by decide) g6 rfl ?_
        refine zB.inc oX12_layNet rfl (lv2 := [some (.ref 7168), some (.int (zI but)), some (.int (zI j)), some (.int (zI way)), some (.int (zI row)), some (.int (zI (b + 1)))]) (zi_inc (a := 0) (zi_addp1 b) _ rfl) ?_
        refine xB.run oX12_layNet 1 (s := (46, [some (.ref 7168), some (.int (zI but)), some (.int (zI j)), some (.int (zI way)), some (.int (zI row)), some (.int (zI (b + 1)))], [], [r0, r1, r2, r3, r4, r5, r6, zH (upz s7 22 ((20 * row) + b).toNat 0) zL7 0, r8, r9])) rfl ?_
        exact ih (b + 1) (upz s7 22 ((20 * row) + b).toNat 0) H K
      · have H := H.2 h5
        refine xB.run oX12_layNet 2 (s := (80, [some (.ref 7168), some (.int (zI but)), some (.int (zI j)), some (.int (zI way)), some (.int (zI row)), some (.int (zI b))], [.int (zI but), .int (zI b), .int (zI ((20 * row) + b)), .ref 7190], [r0, r1, r2, r3, r4, r5, r6, zH s7 zL7 0, r8, r9])) rfl ?_
        obtain ⟨g13, H⟩ := zgd H
        have H := zif H
        refine xB.brE oX12_layNet (P := b ≠ but) rfl (zc_ne (a := b) (b := but) g13) (fun h7 => ?_) (fun h7 => ?_)
        · have H := H.1 h7
          refine xB.run oX12_layNet 4 (s := (92, [some (.ref 7168), some (.int (zI but)), some (.int (zI j)), some (.int (zI way)), some (.int (zI row)), some (.int (zI b))], [.int (zI way), .int (zI j), .int (zI b), .ref 7168, .int (zI ((20 * row) + b)), .ref 7190], [r0, r1, r2, r3, r4, r5, r6, zH s7 zL7 0, r8, r9])) rfl ?_
          obtain ⟨y8, e9, H⟩ := zbd H
          refine xB.call oX12_layNet (M2 := MX12_stretch) rfl rfl ((t_X12_stretch r0 r1 r2 r3 r4 r5 r6 s7 r8 r9 b j way e9).deep (by decide : 0 ≤ 3)) ?_
          show xBody MX12_layNet 4 95 [some (.ref 7168), some (.int (zI but)), some (.int (zI j)), some (.int (zI way)), some (.int (zI row)), some (.int (zI b))] [.int (zI y8), .int (zI ((20 * row) + b)), .ref 7190] ([r0, r1, r2, r3, r4, r5, r6, zH s7 zL7 0, r8, r9]) _ _
          obtain ⟨g11, H⟩ := zgd H
          refine zB.opl oX12_layNet rfl (zi_i2l g11) ?_
          obtain ⟨g10, H⟩ := zgd H
          refine zB.last oX12_layNet (g := 7) (p := 22) (N := 320) (i := (20 * row) + b) (hp1 := [r0, r1, r2, r3, r4, r5, r6, zH (upz s7 22 ((20 * row) + b).toNat y8) zL7 0, r8, r9]) rfl rfl (by decide) (by decide) rfl rfl (by decide) g10 rfl ?_
          refine zB.inc oX12_layNet rfl (lv2 := [some (.ref 7168), some (.int (zI but)), some (.int (zI j)), some (.int (zI way)), some (.int (zI row)), some (.int (zI (b + 1)))]) (zi_inc (a := 0) (zi_addp1 b) _ rfl) ?_
          refine xB.run oX12_layNet 1 (s := (46, [some (.ref 7168), some (.int (zI but)), some (.int (zI j)), some (.int (zI way)), some (.int (zI row)), some (.int (zI (b + 1)))], [], [r0, r1, r2, r3, r4, r5, r6, zH (upz s7 22 ((20 * row) + b).toNat y8) zL7 0, r8, r9])) rfl ?_
          exact ih (b + 1) (upz s7 22 ((20 * row) + b).toNat y8) H K
        · have H := H.2 h7
          refine xB.run oX12_layNet 2 (s := (96, [some (.ref 7168), some (.int (zI but)), some (.int (zI j)), some (.int (zI way)), some (.int (zI row)), some (.int (zI b))], [.long (zJ 0), .int (zI ((20 * row) + b)), .ref 7190], [r0, r1, r2, r3, r4, r5, r6, zH s7 zL7 0, r8, r9])) rfl ?_
          obtain ⟨g12, H⟩ := zgd H
          refine zB.last oX12_layNet (g := 7) (p := 22) (N := 320) (i := (20 * row) + b) (hp1 := [r0, r1, r2, r3, r4, r5, r6, zH (upz s7 22 ((20 * row) + b).toNat 0) zL7 0, r8, r9]) rfl rfl (by decide) (by decide) rfl rfl (by decide) g12 rfl ?_
          refine zB.inc oX12_layNet rfl (lv2 := [some (.ref 7168), some (.int (zI but)), some (.int (zI j)), some (.int (zI way)), some (.int (zI row)), some (.int (zI (b + 1)))]) (zi_inc (a := 0) (zi_addp1 b) _ rfl) ?_
          refine xB.run oX12_layNet 1 (s := (46, [some (.ref 7168), some (.int (zI but)), some (.int (zI j)), some (.int (zI way)), some (.int (zI row)), some (.int (zI (b + 1)))], [], [r0, r1, r2, r3, r4, r5, r6, zH (upz s7 22 ((20 * row) + b).toNat 0) zL7 0, r8, r9])) rfl ?_
          exact ih (b + 1) (upz s7 22 ((20 * row) + b).toNat 0) H K
set_option maxRecDepth 20000 in
theorem l_X12_layNet_26 (r0 : List va_E) (r1 : List va_E) (r2 : List va_E) (r3 : List va_E) (r4 : List va_E) (r5 : List va_E) (r6 : List va_E) (r8 : List va_E) (r9 : List va_E) (but : Int) (j : Int) {r : Option Value} {hp1 : xH} : ∀ (uN : Nat) (way : Int) (s7 : zZ) {uX : Int × zZ}, d_X12_layNet_26 but j uN way s7 = some uX → (xBody MX12_layNet 4 133 [some (.ref 7168), some (.int (zI but)), some (.int (zI j)), some (.int (zI uX.1)), none, none] [] ([r0, r1, r2, r3, r4, r5, r6, zH uX.2 zL7 0, r8, r9]) r hp1) → xBody MX12_layNet 4 26 [some (.ref 7168), some (.int (zI but)), some (.int (zI j)), some (.int (zI way)), none, none] [] ([r0, r1, r2, r3, r4, r5, r6, zH s7 zL7 0, r8, r9]) r hp1 := by
  intro uN
  induction uN with
  | zero => intro way s7 uX H K; cases H
  | succ uN ih =>
    intro way s7 uX H K
    unfold d_X12_layNet_26 at H
    refine xB.run oX12_layNet 2 (s := (28, [some (.ref 7168), some (.int (zI but)), some (.int (zI j)), some (.int (zI way)), none, none], [.int (zI 2), .int (zI way)], [r0, r1, r2, r3, r4, r5, r6, zH s7 zL7 0, r8, r9])) rfl ?_
    obtain ⟨g23, H⟩ := zgd H
    have H := zif H
    refine xB.brE oX12_layNet (P := (2 : Int) ≤ way) rfl (zc_ge (a := way) (b := 2) ⟨g23, by decide⟩) (fun h3 => ?_) (fun h3 => ?_)
    · have H := H.1 h3
      obtain rfl := Option.some.inj H
      exact K
    · have H := H.2 h3
      refine xB.run oX12_layNet 4 (s := (37, [some (.ref 7168), some (.int (zI but)), some (.int (zI j)), some (.int (zI way)), none, none], [.int (zI j), .ref 7184, .int (zI 2)], [r0, r1, r2, r3, r4, r5, r6, zH s7 zL7 0, r8, r9])) rfl ?_
      obtain ⟨g22, H⟩ := zgd H
      refine zB.iald oX12_layNet (g := 7) (p := 16) (N := 8) (i := j) rfl rfl (by decide) rfl rfl (by decide) g22 ?_
      refine zB.opi oX12_layNet rfl (zi_mul 2 (s7 16 j.toNat)) ?_
      refine xB.run oX12_layNet 1 (s := (40, [some (.ref 7168), some (.int (zI but)), some (.int (zI j)), some (.int (zI way)), none, none], [.int (zI way), .int (zI (2 * (s7 16 j.toNat)))], [r0, r1, r2, r3, r4, r5, r6, zH s7 zL7 0, r8, r9])) rfl ?_
      refine zB.opi oX12_layNet rfl (zi_add (2 * (s7 16 j.toNat)) way) ?_
      refine xB.run oX12_layNet 3 (s := (46, [some (.ref 7168), some (.int (zI but)), some (.int (zI j)), some (.int (zI way)), some (.int (zI ((2 * (s7 16 j.toNat)) + way))), some (.int (zI 0))], [], [r0, r1, r2, r3, r4, r5, r6, zH s7 zL7 0, r8, r9])) rfl ?_
      obtain ⟨y17, e18, H⟩ := zbd H
      refine l_X12_layNet_46 r0 r1 r2 r3 r4 r5 r6 r8 r9 but j way ((2 * (s7 16 j.toNat)) + way) _ 0 s7 e18 ?_
      refine xB.run oX12_layNet 4 (s := (111, [some (.ref 7168), some (.int (zI but)), some (.int (zI j)), some (.int (zI way)), some (.int (zI ((2 * (s7 16 j.toNat)) + way))), some (.int (zI y17.1))], [.int (zI ((2 * (s7 16 j.toNat)) + way)), .int (zI 20), .ref 7190], [r0, r1, r2, r3, r4, r5, r6, zH y17.2 zL7 0, r8, r9])) rfl ?_
      refine zB.opi oX12_layNet rfl (zi_mul 20 ((2 * (s7 16 j.toNat)) + way)) ?_
      refine xB.run oX12_layNet 2 (s := (116, [some (.ref 7168), some (.int (zI but)), some (.int (zI j)), some (.int (zI way)), some (.int (zI ((2 * (s7 16 j.toNat)) + way))), some (.int (zI y17.1))], [.int (zI (y17.2 0 25)), .int (zI (20 * ((2 * (s7 16 j.toNat)) + way))), .ref 7190], [r0, r1, r2, r3, r4, r5, r6, zH y17.2 zL7 0, r8, r9])) rfl ?_
      refine zB.opi oX12_layNet rfl (zi_add (20 * ((2 * (s7 16 j.toNat)) + way)) (y17.2 0 25)) ?_
      refine xB.run oX12_layNet 3 (s := (123, [some (.ref 7168), some (.int (zI but)), some (.int (zI j)), some (.int (zI way)), some (.int (zI ((2 * (s7 16 j.toNat)) + way))), some (.int (zI y17.1))], [.int (zI ((2 * (s7 16 j.toNat)) + way)), .ref 7192, .int (zI ((20 * ((2 * (s7 16 j.toNat)) + way)) + (y17.2 0 25))), .ref 7190], [r0, r1, r2, r3, r4, r5, r6, zH y17.2 zL7 0, r8, r9])) rfl ?_
      obtain ⟨g21, H⟩ := zgd H
      refine zB.iald oX12_layNet (g := 7) (p := 24) (N := 8) (i := (2 * (s7 16 j.toNat)) + way) rfl rfl (by decide) rfl rfl (by decide) g21 ?_
      refine zB.opi oX12_layNet rfl (zi_neg (y17.2 24 ((2 * (s7 16 j.toNat)) + way).toNat)) ?_
      obtain ⟨g20, H⟩ := zgd H
      refine zB.opl oX12_layNet rfl (zi_i2l g20) ?_
      obtain ⟨g19, H⟩ := zgd H
      refine zB.last oX12_layNet (g := 7) (p := 22) (N := 320) (i := (20 * ((2 * (s7 16 j.toNat)) + way)) + (y17.2 0 25)) (hp1 := [r0, r1, r2, r3, r4, r5, r6, zH (upz y17.2 22 ((20 * ((2 * (s7 16 j.toNat)) + way)) + (y17.2 0 25)).toNat (-(y17.2 24 ((2 * (s7 16 j.toNat)) + way).toNat))) zL7 0, r8, r9]) rfl rfl (by decide) (by decide) rfl rfl (by decide) g19 rfl ?_
      refine zB.inc oX12_layNet rfl (lv2 := [some (.ref 7168), some (.int (zI but)), some (.int (zI j)), some (.int (zI (way + 1))), some (.int (zI ((2 * (s7 16 j.toNat)) + way))), some (.int (zI y17.1))]) (zi_inc (a := 0) (zi_addp1 way) _ rfl) ?_
      refine xB.run oX12_layNet 1 (s := (26, [some (.ref 7168), some (.int (zI but)), some (.int (zI j)), some (.int (zI (way + 1))), some (.int (zI ((2 * (s7 16 j.toNat)) + way))), some (.int (zI y17.1))], [], [r0, r1, r2, r3, r4, r5, r6, zH (upz y17.2 22 ((20 * ((2 * (s7 16 j.toNat)) + way)) + (y17.2 0 25)).toNat (-(y17.2 24 ((2 * (s7 16 j.toNat)) + way).toNat))) zL7 0, r8, r9])) rfl ?_
      refine xB.forget (lv1 := [some (.ref 7168), some (.int (zI but)), some (.int (zI j)), some (.int (zI (way + 1))), none, none]) (xle_same (xle_same (xle_same (xle_same (xle_none (xle_none (xle_nil))))))) ?_
      exact ih (way + 1) (upz y17.2 22 ((20 * ((2 * (s7 16 j.toNat)) + way)) + (y17.2 0 25)).toNat (-(y17.2 24 ((2 * (s7 16 j.toNat)) + way).toNat))) H K
set_option maxRecDepth 20000 in
theorem l_X12_layNet_2 (r0 : List va_E) (r1 : List va_E) (r2 : List va_E) (r3 : List va_E) (r4 : List va_E) (r5 : List va_E) (r6 : List va_E) (r8 : List va_E) (r9 : List va_E) (but : Int) {r : Option Value} {hp1 : xH} : ∀ (uN : Nat) (j : Int) (s7 : zZ) {uX : Int × zZ}, d_X12_layNet_2 but uN j s7 = some uX → (xBody MX12_layNet 4 139 [some (.ref 7168), some (.int (zI but)), some (.int (zI uX.1)), none, none, none] [] ([r0, r1, r2, r3, r4, r5, r6, zH uX.2 zL7 0, r8, r9]) r hp1) → xBody MX12_layNet 4 2 [some (.ref 7168), some (.int (zI but)), some (.int (zI j)), none, none, none] [] ([r0, r1, r2, r3, r4, r5, r6, zH s7 zL7 0, r8, r9]) r hp1 := by
  intro uN
  induction uN with
  | zero => intro j s7 uX H K; cases H
  | succ uN ih =>
    intro j s7 uX H K
    unfold d_X12_layNet_2 at H
    refine xB.run oX12_layNet 3 (s := (7, [some (.ref 7168), some (.int (zI but)), some (.int (zI j)), none, none, none], [.int (zI (s7 0 20)), .int (zI j)], [r0, r1, r2, r3, r4, r5, r6, zH s7 zL7 0, r8, r9])) rfl ?_
    obtain ⟨g28, H⟩ := zgd H
    have H := zif H
    refine xB.brE oX12_layNet (P := (s7 0 20) ≤ j) rfl (zc_ge (a := j) (b := s7 0 20) g28) (fun h1 => ?_) (fun h1 => ?_)
    · have H := H.1 h1
      obtain rfl := Option.some.inj H
      exact K
    · have H := H.2 h1
      refine xB.run oX12_layNet 3 (s := (15, [some (.ref 7168), some (.int (zI but)), some (.int (zI j)), none, none, none], [.int (zI j), .ref 7184], [r0, r1, r2, r3, r4, r5, r6, zH s7 zL7 0, r8, r9])) rfl ?_
      obtain ⟨g27, H⟩ := zgd H
      refine zB.iald oX12_layNet (g := 7) (p := 16) (N := 8) (i := j) rfl rfl (by decide) rfl rfl (by decide) g27 ?_
      refine xB.run oX12_layNet 1 (s := (18, [some (.ref 7168), some (.int (zI but)), some (.int (zI j)), none, none, none], [.int (zI (-9)), .int (zI (s7 16 j.toNat))], [r0, r1, r2, r3, r4, r5, r6, zH s7 zL7 0, r8, r9])) rfl ?_
      obtain ⟨g26, H⟩ := zgd H
      have H := zif H
      refine xB.brE oX12_layNet (P := (s7 16 j.toNat) ≠ (-9)) rfl (zc_ne (a := s7 16 j.toNat) (b := (-9)) ⟨g26, by decide⟩) (fun h2 => ?_) (fun h2 => ?_)
      · have H := H.1 h2
        refine xB.run oX12_layNet 2 (s := (26, [some (.ref 7168), some (.int (zI but)), some (.int (zI j)), some (.int (zI 0)), none, none], [], [r0, r1, r2, r3, r4, r5, r6, zH s7 zL7 0, r8, r9])) rfl ?_
        obtain ⟨y24, e25, H⟩ := zbd H
        refine l_X12_layNet_26 r0 r1 r2 r3 r4 r5 r6 r8 r9 but j _ 0 s7 e25 ?_
        refine zB.inc oX12_layNet rfl (lv2 := [some (.ref 7168), some (.int (zI but)), some (.int (zI (j + 1))), some (.int (zI y24.1)), none, none]) (zi_inc (a := 0) (zi_addp1 j) _ rfl) ?_
        refine xB.run oX12_layNet 1 (s := (2, [some (.ref 7168), some (.int (zI but)), some (.int (zI (j + 1))), some (.int (zI y24.1)), none, none], [], [r0, r1, r2, r3, r4, r5, r6, zH y24.2 zL7 0, r8, r9])) rfl ?_
        refine xB.forget (lv1 := [some (.ref 7168), some (.int (zI but)), some (.int (zI (j + 1))), none, none, none]) (xle_same (xle_same (xle_same (xle_none (xle_same (xle_same (xle_nil))))))) ?_
        exact ih (j + 1) y24.2 H K
      · have H := H.2 h2
        refine xB.run oX12_layNet 1 (s := (133, [some (.ref 7168), some (.int (zI but)), some (.int (zI j)), none, none, none], [], [r0, r1, r2, r3, r4, r5, r6, zH s7 zL7 0, r8, r9])) rfl ?_
        refine zB.inc oX12_layNet rfl (lv2 := [some (.ref 7168), some (.int (zI but)), some (.int (zI (j + 1))), none, none, none]) (zi_inc (a := 0) (zi_addp1 j) _ rfl) ?_
        refine xB.run oX12_layNet 1 (s := (2, [some (.ref 7168), some (.int (zI but)), some (.int (zI (j + 1))), none, none, none], [], [r0, r1, r2, r3, r4, r5, r6, zH s7 zL7 0, r8, r9])) rfl ?_
        exact ih (j + 1) s7 H K
set_option maxRecDepth 20000 in
theorem t_X12_layNet (r0 : List va_E) (r1 : List va_E) (r2 : List va_E) (r3 : List va_E) (r4 : List va_E) (r5 : List va_E) (r6 : List va_E) (s7 : zZ) (r8 : List va_E) (r9 : List va_E) (but : Int) {rr : zZ} (H : d_X12_layNet s7 but = some rr) : xC MX12_layNet 4 [.ref 7168, .int (zI but)] ([r0, r1, r2, r3, r4, r5, r6, zH s7 zL7 0, r8, r9]) (none) ([r0, r1, r2, r3, r4, r5, r6, zH rr zL7 0, r8, r9]) := by
  refine ⟨Nat.le_of_ble_eq_true rfl, ?_⟩
  show xBody MX12_layNet 4 0 [some (.ref 7168), some (.int (zI but)), none, none, none, none] [] ([r0, r1, r2, r3, r4, r5, r6, zH s7 zL7 0, r8, r9]) _ _
  unfold d_X12_layNet at H
  refine xB.run oX12_layNet 2 (s := (2, [some (.ref 7168), some (.int (zI but)), some (.int (zI 0)), none, none, none], [], [r0, r1, r2, r3, r4, r5, r6, zH s7 zL7 0, r8, r9])) rfl ?_
  obtain ⟨y29, e30, H⟩ := zbd H
  refine l_X12_layNet_2 r0 r1 r2 r3 r4 r5 r6 r8 r9 but _ 0 s7 e30 ?_
  refine xB.run oX12_layNet 4 (s := (145, [some (.ref 7168), some (.int (zI but)), some (.int (zI y29.1)), none, none, none], [.int (zI (y29.2 0 21)), .int (zI 2), .ref 7168], [r0, r1, r2, r3, r4, r5, r6, zH y29.2 zL7 0, r8, r9])) rfl ?_
  refine zB.opi oX12_layNet rfl (zi_mul 2 (y29.2 0 21)) ?_
  refine xB.run oX12_layNet 5 (s := (155, [some (.ref 7168), some (.int (zI but)), some (.int (zI y29.1)), none, none, none], [.int (zI 1), .int (zI (y29.2 0 25)), .int (zI (y29.2 0 25)), .int (zI (2 * (y29.2 0 21))), .ref 7168], [r0, r1, r2, r3, r4, r5, r6, zH y29.2 zL7 0, r8, r9])) rfl ?_
  refine zB.opi oX12_layNet rfl (zi_add (y29.2 0 25) 1) ?_
  obtain ⟨y31, e32, H⟩ := zbd H
  refine xB.call oX12_layNet (M2 := MX12_reduce) rfl rfl ((t_X12_reduce r0 r1 r2 r3 r4 r5 r6 y29.2 r8 r9 (2 * (y29.2 0 21)) (y29.2 0 25) ((y29.2 0 25) + 1) e32).deep (by decide : 3 ≤ 3)) ?_
  show xBody MX12_layNet 4 159 [some (.ref 7168), some (.int (zI but)), some (.int (zI y29.1)), none, none, none] [] ([r0, r1, r2, r3, r4, r5, r6, zH y31 zL7 0, r8, r9]) _ _
  obtain rfl := Option.some.inj H
  exact xB.ret oX12_layNet (r1 := none) rfl rfl rfl
def d_X12_manyBars_4 (s7 : zZ) : Nat → Int → Int → Option (Int × Int)
  | 0, _, _ => none
  | uN + 1, cn, b => if (zr b ∧ zr (s7 0 25)) then (if (s7 0 25) ≤ b then some (cn, b) else (if (0 ≤ b ∧ b < 16) then (if (zr (s7 20 b.toNat)) then (if (s7 20 b.toNat) = 0 then (d_X12_manyBars_4 s7 uN (cn + 1) (b + 1)) else (d_X12_manyBars_4 s7 uN (cn + 0) (b + 1))) else none) else none)) else none
def d_X12_manyBars (s7 : zZ) : Option (Int) := (d_X12_manyBars_4 s7 zF 0 0).bind fun y6 => some y6.1
set_option maxRecDepth 20000 in
theorem l_X12_manyBars_4 (r0 : List va_E) (r1 : List va_E) (r2 : List va_E) (r3 : List va_E) (r4 : List va_E) (r5 : List va_E) (r6 : List va_E) (s7 : zZ) (r8 : List va_E) (r9 : List va_E) {r : Option Value} {hp1 : xH} : ∀ (uN : Nat) (cn : Int) (b : Int) {uX : Int × Int}, d_X12_manyBars_4 s7 uN cn b = some uX → (xBody MX12_manyBars 0 35 [some (.ref 7168), some (.int (zI uX.1)), some (.int (zI uX.2))] [] ([r0, r1, r2, r3, r4, r5, r6, zH s7 zL7 0, r8, r9]) r hp1) → xBody MX12_manyBars 0 4 [some (.ref 7168), some (.int (zI cn)), some (.int (zI b))] [] ([r0, r1, r2, r3, r4, r5, r6, zH s7 zL7 0, r8, r9]) r hp1 := by
  intro uN
  induction uN with
  | zero => intro cn b uX H K; cases H
  | succ uN ih =>
    intro cn b uX H K
    unfold d_X12_manyBars_4 at H
    refine xB.run oX12_manyBars 3 (s := (9, [some (.ref 7168), some (.int (zI cn)), some (.int (zI b))], [.int (zI (s7 0 25)), .int (zI b)], [r0, r1, r2, r3, r4, r5, r6, zH s7 zL7 0, r8, r9])) rfl ?_
    obtain ⟨g5, H⟩ := zgd H
    have H := zif H
    refine xB.brE oX12_manyBars (P := (s7 0 25) ≤ b) rfl (zc_ge (a := b) (b := s7 0 25) g5) (fun h1 => ?_) (fun h1 => ?_)
    · have H := H.1 h1
      obtain rfl := Option.some.inj H
      exact K
    · have H := H.2 h1
      refine xB.run oX12_manyBars 4 (s := (18, [some (.ref 7168), some (.int (zI cn)), some (.int (zI b))], [.int (zI b), .ref 7188, .int (zI cn)], [r0, r1, r2, r3, r4, r5, r6, zH s7 zL7 0, r8, r9])) rfl ?_
      obtain ⟨g4, H⟩ := zgd H
      refine zB.bald oX12_manyBars (g := 7) (p := 20) (N := 16) (i := b) rfl rfl (by decide) rfl rfl (by decide) g4 ?_
      obtain ⟨g3, H⟩ := zgd H
      have H := zif H
      refine xB.brE oX12_manyBars (P := (s7 20 b.toNat) = 0) rfl (zc_eq (a := s7 20 b.toNat) (b := 0) ⟨g3, by decide⟩) (fun h2 => ?_) (fun h2 => ?_)
      · have H := H.1 h2
        refine xB.run oX12_manyBars 1 (s := (27, [some (.ref 7168), some (.int (zI cn)), some (.int (zI b))], [.int (zI 1), .int (zI cn)], [r0, r1, r2, r3, r4, r5, r6, zH s7 zL7 0, r8, r9])) rfl ?_
        refine zB.opi oX12_manyBars rfl (zi_add cn 1) ?_
        refine xB.run oX12_manyBars 1 (s := (29, [some (.ref 7168), some (.int (zI (cn + 1))), some (.int (zI b))], [], [r0, r1, r2, r3, r4, r5, r6, zH s7 zL7 0, r8, r9])) rfl ?_
        refine zB.inc oX12_manyBars rfl (lv2 := [some (.ref 7168), some (.int (zI (cn + 1))), some (.int (zI (b + 1)))]) (zi_inc (a := 0) (zi_addp1 b) _ rfl) ?_
        refine xB.run oX12_manyBars 1 (s := (4, [some (.ref 7168), some (.int (zI (cn + 1))), some (.int (zI (b + 1)))], [], [r0, r1, r2, r3, r4, r5, r6, zH s7 zL7 0, r8, r9])) rfl ?_
        exact ih (cn + 1) (b + 1) H K
      · have H := H.2 h2
        refine xB.run oX12_manyBars 2 (s := (27, [some (.ref 7168), some (.int (zI cn)), some (.int (zI b))], [.int (zI 0), .int (zI cn)], [r0, r1, r2, r3, r4, r5, r6, zH s7 zL7 0, r8, r9])) rfl ?_
        refine zB.opi oX12_manyBars rfl (zi_add cn 0) ?_
        refine xB.run oX12_manyBars 1 (s := (29, [some (.ref 7168), some (.int (zI (cn + 0))), some (.int (zI b))], [], [r0, r1, r2, r3, r4, r5, r6, zH s7 zL7 0, r8, r9])) rfl ?_
        refine zB.inc oX12_manyBars rfl (lv2 := [some (.ref 7168), some (.int (zI (cn + 0))), some (.int (zI (b + 1)))]) (zi_inc (a := 0) (zi_addp1 b) _ rfl) ?_
        refine xB.run oX12_manyBars 1 (s := (4, [some (.ref 7168), some (.int (zI (cn + 0))), some (.int (zI (b + 1)))], [], [r0, r1, r2, r3, r4, r5, r6, zH s7 zL7 0, r8, r9])) rfl ?_
        exact ih (cn + 0) (b + 1) H K
set_option maxRecDepth 20000 in
theorem t_X12_manyBars (r0 : List va_E) (r1 : List va_E) (r2 : List va_E) (r3 : List va_E) (r4 : List va_E) (r5 : List va_E) (r6 : List va_E) (s7 : zZ) (r8 : List va_E) (r9 : List va_E) {rr : Int} (H : d_X12_manyBars s7 = some rr) : xC MX12_manyBars 0 [.ref 7168] ([r0, r1, r2, r3, r4, r5, r6, zH s7 zL7 0, r8, r9]) (some (.int (zI rr))) ([r0, r1, r2, r3, r4, r5, r6, zH s7 zL7 0, r8, r9]) := by
  refine ⟨Nat.le_of_ble_eq_true rfl, ?_⟩
  show xBody MX12_manyBars 0 0 [some (.ref 7168), none, none] [] ([r0, r1, r2, r3, r4, r5, r6, zH s7 zL7 0, r8, r9]) _ _
  unfold d_X12_manyBars at H
  refine xB.run oX12_manyBars 4 (s := (4, [some (.ref 7168), some (.int (zI 0)), some (.int (zI 0))], [], [r0, r1, r2, r3, r4, r5, r6, zH s7 zL7 0, r8, r9])) rfl ?_
  obtain ⟨y6, e7, H⟩ := zbd H
  refine l_X12_manyBars_4 r0 r1 r2 r3 r4 r5 r6 s7 r8 r9  _ 0 0 e7 ?_
  refine xB.run oX12_manyBars 1 (s := (36, [some (.ref 7168), some (.int (zI y6.1)), some (.int (zI y6.2))], [.int (zI y6.1)], [r0, r1, r2, r3, r4, r5, r6, zH s7 zL7 0, r8, r9])) rfl ?_
  obtain rfl := Option.some.inj H
  exact xB.ret oX12_manyBars (r1 := some (.int (zI y6.1))) rfl rfl rfl
def d_X12_carry_17 (set : Int) (k : Int) : Nat → Int → zZ → Option (Int × zZ)
  | 0, _, _ => none
  | uN + 1, c, s7 => if (zr c) then (if (6 : Int) ≤ c then some (c, s7) else (if (0 ≤ k ∧ k < 8) then (if (zr set ∧ (0 ≤ c ∧ c < 32)) then (if (zr ((set / (2 : Int) ^ c.toNat) % 2)) then (if ((set / (2 : Int) ^ c.toNat) % 2) ≠ 1 then (if (0 ≤ k ∧ k < 8) then (d_X12_carry_17 set k uN (c + 1) (upz s7 24 k.toNat ((s7 24 k.toNat) + 0))) else none) else (if (0 ≤ ((8 * c) + k) ∧ ((8 * c) + k) < 48) then (if (0 ≤ k ∧ k < 8) then (d_X12_carry_17 set k uN (c + 1) (upz s7 24 k.toNat ((s7 24 k.toNat) + (s7 21 ((8 * c) + k).toNat)))) else none) else none)) else none) else none) else none)) else none
def d_X12_carry_2 (set : Int) : Nat → Int → zZ → Option (Int × zZ)
  | 0, _, _ => none
  | uN + 1, k, s7 => if (zr k) then (if (8 : Int) ≤ k then some (k, s7) else (if (0 ≤ k ∧ k < 8) then ((d_X12_carry_17 set k zF 0 (upz s7 24 k.toNat 0)).bind fun y11 => d_X12_carry_2 set uN (k + 1) y11.2) else none)) else none
def d_X12_carry (s7 : zZ) (set : Int) : Option (zZ) := (d_X12_carry_2 set zF 0 s7).bind fun y15 => some y15.2
set_option maxRecDepth 20000 in
theorem l_X12_carry_17 (r0 : List va_E) (r1 : List va_E) (r2 : List va_E) (r3 : List va_E) (r4 : List va_E) (r5 : List va_E) (r6 : List va_E) (r8 : List va_E) (r9 : List va_E) (set : Int) (k : Int) {r : Option Value} {hp1 : xH} : ∀ (uN : Nat) (c : Int) (s7 : zZ) {uX : Int × zZ}, d_X12_carry_17 set k uN c s7 = some uX → (xBody MX12_carry 0 62 [some (.ref 7168), some (.int (zI set)), some (.int (zI k)), some (.int (zI uX.1))] [] ([r0, r1, r2, r3, r4, r5, r6, zH uX.2 zL7 0, r8, r9]) r hp1) → xBody MX12_carry 0 17 [some (.ref 7168), some (.int (zI set)), some (.int (zI k)), some (.int (zI c))] [] ([r0, r1, r2, r3, r4, r5, r6, zH s7 zL7 0, r8, r9]) r hp1 := by
  intro uN
  induction uN with
  | zero => intro c s7 uX H K; cases H
  | succ uN ih =>
    intro c s7 uX H K
    unfold d_X12_carry_17 at H
    refine xB.run oX12_carry 2 (s := (20, [some (.ref 7168), some (.int (zI set)), some (.int (zI k)), some (.int (zI c))], [.int (zI 6), .int (zI c)], [r0, r1, r2, r3, r4, r5, r6, zH s7 zL7 0, r8, r9])) rfl ?_
    obtain ⟨g10, H⟩ := zgd H
    have H := zif H
    refine xB.brE oX12_carry (P := (6 : Int) ≤ c) rfl (zc_ge (a := c) (b := 6) ⟨g10, by decide⟩) (fun h2 => ?_) (fun h2 => ?_)
    · have H := H.1 h2
      obtain rfl := Option.some.inj H
      exact K
    · have H := H.2 h2
      refine xB.run oX12_carry 4 (s := (29, [some (.ref 7168), some (.int (zI set)), some (.int (zI k)), some (.int (zI c))], [.int (zI k), .ref 7192, .int (zI k), .ref 7192], [r0, r1, r2, r3, r4, r5, r6, zH s7 zL7 0, r8, r9])) rfl ?_
      obtain ⟨g9, H⟩ := zgd H
      refine zB.iald oX12_carry (g := 7) (p := 24) (N := 8) (i := k) rfl rfl (by decide) rfl rfl (by decide) g9 ?_
      refine xB.run oX12_carry 2 (s := (32, [some (.ref 7168), some (.int (zI set)), some (.int (zI k)), some (.int (zI c))], [.int (zI c), .int (zI set), .int (zI (s7 24 k.toNat)), .int (zI k), .ref 7192], [r0, r1, r2, r3, r4, r5, r6, zH s7 zL7 0, r8, r9])) rfl ?_
      obtain ⟨g8, H⟩ := zgd H
      refine zB.opi oX12_carry rfl (zi_shr (c := c) g8.1 g8.2) ?_
      refine xB.run oX12_carry 1 (s := (34, [some (.ref 7168), some (.int (zI set)), some (.int (zI k)), some (.int (zI c))], [.int (zI 1), .int (zI (set / (2 : Int) ^ c.toNat)), .int (zI (s7 24 k.toNat)), .int (zI k), .ref 7192], [r0, r1, r2, r3, r4, r5, r6, zH s7 zL7 0, r8, r9])) rfl ?_
      refine zB.opi oX12_carry rfl (zi_and1 (set / (2 : Int) ^ c.toNat)) ?_
      refine xB.run oX12_carry 1 (s := (36, [some (.ref 7168), some (.int (zI set)), some (.int (zI k)), some (.int (zI c))], [.int (zI 1), .int (zI ((set / (2 : Int) ^ c.toNat) % 2)), .int (zI (s7 24 k.toNat)), .int (zI k), .ref 7192], [r0, r1, r2, r3, r4, r5, r6, zH s7 zL7 0, r8, r9])) rfl ?_
      obtain ⟨g7, H⟩ := zgd H
      have H := zif H
      refine xB.brE oX12_carry (P := ((set / (2 : Int) ^ c.toNat) % 2) ≠ 1) rfl (zc_ne (a := (set / (2 : Int) ^ c.toNat) % 2) (b := 1) ⟨g7, by decide⟩) (fun h3 => ?_) (fun h3 => ?_)
      · have H := H.1 h3
        refine xB.run oX12_carry 1 (s := (54, [some (.ref 7168), some (.int (zI set)), some (.int (zI k)), some (.int (zI c))], [.int (zI 0), .int (zI (s7 24 k.toNat)), .int (zI k), .ref 7192], [r0, r1, r2, r3, r4, r5, r6, zH s7 zL7 0, r8, r9])) rfl ?_
        refine zB.opi oX12_carry rfl (zi_add (s7 24 k.toNat) 0) ?_
        obtain ⟨g4, H⟩ := zgd H
        refine zB.iast oX12_carry (g := 7) (p := 24) (N := 8) (i := k) (hp1 := [r0, r1, r2, r3, r4, r5, r6, zH (upz s7 24 k.toNat ((s7 24 k.toNat) + 0)) zL7 0, r8, r9]) rfl rfl (by decide) (by decide) rfl rfl (by decide) g4 rfl ?_
        refine zB.inc oX12_carry rfl (lv2 := [some (.ref 7168), some (.int (zI set)), some (.int (zI k)), some (.int (zI (c + 1)))]) (zi_inc (a := 0) (zi_addp1 c) _ rfl) ?_
        refine xB.run oX12_carry 1 (s := (17, [some (.ref 7168), some (.int (zI set)), some (.int (zI k)), some (.int (zI (c + 1)))], [], [r0, r1, r2, r3, r4, r5, r6, zH (upz s7 24 k.toNat ((s7 24 k.toNat) + 0)) zL7 0, r8, r9])) rfl ?_
        exact ih (c + 1) (upz s7 24 k.toNat ((s7 24 k.toNat) + 0)) H K
      · have H := H.2 h3
        refine xB.run oX12_carry 4 (s := (46, [some (.ref 7168), some (.int (zI set)), some (.int (zI k)), some (.int (zI c))], [.int (zI c), .int (zI 8), .ref 7189, .int (zI (s7 24 k.toNat)), .int (zI k), .ref 7192], [r0, r1, r2, r3, r4, r5, r6, zH s7 zL7 0, r8, r9])) rfl ?_
        refine zB.opi oX12_carry rfl (zi_mul 8 c) ?_
        refine xB.run oX12_carry 1 (s := (48, [some (.ref 7168), some (.int (zI set)), some (.int (zI k)), some (.int (zI c))], [.int (zI k), .int (zI (8 * c)), .ref 7189, .int (zI (s7 24 k.toNat)), .int (zI k), .ref 7192], [r0, r1, r2, r3, r4, r5, r6, zH s7 zL7 0, r8, r9])) rfl ?_
        refine zB.opi oX12_carry rfl (zi_add (8 * c) k) ?_
        obtain ⟨g6, H⟩ := zgd H
        refine zB.iald oX12_carry (g := 7) (p := 21) (N := 48) (i := (8 * c) + k) rfl rfl (by decide) rfl rfl (by decide) g6 ?_
        refine xB.run oX12_carry 1 (s := (54, [some (.ref 7168), some (.int (zI set)), some (.int (zI k)), some (.int (zI c))], [.int (zI (s7 21 ((8 * c) + k).toNat)), .int (zI (s7 24 k.toNat)), .int (zI k), .ref 7192], [r0, r1, r2, r3, r4, r5, r6, zH s7 zL7 0, r8, r9])) rfl ?_
        refine zB.opi oX12_carry rfl (zi_add (s7 24 k.toNat) (s7 21 ((8 * c) + k).toNat)) ?_
        obtain ⟨g5, H⟩ := zgd H
        refine zB.iast oX12_carry (g := 7) (p := 24) (N := 8) (i := k) (hp1 := [r0, r1, r2, r3, r4, r5, r6, zH (upz s7 24 k.toNat ((s7 24 k.toNat) + (s7 21 ((8 * c) + k).toNat))) zL7 0, r8, r9]) rfl rfl (by decide) (by decide) rfl rfl (by decide) g5 rfl ?_
        refine zB.inc oX12_carry rfl (lv2 := [some (.ref 7168), some (.int (zI set)), some (.int (zI k)), some (.int (zI (c + 1)))]) (zi_inc (a := 0) (zi_addp1 c) _ rfl) ?_
        refine xB.run oX12_carry 1 (s := (17, [some (.ref 7168), some (.int (zI set)), some (.int (zI k)), some (.int (zI (c + 1)))], [], [r0, r1, r2, r3, r4, r5, r6, zH (upz s7 24 k.toNat ((s7 24 k.toNat) + (s7 21 ((8 * c) + k).toNat))) zL7 0, r8, r9])) rfl ?_
        exact ih (c + 1) (upz s7 24 k.toNat ((s7 24 k.toNat) + (s7 21 ((8 * c) + k).toNat))) H K
set_option maxRecDepth 20000 in
theorem l_X12_carry_2 (r0 : List va_E) (r1 : List va_E) (r2 : List va_E) (r3 : List va_E) (r4 : List va_E) (r5 : List va_E) (r6 : List va_E) (r8 : List va_E) (r9 : List va_E) (set : Int) {r : Option Value} {hp1 : xH} : ∀ (uN : Nat) (k : Int) (s7 : zZ) {uX : Int × zZ}, d_X12_carry_2 set uN k s7 = some uX → (xBody MX12_carry 0 68 [some (.ref 7168), some (.int (zI set)), some (.int (zI uX.1)), none] [] ([r0, r1, r2, r3, r4, r5, r6, zH uX.2 zL7 0, r8, r9]) r hp1) → xBody MX12_carry 0 2 [some (.ref 7168), some (.int (zI set)), some (.int (zI k)), none] [] ([r0, r1, r2, r3, r4, r5, r6, zH s7 zL7 0, r8, r9]) r hp1 := by
  intro uN
  induction uN with
  | zero => intro k s7 uX H K; cases H
  | succ uN ih =>
    intro k s7 uX H K
    unfold d_X12_carry_2 at H
    refine xB.run oX12_carry 2 (s := (5, [some (.ref 7168), some (.int (zI set)), some (.int (zI k)), none], [.int (zI 8), .int (zI k)], [r0, r1, r2, r3, r4, r5, r6, zH s7 zL7 0, r8, r9])) rfl ?_
    obtain ⟨g14, H⟩ := zgd H
    have H := zif H
    refine xB.brE oX12_carry (P := (8 : Int) ≤ k) rfl (zc_ge (a := k) (b := 8) ⟨g14, by decide⟩) (fun h1 => ?_) (fun h1 => ?_)
    · have H := H.1 h1
      obtain rfl := Option.some.inj H
      exact K
    · have H := H.2 h1
      refine xB.run oX12_carry 4 (s := (14, [some (.ref 7168), some (.int (zI set)), some (.int (zI k)), none], [.int (zI 0), .int (zI k), .ref 7192], [r0, r1, r2, r3, r4, r5, r6, zH s7 zL7 0, r8, r9])) rfl ?_
      obtain ⟨g13, H⟩ := zgd H
      refine zB.iast oX12_carry (g := 7) (p := 24) (N := 8) (i := k) (hp1 := [r0, r1, r2, r3, r4, r5, r6, zH (upz s7 24 k.toNat 0) zL7 0, r8, r9]) rfl rfl (by decide) (by decide) rfl rfl (by decide) g13 rfl ?_
      refine xB.run oX12_carry 2 (s := (17, [some (.ref 7168), some (.int (zI set)), some (.int (zI k)), some (.int (zI 0))], [], [r0, r1, r2, r3, r4, r5, r6, zH (upz s7 24 k.toNat 0) zL7 0, r8, r9])) rfl ?_
      obtain ⟨y11, e12, H⟩ := zbd H
      refine l_X12_carry_17 r0 r1 r2 r3 r4 r5 r6 r8 r9 set k _ 0 (upz s7 24 k.toNat 0) e12 ?_
      refine zB.inc oX12_carry rfl (lv2 := [some (.ref 7168), some (.int (zI set)), some (.int (zI (k + 1))), some (.int (zI y11.1))]) (zi_inc (a := 0) (zi_addp1 k) _ rfl) ?_
      refine xB.run oX12_carry 1 (s := (2, [some (.ref 7168), some (.int (zI set)), some (.int (zI (k + 1))), some (.int (zI y11.1))], [], [r0, r1, r2, r3, r4, r5, r6, zH y11.2 zL7 0, r8, r9])) rfl ?_
      refine xB.forget (lv1 := [some (.ref 7168), some (.int (zI set)), some (.int (zI (k + 1))), none]) (xle_same (xle_same (xle_same (xle_none (xle_nil))))) ?_
      exact ih (k + 1) y11.2 H K
set_option maxRecDepth 20000 in
theorem t_X12_carry (r0 : List va_E) (r1 : List va_E) (r2 : List va_E) (r3 : List va_E) (r4 : List va_E) (r5 : List va_E) (r6 : List va_E) (s7 : zZ) (r8 : List va_E) (r9 : List va_E) (set : Int) {rr : zZ} (H : d_X12_carry s7 set = some rr) : xC MX12_carry 0 [.ref 7168, .int (zI set)] ([r0, r1, r2, r3, r4, r5, r6, zH s7 zL7 0, r8, r9]) (none) ([r0, r1, r2, r3, r4, r5, r6, zH rr zL7 0, r8, r9]) := by
  refine ⟨Nat.le_of_ble_eq_true rfl, ?_⟩
  show xBody MX12_carry 0 0 [some (.ref 7168), some (.int (zI set)), none, none] [] ([r0, r1, r2, r3, r4, r5, r6, zH s7 zL7 0, r8, r9]) _ _
  unfold d_X12_carry at H
  refine xB.run oX12_carry 2 (s := (2, [some (.ref 7168), some (.int (zI set)), some (.int (zI 0)), none], [], [r0, r1, r2, r3, r4, r5, r6, zH s7 zL7 0, r8, r9])) rfl ?_
  obtain ⟨y15, e16, H⟩ := zbd H
  refine l_X12_carry_2 r0 r1 r2 r3 r4 r5 r6 r8 r9 set _ 0 s7 e16 ?_
  obtain rfl := Option.some.inj H
  exact xB.ret oX12_carry (r1 := none) rfl rfl rfl
def d_X12_doesStand_5 (s7 : zZ) : Nat → Int → Option (Sum (Int) (Int))
  | 0, _ => none
  | uN + 1, row => if (zr row ∧ zr (2 * (s7 0 21))) then (if (2 * (s7 0 21)) ≤ row then some (.inl row) else (if (0 ≤ ((20 * row) + (s7 0 25)) ∧ ((20 * row) + (s7 0 25)) < 320) then (if (zrl (s7 22 ((20 * row) + (s7 0 25)).toNat)) then (if (s7 22 ((20 * row) + (s7 0 25)).toNat) = 0 then (d_X12_doesStand_5 s7 uN (row + 1)) else some (.inr 0)) else none) else none)) else none
def d_X12_doesStand (s7 : zZ) : Option (Int) := (d_X12_doesStand_5 s7 zF (s7 0 33)).bind fun y6 => match y6 with | .inl y8 => some 1 | .inr y9 => some y9
set_option maxRecDepth 20000 in
theorem l_X12_doesStand_5 (r0 : List va_E) (r1 : List va_E) (r2 : List va_E) (r3 : List va_E) (r4 : List va_E) (r5 : List va_E) (r6 : List va_E) (s7 : zZ) (r8 : List va_E) (r9 : List va_E) {r : Option Value} {hp1 : xH} : ∀ (uN : Nat) (row : Int) {uX : Sum (Int) (Int)}, d_X12_doesStand_5 s7 uN row = some uX → ((∀ uY, uX = .inl uY → xBody MX12_doesStand 0 42 [some (.ref 7168), some (.int (zI uY))] [] ([r0, r1, r2, r3, r4, r5, r6, zH s7 zL7 0, r8, r9]) r hp1) ∧ (∀ uW, uX = .inr uW → r = some (.int (zI uW)) ∧ hp1 = [r0, r1, r2, r3, r4, r5, r6, zH s7 zL7 0, r8, r9])) → xBody MX12_doesStand 0 5 [some (.ref 7168), some (.int (zI row))] [] ([r0, r1, r2, r3, r4, r5, r6, zH s7 zL7 0, r8, r9]) r hp1 := by
  intro uN
  induction uN with
  | zero => intro row uX H K; cases H
  | succ uN ih =>
    intro row uX H K
    unfold d_X12_doesStand_5 at H
    refine xB.run oX12_doesStand 4 (s := (11, [some (.ref 7168), some (.int (zI row))], [.int (zI (s7 0 21)), .int (zI 2), .int (zI row)], [r0, r1, r2, r3, r4, r5, r6, zH s7 zL7 0, r8, r9])) rfl ?_
    refine zB.opi oX12_doesStand rfl (zi_mul 2 (s7 0 21)) ?_
    obtain ⟨g5, H⟩ := zgd H
    have H := zif H
    refine xB.brE oX12_doesStand (P := (2 * (s7 0 21)) ≤ row) rfl (zc_ge (a := row) (b := 2 * (s7 0 21)) g5) (fun h1 => ?_) (fun h1 => ?_)
    · have H := H.1 h1
      obtain rfl := Option.some.inj H
      exact K.1 _ rfl
    · have H := H.2 h1
      refine xB.run oX12_doesStand 4 (s := (22, [some (.ref 7168), some (.int (zI row))], [.int (zI row), .int (zI 20), .ref 7190], [r0, r1, r2, r3, r4, r5, r6, zH s7 zL7 0, r8, r9])) rfl ?_
      refine zB.opi oX12_doesStand rfl (zi_mul 20 row) ?_
      refine xB.run oX12_doesStand 2 (s := (27, [some (.ref 7168), some (.int (zI row))], [.int (zI (s7 0 25)), .int (zI (20 * row)), .ref 7190], [r0, r1, r2, r3, r4, r5, r6, zH s7 zL7 0, r8, r9])) rfl ?_
      refine zB.opi oX12_doesStand rfl (zi_add (20 * row) (s7 0 25)) ?_
      obtain ⟨g4, H⟩ := zgd H
      refine zB.lald oX12_doesStand (g := 7) (p := 22) (N := 320) (i := (20 * row) + (s7 0 25)) rfl rfl (by decide) rfl rfl (by decide) g4 ?_
      refine xB.run oX12_doesStand 2 (s := (31, [some (.ref 7168), some (.int (zI row))], [.int (lg_cmp (zJ (s7 22 ((20 * row) + (s7 0 25)).toNat)) (zJ 0))], [r0, r1, r2, r3, r4, r5, r6, zH s7 zL7 0, r8, r9])) rfl ?_
      obtain ⟨g3, H⟩ := zgd H
      have H := zif H
      refine xB.brE oX12_doesStand (P := (s7 22 ((20 * row) + (s7 0 25)).toNat) = 0) rfl (zl_eq (a := s7 22 ((20 * row) + (s7 0 25)).toNat) (b := 0) ⟨g3, by decide⟩) (fun h2 => ?_) (fun h2 => ?_)
      · have H := H.1 h2
        refine zB.inc oX12_doesStand rfl (lv2 := [some (.ref 7168), some (.int (zI (row + 1)))]) (zi_inc (a := 0) (zi_addp1 row) _ rfl) ?_
        refine xB.run oX12_doesStand 1 (s := (5, [some (.ref 7168), some (.int (zI (row + 1)))], [], [r0, r1, r2, r3, r4, r5, r6, zH s7 zL7 0, r8, r9])) rfl ?_
        exact ih (row + 1) H K
      · have H := H.2 h2
        refine xB.run oX12_doesStand 1 (s := (35, [some (.ref 7168), some (.int (zI row))], [.int (zI 0)], [r0, r1, r2, r3, r4, r5, r6, zH s7 zL7 0, r8, r9])) rfl ?_
        obtain rfl := Option.some.inj H
        obtain ⟨kr, kh⟩ := K.2 _ rfl
        subst kr kh
        exact xB.ret oX12_doesStand (r1 := some (.int (zI 0))) rfl rfl rfl
set_option maxRecDepth 20000 in
theorem t_X12_doesStand (r0 : List va_E) (r1 : List va_E) (r2 : List va_E) (r3 : List va_E) (r4 : List va_E) (r5 : List va_E) (r6 : List va_E) (s7 : zZ) (r8 : List va_E) (r9 : List va_E) {rr : Int} (H : d_X12_doesStand s7 = some rr) : xC MX12_doesStand 0 [.ref 7168] ([r0, r1, r2, r3, r4, r5, r6, zH s7 zL7 0, r8, r9]) (some (.int (zI rr))) ([r0, r1, r2, r3, r4, r5, r6, zH s7 zL7 0, r8, r9]) := by
  refine ⟨Nat.le_of_ble_eq_true rfl, ?_⟩
  show xBody MX12_doesStand 0 0 [some (.ref 7168), none] [] ([r0, r1, r2, r3, r4, r5, r6, zH s7 zL7 0, r8, r9]) _ _
  unfold d_X12_doesStand at H
  refine xB.run oX12_doesStand 3 (s := (5, [some (.ref 7168), some (.int (zI (s7 0 33)))], [], [r0, r1, r2, r3, r4, r5, r6, zH s7 zL7 0, r8, r9])) rfl ?_
  obtain ⟨y6, e7, H⟩ := zbd H
  refine l_X12_doesStand_5 r0 r1 r2 r3 r4 r5 r6 s7 r8 r9  _ (s7 0 33) e7 ?_
  refine ⟨fun y8 uQ => ?_, fun y9 uQ => ?_⟩
  · subst uQ
    refine xB.run oX12_doesStand 1 (s := (43, [some (.ref 7168), some (.int (zI y8))], [.int (zI 1)], [r0, r1, r2, r3, r4, r5, r6, zH s7 zL7 0, r8, r9])) rfl ?_
    obtain rfl := Option.some.inj H
    exact xB.ret oX12_doesStand (r1 := some (.int (zI 1))) rfl rfl rfl
  · subst uQ
    obtain rfl := Option.some.inj H
    exact ⟨rfl, rfl⟩
def d_X12_net (s7 : zZ) (wh : Int) : Option (Int × zZ) := if zr wh then ((d_X12_within wh 0 2).bind fun y1 => if (zr y1) then (if y1 ≠ 0 then ((d_X12_carry s7 0).bind fun y4 => (d_X12_layNet y4 (-9)).bind fun y6 => if (zr wh) then (if wh ≠ 0 then (if (zr wh) then (if wh ≠ 1 then ((d_X12_manyBars y6).bind fun y10 => some (y10 - (y6 0 33), y6)) else some ((2 * (y6 0 21)) - (y6 0 33), y6)) else none) else some (y6 0 33, y6)) else none) else some ((-2), s7)) else none) else none
set_option maxRecDepth 20000 in
theorem t_X12_net (r0 : List va_E) (r1 : List va_E) (r2 : List va_E) (r3 : List va_E) (r4 : List va_E) (r5 : List va_E) (r6 : List va_E) (s7 : zZ) (r8 : List va_E) (r9 : List va_E) (wh : Int) {rr : Int × zZ} (H : d_X12_net s7 wh = some rr) : xC MX12_net 5 [.ref 7168, .int (zI wh)] ([r0, r1, r2, r3, r4, r5, r6, zH s7 zL7 0, r8, r9]) (some (.int (zI rr.1))) ([r0, r1, r2, r3, r4, r5, r6, zH rr.2 zL7 0, r8, r9]) := by
  refine ⟨Nat.le_of_ble_eq_true rfl, ?_⟩
  show xBody MX12_net 5 0 [some (.ref 7168), some (.int (zI wh))] [] ([r0, r1, r2, r3, r4, r5, r6, zH s7 zL7 0, r8, r9]) _ _
  unfold d_X12_net at H
  refine xB.run oX12_net 1 (s := (1, [some (.ref 7168), some (.int (zI wh))], [.int (zI wh)], [r0, r1, r2, r3, r4, r5, r6, zH s7 zL7 0, r8, r9])) rfl ?_
  obtain ⟨g15, H⟩ := zgd H
  refine zB.opl oX12_net rfl (zi_i2l g15) ?_
  refine xB.run oX12_net 2 (s := (6, [some (.ref 7168), some (.int (zI wh))], [.long (zJ 2), .long (zJ 0), .long (zJ wh)], [r0, r1, r2, r3, r4, r5, r6, zH s7 zL7 0, r8, r9])) rfl ?_
  obtain ⟨y1, e2, H⟩ := zbd H
  refine xB.call oX12_net (M2 := MX12_within) rfl rfl ((t_X12_within r0 r1 r2 r3 r4 r5 r6 (zH s7 zL7 0) r8 r9 wh 0 2 e2).deep (by decide : 0 ≤ 4)) ?_
  show xBody MX12_net 5 9 [some (.ref 7168), some (.int (zI wh))] [.int (zI y1)] ([r0, r1, r2, r3, r4, r5, r6, zH s7 zL7 0, r8, r9]) _ _
  obtain ⟨g14, H⟩ := zgd H
  have H := zif H
  refine xB.brE oX12_net (P := y1 ≠ 0) rfl (zc_ne (a := y1) (b := 0) ⟨g14, by decide⟩) (fun h3 => ?_) (fun h3 => ?_)
  · have H := H.1 h3
    refine xB.run oX12_net 2 (s := (17, [some (.ref 7168), some (.int (zI wh))], [.int (zI 0), .ref 7168], [r0, r1, r2, r3, r4, r5, r6, zH s7 zL7 0, r8, r9])) rfl ?_
    obtain ⟨y4, e5, H⟩ := zbd H
    refine xB.call oX12_net (M2 := MX12_carry) rfl rfl ((t_X12_carry r0 r1 r2 r3 r4 r5 r6 s7 r8 r9 0 e5).deep (by decide : 0 ≤ 4)) ?_
    show xBody MX12_net 5 20 [some (.ref 7168), some (.int (zI wh))] [] ([r0, r1, r2, r3, r4, r5, r6, zH y4 zL7 0, r8, r9]) _ _
    refine xB.run oX12_net 2 (s := (23, [some (.ref 7168), some (.int (zI wh))], [.int (zI (-9)), .ref 7168], [r0, r1, r2, r3, r4, r5, r6, zH y4 zL7 0, r8, r9])) rfl ?_
    obtain ⟨y6, e7, H⟩ := zbd H
    refine xB.call oX12_net (M2 := MX12_layNet) rfl rfl ((t_X12_layNet r0 r1 r2 r3 r4 r5 r6 y4 r8 r9 (-9) e7).deep (by decide : 4 ≤ 4)) ?_
    show xBody MX12_net 5 26 [some (.ref 7168), some (.int (zI wh))] [] ([r0, r1, r2, r3, r4, r5, r6, zH y6 zL7 0, r8, r9]) _ _
    refine xB.run oX12_net 1 (s := (27, [some (.ref 7168), some (.int (zI wh))], [.int (zI wh)], [r0, r1, r2, r3, r4, r5, r6, zH y6 zL7 0, r8, r9])) rfl ?_
    obtain ⟨g13, H⟩ := zgd H
    have H := zif H
    refine xB.brE oX12_net (P := wh ≠ 0) rfl (zc_ne (a := wh) (b := 0) ⟨g13, by decide⟩) (fun h8 => ?_) (fun h8 => ?_)
    · have H := H.1 h8
      refine xB.run oX12_net 2 (s := (39, [some (.ref 7168), some (.int (zI wh))], [.int (zI 1), .int (zI wh)], [r0, r1, r2, r3, r4, r5, r6, zH y6 zL7 0, r8, r9])) rfl ?_
      obtain ⟨g12, H⟩ := zgd H
      have H := zif H
      refine xB.brE oX12_net (P := wh ≠ 1) rfl (zc_ne (a := wh) (b := 1) ⟨g12, by decide⟩) (fun h9 => ?_) (fun h9 => ?_)
      · have H := H.1 h9
        refine xB.run oX12_net 1 (s := (57, [some (.ref 7168), some (.int (zI wh))], [.ref 7168], [r0, r1, r2, r3, r4, r5, r6, zH y6 zL7 0, r8, r9])) rfl ?_
        obtain ⟨y10, e11, H⟩ := zbd H
        refine xB.call oX12_net (M2 := MX12_manyBars) rfl rfl ((t_X12_manyBars r0 r1 r2 r3 r4 r5 r6 y6 r8 r9  e11).deep (by decide : 0 ≤ 4)) ?_
        show xBody MX12_net 5 60 [some (.ref 7168), some (.int (zI wh))] [.int (zI y10)] ([r0, r1, r2, r3, r4, r5, r6, zH y6 zL7 0, r8, r9]) _ _
        refine xB.run oX12_net 2 (s := (64, [some (.ref 7168), some (.int (zI wh))], [.int (zI (y6 0 33)), .int (zI y10)], [r0, r1, r2, r3, r4, r5, r6, zH y6 zL7 0, r8, r9])) rfl ?_
        refine zB.opi oX12_net rfl (zi_sub y10 (y6 0 33)) ?_
        obtain rfl := Option.some.inj H
        exact xB.ret oX12_net (r1 := some (.int (zI (y10 - (y6 0 33))))) rfl rfl rfl
      · have H := H.2 h9
        refine xB.run oX12_net 3 (s := (47, [some (.ref 7168), some (.int (zI wh))], [.int (zI (y6 0 21)), .int (zI 2)], [r0, r1, r2, r3, r4, r5, r6, zH y6 zL7 0, r8, r9])) rfl ?_
        refine zB.opi oX12_net rfl (zi_mul 2 (y6 0 21)) ?_
        refine xB.run oX12_net 2 (s := (52, [some (.ref 7168), some (.int (zI wh))], [.int (zI (y6 0 33)), .int (zI (2 * (y6 0 21)))], [r0, r1, r2, r3, r4, r5, r6, zH y6 zL7 0, r8, r9])) rfl ?_
        refine zB.opi oX12_net rfl (zi_sub (2 * (y6 0 21)) (y6 0 33)) ?_
        refine xB.run oX12_net 1 (s := (65, [some (.ref 7168), some (.int (zI wh))], [.int (zI ((2 * (y6 0 21)) - (y6 0 33)))], [r0, r1, r2, r3, r4, r5, r6, zH y6 zL7 0, r8, r9])) rfl ?_
        obtain rfl := Option.some.inj H
        exact xB.ret oX12_net (r1 := some (.int (zI ((2 * (y6 0 21)) - (y6 0 33))))) rfl rfl rfl
    · have H := H.2 h8
      refine xB.run oX12_net 3 (s := (65, [some (.ref 7168), some (.int (zI wh))], [.int (zI (y6 0 33))], [r0, r1, r2, r3, r4, r5, r6, zH y6 zL7 0, r8, r9])) rfl ?_
      obtain rfl := Option.some.inj H
      exact xB.ret oX12_net (r1 := some (.int (zI (y6 0 33)))) rfl rfl rfl
  · have H := H.2 h3
    refine xB.run oX12_net 1 (s := (14, [some (.ref 7168), some (.int (zI wh))], [.int (zI (-2))], [r0, r1, r2, r3, r4, r5, r6, zH s7 zL7 0, r8, r9])) rfl ?_
    obtain rfl := Option.some.inj H
    exact xB.ret oX12_net (r1 := some (.int (zI (-2)))) rfl rfl rfl
def d_X12_findMove_26 (rows : Int) (b : Int) : Nat → Int → zZ → Option (Int × zZ)
  | 0, _, _ => none
  | uN + 1, k, s7 => if (zr k) then (if (8 : Int) ≤ k then some (k, s7) else (if (0 ≤ ((20 * rows) + k) ∧ ((20 * rows) + k) < 320) then (d_X12_findMove_26 rows b uN (k + 1) (upz s7 22 ((20 * rows) + k).toNat 0)) else none)) else none
def d_X12_findMove_52 (rows : Int) (b : Int) : Nat → Int → zZ → Option (Int × zZ)
  | 0, _, _ => none
  | uN + 1, k, s7 => if (zr k ∧ zr (s7 0 20)) then (if (s7 0 20) ≤ k then some (k, s7) else (if (0 ≤ k ∧ k < 8) then (if (zr (s7 16 k.toNat)) then (if (s7 16 k.toNat) = (-9) then (d_X12_findMove_52 rows b uN (k + 1) s7) else (if (0 ≤ k ∧ k < 8) then ((d_X12_stretch s7 b k 0).bind fun y10 => if zr y10 then (if (0 ≤ ((20 * rows) + (2 * (s7 16 k.toNat))) ∧ ((20 * rows) + (2 * (s7 16 k.toNat))) < 320) then (if (0 ≤ k ∧ k < 8) then ((d_X12_stretch (upz s7 22 ((20 * rows) + (2 * (s7 16 k.toNat))).toNat y10) b k 1).bind fun y12 => if zr y12 then (if (0 ≤ (((20 * rows) + (2 * ((upz s7 22 ((20 * rows) + (2 * (s7 16 k.toNat))).toNat y10) 16 k.toNat))) + 1) ∧ (((20 * rows) + (2 * ((upz s7 22 ((20 * rows) + (2 * (s7 16 k.toNat))).toNat y10) 16 k.toNat))) + 1) < 320) then (d_X12_findMove_52 rows b uN (k + 1) (upz (upz s7 22 ((20 * rows) + (2 * (s7 16 k.toNat))).toNat y10) 22 (((20 * rows) + (2 * ((upz s7 22 ((20 * rows) + (2 * (s7 16 k.toNat))).toNat y10) 16 k.toNat))) + 1).toNat y12)) else none) else none) else none) else none) else none) else none)) else none) else none)) else none
def d_X12_findMove_4  : Nat → Int → Int → zZ → Option (Int × Int × zZ)
  | 0, _, _, _ => none
  | uN + 1, rows, b, s7 => if (zr b ∧ zr (s7 0 25)) then (if (s7 0 25) ≤ b then some (rows, b, s7) else (if (0 ≤ b ∧ b < 16) then (if (zr (s7 20 b.toNat)) then (if (s7 20 b.toNat) = 0 then ((d_X12_findMove_26 rows b zF 0 s7).bind fun y6 => (d_X12_findMove_52 rows b zF 0 y6.2).bind fun y23 => d_X12_findMove_4 uN (rows + 1) (b + 1) y23.2) else (d_X12_findMove_4 uN rows (b + 1) s7)) else none) else none)) else none
def d_X12_findMove_159 (s7 : zZ) (rows : Int) : Nat → Int → Option (Int)
  | 0, _ => none
  | uN + 1, b => if (0 ≤ b ∧ b < 20) then (if (zr (s7 23 b.toNat)) then (if (s7 23 b.toNat) = (-9) then some b else (d_X12_findMove_159 s7 rows uN (b + 1))) else none) else none
def d_X12_findMove_181 (s7 : zZ) (rows : Int) (b : Int) : Nat → Int → Int → Option (Int × Int)
  | 0, _, _ => none
  | uN + 1, k, v5 => if (zr v5 ∧ zr (2 * (s7 0 21))) then (if (2 * (s7 0 21)) ≤ v5 then some (k, v5) else (if (0 ≤ v5 ∧ v5 < 20) then (if (zr (s7 23 v5.toNat)) then (if (s7 23 v5.toNat) = (-9) then (d_X12_findMove_181 s7 rows b uN k (v5 + 1)) else (if (0 ≤ v5 ∧ v5 < 20) then (if (0 ≤ ((20 * (s7 23 v5.toNat)) + v5) ∧ ((20 * (s7 23 v5.toNat)) + v5) < 320) then ((d_X12_size (s7 22 ((20 * (s7 23 v5.toNat)) + v5).toNat)).bind fun y39 => (d_X12_common k y39).bind fun y41 => if (zrl k ∧ y41 ≠ 0 ∧ zrl y41) then (d_X12_findMove_181 s7 rows b uN ((k.tdiv y41) * y39) (v5 + 1)) else none) else none) else none)) else none) else none)) else none
def d_X12_findMove_251 (rows : Int) (b : Int) (k : Int) : Nat → Int → Int → zZ → Option (Int × Int × zZ)
  | 0, _, _, _ => none
  | uN + 1, v5, v7, s7 => if (zr v7 ∧ zr (2 * (s7 0 21))) then (if (2 * (s7 0 21)) ≤ v7 then some (v5, v7, s7) else (if (zr v7 ∧ zr b) then (if v7 ≠ b then (if (0 ≤ v7 ∧ v7 < 20) then (if (zr (s7 23 v7.toNat)) then (if (s7 23 v7.toNat) ≠ (-9) then (if (0 ≤ v7 ∧ v7 < 20) then (if (0 ≤ ((20 * (s7 23 v7.toNat)) + b) ∧ ((20 * (s7 23 v7.toNat)) + b) < 320) then (if (0 ≤ v7 ∧ v7 < 20) then (if (0 ≤ ((20 * (s7 23 v7.toNat)) + v7) ∧ ((20 * (s7 23 v7.toNat)) + v7) < 320) then (if (zrl ((-(s7 22 ((20 * (s7 23 v7.toNat)) + b).toNat)) * k) ∧ (s7 22 ((20 * (s7 23 v7.toNat)) + v7).toNat) ≠ 0 ∧ zrl (s7 22 ((20 * (s7 23 v7.toNat)) + v7).toNat)) then (if (0 ≤ v7 ∧ v7 < 8) then (if (0 ≤ v7 ∧ v7 < 8) then ((d_X12_common v5 ((upz s7 25 v7.toNat (((-(s7 22 ((20 * (s7 23 v7.toNat)) + b).toNat)) * k).tdiv (s7 22 ((20 * (s7 23 v7.toNat)) + v7).toNat))) 25 v7.toNat)).bind fun y54 => d_X12_findMove_251 rows b k uN y54 (v7 + 1) (upz s7 25 v7.toNat (((-(s7 22 ((20 * (s7 23 v7.toNat)) + b).toNat)) * k).tdiv (s7 22 ((20 * (s7 23 v7.toNat)) + v7).toNat)))) else none) else none) else none) else none) else none) else none) else none) else (if (0 ≤ v7 ∧ v7 < 8) then (if (0 ≤ v7 ∧ v7 < 8) then ((d_X12_common v5 ((upz s7 25 v7.toNat 0) 25 v7.toNat)).bind fun y63 => d_X12_findMove_251 rows b k uN y63 (v7 + 1) (upz s7 25 v7.toNat 0)) else none) else none)) else none) else none) else (if (0 ≤ v7 ∧ v7 < 8) then (if (0 ≤ v7 ∧ v7 < 8) then ((d_X12_common v5 ((upz s7 25 v7.toNat k) 25 v7.toNat)).bind fun y69 => d_X12_findMove_251 rows b k uN y69 (v7 + 1) (upz s7 25 v7.toNat k)) else none) else none)) else none)) else none
def d_X12_findMove_357 (s7 : zZ) (rows : Int) (b : Int) (k : Int) (v5 : Int) : Nat → Int → Option (Int)
  | 0, _ => none
  | uN + 1, v7 => if (0 ≤ v7 ∧ v7 < 8) then (if (zrl (s7 25 v7.toNat)) then (if (s7 25 v7.toNat) ≠ 0 then some v7 else (d_X12_findMove_357 s7 rows b k v5 uN (v7 + 1))) else none) else none
def d_X12_findMove_400 (rows : Int) (b : Int) (k : Int) (v5 : Int) (v7 : Int) : Nat → Int → zZ → Option (Int × zZ)
  | 0, _, _ => none
  | uN + 1, v8, s7 => if (zr v8 ∧ zr (2 * (s7 0 21))) then (if (2 * (s7 0 21)) ≤ v8 then some (v8, s7) else (if (0 ≤ v8 ∧ v8 < 8) then (if (zrl (s7 25 v8.toNat) ∧ v5 ≠ 0 ∧ zrl v5) then (if (0 ≤ v8 ∧ v8 < 8) then (d_X12_findMove_400 rows b k v5 v7 uN (v8 + 1) (upz s7 25 v8.toNat ((s7 25 v8.toNat).tdiv v5))) else none) else none) else none)) else none
def d_X12_findMove (s7 : zZ) : Option (zZ) := (d_X12_findMove_4 zF 0 0 s7).bind fun y28 => (d_X12_reduce y28.2.2 y28.1 (2 * (y28.2.2 0 21)) (2 * (y28.2.2 0 21))).bind fun y30 => (d_X12_findMove_159 y30 y28.1 zF 0).bind fun y35 => (d_X12_findMove_181 y30 y28.1 y35 zF 1 0).bind fun y49 => (d_X12_findMove_251 y28.1 y35 y49.1 zF 0 0 y30).bind fun y75 => (d_X12_findMove_357 y75.2.2 y28.1 y35 y49.1 y75.1 zF 0).bind fun y80 => if (0 ≤ y80 ∧ y80 < 8) then (if (zrl (y75.2.2 25 y80.toNat)) then (if (0 : Int) ≤ (y75.2.2 25 y80.toNat) then ((d_X12_findMove_400 y28.1 y35 y49.1 y75.1 y80 zF 0 y75.2.2).bind fun y88 => some y88.2) else ((d_X12_findMove_400 y28.1 y35 y49.1 (-y75.1) y80 zF 0 y75.2.2).bind fun y90 => some y90.2)) else none) else none
set_option maxRecDepth 20000 in
theorem l_X12_findMove_26 (r0 : List va_E) (r1 : List va_E) (r2 : List va_E) (r3 : List va_E) (r4 : List va_E) (r5 : List va_E) (r6 : List va_E) (r8 : List va_E) (r9 : List va_E) (rows : Int) (b : Int) {r : Option Value} {hp1 : xH} : ∀ (uN : Nat) (k : Int) (s7 : zZ) {uX : Int × zZ}, d_X12_findMove_26 rows b uN k s7 = some uX → (xBody MX12_findMove 4 50 [some (.ref 7168), some (.int (zI rows)), some (.int (zI b)), some (.int (zI uX.1)), none, none, none, none, none] [] ([r0, r1, r2, r3, r4, r5, r6, zH uX.2 zL7 0, r8, r9]) r hp1) → xBody MX12_findMove 4 26 [some (.ref 7168), some (.int (zI rows)), some (.int (zI b)), some (.int (zI k)), none, none, none, none, none] [] ([r0, r1, r2, r3, r4, r5, r6, zH s7 zL7 0, r8, r9]) r hp1 := by
  intro uN
  induction uN with
  | zero => intro k s7 uX H K; cases H
  | succ uN ih =>
    intro k s7 uX H K
    unfold d_X12_findMove_26 at H
    refine xB.run oX12_findMove 2 (s := (29, [some (.ref 7168), some (.int (zI rows)), some (.int (zI b)), some (.int (zI k)), none, none, none, none, none], [.int (zI 8), .int (zI k)], [r0, r1, r2, r3, r4, r5, r6, zH s7 zL7 0, r8, r9])) rfl ?_
    obtain ⟨g5, H⟩ := zgd H
    have H := zif H
    refine xB.brE oX12_findMove (P := (8 : Int) ≤ k) rfl (zc_ge (a := k) (b := 8) ⟨g5, by decide⟩) (fun h3 => ?_) (fun h3 => ?_)
    · have H := H.1 h3
      obtain rfl := Option.some.inj H
      exact K
    · have H := H.2 h3
      refine xB.run oX12_findMove 4 (s := (39, [some (.ref 7168), some (.int (zI rows)), some (.int (zI b)), some (.int (zI k)), none, none, none, none, none], [.int (zI rows), .int (zI 20), .ref 7190], [r0, r1, r2, r3, r4, r5, r6, zH s7 zL7 0, r8, r9])) rfl ?_
      refine zB.opi oX12_findMove rfl (zi_mul 20 rows) ?_
      refine xB.run oX12_findMove 1 (s := (41, [some (.ref 7168), some (.int (zI rows)), some (.int (zI b)), some (.int (zI k)), none, none, none, none, none], [.int (zI k), .int (zI (20 * rows)), .ref 7190], [r0, r1, r2, r3, r4, r5, r6, zH s7 zL7 0, r8, r9])) rfl ?_
      refine zB.opi oX12_findMove rfl (zi_add (20 * rows) k) ?_
      refine xB.run oX12_findMove 1 (s := (43, [some (.ref 7168), some (.int (zI rows)), some (.int (zI b)), some (.int (zI k)), none, none, none, none, none], [.long (zJ 0), .int (zI ((20 * rows) + k)), .ref 7190], [r0, r1, r2, r3, r4, r5, r6, zH s7 zL7 0, r8, r9])) rfl ?_
      obtain ⟨g4, H⟩ := zgd H
      refine zB.last oX12_findMove (g := 7) (p := 22) (N := 320) (i := (20 * rows) + k) (hp1 := [r0, r1, r2, r3, r4, r5, r6, zH (upz s7 22 ((20 * rows) + k).toNat 0) zL7 0, r8, r9]) rfl rfl (by decide) (by decide) rfl rfl (by decide) g4 rfl ?_
      refine zB.inc oX12_findMove rfl (lv2 := [some (.ref 7168), some (.int (zI rows)), some (.int (zI b)), some (.int (zI (k + 1))), none, none, none, none, none]) (zi_inc (a := 0) (zi_addp1 k) _ rfl) ?_
      refine xB.run oX12_findMove 1 (s := (26, [some (.ref 7168), some (.int (zI rows)), some (.int (zI b)), some (.int (zI (k + 1))), none, none, none, none, none], [], [r0, r1, r2, r3, r4, r5, r6, zH (upz s7 22 ((20 * rows) + k).toNat 0) zL7 0, r8, r9])) rfl ?_
      exact ih (k + 1) (upz s7 22 ((20 * rows) + k).toNat 0) H K
set_option maxRecDepth 20000 in
theorem l_X12_findMove_52 (r0 : List va_E) (r1 : List va_E) (r2 : List va_E) (r3 : List va_E) (r4 : List va_E) (r5 : List va_E) (r6 : List va_E) (r8 : List va_E) (r9 : List va_E) (rows : Int) (b : Int) {r : Option Value} {hp1 : xH} : ∀ (uN : Nat) (k : Int) (s7 : zZ) {uX : Int × zZ}, d_X12_findMove_52 rows b uN k s7 = some uX → (xBody MX12_findMove 4 131 [some (.ref 7168), some (.int (zI rows)), some (.int (zI b)), some (.int (zI uX.1)), none, none, none, none, none] [] ([r0, r1, r2, r3, r4, r5, r6, zH uX.2 zL7 0, r8, r9]) r hp1) → xBody MX12_findMove 4 52 [some (.ref 7168), some (.int (zI rows)), some (.int (zI b)), some (.int (zI k)), none, none, none, none, none] [] ([r0, r1, r2, r3, r4, r5, r6, zH s7 zL7 0, r8, r9]) r hp1 := by
  intro uN
  induction uN with
  | zero => intro k s7 uX H K; cases H
  | succ uN ih =>
    intro k s7 uX H K
    unfold d_X12_findMove_52 at H
    refine xB.run oX12_findMove 3 (s := (57, [some (.ref 7168), some (.int (zI rows)), some (.int (zI b)), some (.int (zI k)), none, none, none, none, none], [.int (zI (s7 0 20)), .int (zI k)], [r0, r1, r2, r3, r4, r5, r6, zH s7 zL7 0, r8, r9])) rfl ?_
    obtain ⟨g22, H⟩ := zgd H
    have H := zif H
    refine xB.brE oX12_findMove (P := (s7 0 20) ≤ k) rfl (zc_ge (a := k) (b := s7 0 20) g22) (fun h8 => ?_) (fun h8 => ?_)
    · have H := H.1 h8
      obtain rfl := Option.some.inj H
      exact K
    · have H := H.2 h8
      refine xB.run oX12_findMove 3 (s := (65, [some (.ref 7168), some (.int (zI rows)), some (.int (zI b)), some (.int (zI k)), none, none, none, none, none], [.int (zI k), .ref 7184], [r0, r1, r2, r3, r4, r5, r6, zH s7 zL7 0, r8, r9])) rfl ?_
      obtain ⟨g21, H⟩ := zgd H
      refine zB.iald oX12_findMove (g := 7) (p := 16) (N := 8) (i := k) rfl rfl (by decide) rfl rfl (by decide) g21 ?_
      refine xB.run oX12_findMove 1 (s := (68, [some (.ref 7168), some (.int (zI rows)), some (.int (zI b)), some (.int (zI k)), none, none, none, none, none], [.int (zI (-9)), .int (zI (s7 16 k.toNat))], [r0, r1, r2, r3, r4, r5, r6, zH s7 zL7 0, r8, r9])) rfl ?_
      obtain ⟨g20, H⟩ := zgd H
      have H := zif H
      refine xB.brE oX12_findMove (P := (s7 16 k.toNat) = (-9)) rfl (zc_eq (a := s7 16 k.toNat) (b := (-9)) ⟨g20, by decide⟩) (fun h9 => ?_) (fun h9 => ?_)
      · have H := H.1 h9
        refine zB.inc oX12_findMove rfl (lv2 := [some (.ref 7168), some (.int (zI rows)), some (.int (zI b)), some (.int (zI (k + 1))), none, none, none, none, none]) (zi_inc (a := 0) (zi_addp1 k) _ rfl) ?_
        refine xB.run oX12_findMove 1 (s := (52, [some (.ref 7168), some (.int (zI rows)), some (.int (zI b)), some (.int (zI (k + 1))), none, none, none, none, none], [], [r0, r1, r2, r3, r4, r5, r6, zH s7 zL7 0, r8, r9])) rfl ?_
        exact ih (k + 1) s7 H K
      · have H := H.2 h9
        refine xB.run oX12_findMove 4 (s := (78, [some (.ref 7168), some (.int (zI rows)), some (.int (zI b)), some (.int (zI k)), none, none, none, none, none], [.int (zI rows), .int (zI 20), .ref 7190], [r0, r1, r2, r3, r4, r5, r6, zH s7 zL7 0, r8, r9])) rfl ?_
        refine zB.opi oX12_findMove rfl (zi_mul 20 rows) ?_
        refine xB.run oX12_findMove 4 (s := (85, [some (.ref 7168), some (.int (zI rows)), some (.int (zI b)), some (.int (zI k)), none, none, none, none, none], [.int (zI k), .ref 7184, .int (zI 2), .int (zI (20 * rows)), .ref 7190], [r0, r1, r2, r3, r4, r5, r6, zH s7 zL7 0, r8, r9])) rfl ?_
        obtain ⟨g19, H⟩ := zgd H
        refine zB.iald oX12_findMove (g := 7) (p := 16) (N := 8) (i := k) rfl rfl (by decide) rfl rfl (by decide) g19 ?_
        refine zB.opi oX12_findMove rfl (zi_mul 2 (s7 16 k.toNat)) ?_
        refine zB.opi oX12_findMove rfl (zi_add (20 * rows) (2 * (s7 16 k.toNat))) ?_
        refine xB.run oX12_findMove 4 (s := (92, [some (.ref 7168), some (.int (zI rows)), some (.int (zI b)), some (.int (zI k)), none, none, none, none, none], [.int (zI 0), .int (zI k), .int (zI b), .ref 7168, .int (zI ((20 * rows) + (2 * (s7 16 k.toNat)))), .ref 7190], [r0, r1, r2, r3, r4, r5, r6, zH s7 zL7 0, r8, r9])) rfl ?_
        obtain ⟨y10, e11, H⟩ := zbd H
        refine xB.call oX12_findMove (M2 := MX12_stretch) rfl rfl ((t_X12_stretch r0 r1 r2 r3 r4 r5 r6 s7 r8 r9 b k 0 e11).deep (by decide : 0 ≤ 3)) ?_
        show xBody MX12_findMove 4 95 [some (.ref 7168), some (.int (zI rows)), some (.int (zI b)), some (.int (zI k)), none, none, none, none, none] [.int (zI y10), .int (zI ((20 * rows) + (2 * (s7 16 k.toNat)))), .ref 7190] ([r0, r1, r2, r3, r4, r5, r6, zH s7 zL7 0, r8, r9]) _ _
        obtain ⟨g18, H⟩ := zgd H
        refine zB.opl oX12_findMove rfl (zi_i2l g18) ?_
        obtain ⟨g17, H⟩ := zgd H
        refine zB.last oX12_findMove (g := 7) (p := 22) (N := 320) (i := (20 * rows) + (2 * (s7 16 k.toNat))) (hp1 := [r0, r1, r2, r3, r4, r5, r6, zH (upz s7 22 ((20 * rows) + (2 * (s7 16 k.toNat))).toNat y10) zL7 0, r8, r9]) rfl rfl (by decide) (by decide) rfl rfl (by decide) g17 rfl ?_
        refine xB.run oX12_findMove 4 (s := (104, [some (.ref 7168), some (.int (zI rows)), some (.int (zI b)), some (.int (zI k)), none, none, none, none, none], [.int (zI rows), .int (zI 20), .ref 7190], [r0, r1, r2, r3, r4, r5, r6, zH (upz s7 22 ((20 * rows) + (2 * (s7 16 k.toNat))).toNat y10) zL7 0, r8, r9])) rfl ?_
        refine zB.opi oX12_findMove rfl (zi_mul 20 rows) ?_
        refine xB.run oX12_findMove 4 (s := (111, [some (.ref 7168), some (.int (zI rows)), some (.int (zI b)), some (.int (zI k)), none, none, none, none, none], [.int (zI k), .ref 7184, .int (zI 2), .int (zI (20 * rows)), .ref 7190], [r0, r1, r2, r3, r4, r5, r6, zH (upz s7 22 ((20 * rows) + (2 * (s7 16 k.toNat))).toNat y10) zL7 0, r8, r9])) rfl ?_
        obtain ⟨g16, H⟩ := zgd H
        refine zB.iald oX12_findMove (g := 7) (p := 16) (N := 8) (i := k) rfl rfl (by decide) rfl rfl (by decide) g16 ?_
        refine zB.opi oX12_findMove rfl (zi_mul 2 ((upz s7 22 ((20 * rows) + (2 * (s7 16 k.toNat))).toNat y10) 16 k.toNat)) ?_
        refine zB.opi oX12_findMove rfl (zi_add (20 * rows) (2 * ((upz s7 22 ((20 * rows) + (2 * (s7 16 k.toNat))).toNat y10) 16 k.toNat))) ?_
        refine xB.run oX12_findMove 1 (s := (115, [some (.ref 7168), some (.int (zI rows)), some (.int (zI b)), some (.int (zI k)), none, none, none, none, none], [.int (zI 1), .int (zI ((20 * rows) + (2 * ((upz s7 22 ((20 * rows) + (2 * (s7 16 k.toNat))).toNat y10) 16 k.toNat)))), .ref 7190], [r0, r1, r2, r3, r4, r5, r6, zH (upz s7 22 ((20 * rows) + (2 * (s7 16 k.toNat))).toNat y10) zL7 0, r8, r9])) rfl ?_
        refine zB.opi oX12_findMove rfl (zi_add ((20 * rows) + (2 * ((upz s7 22 ((20 * rows) + (2 * (s7 16 k.toNat))).toNat y10) 16 k.toNat))) 1) ?_
        refine xB.run oX12_findMove 4 (s := (120, [some (.ref 7168), some (.int (zI rows)), some (.int (zI b)), some (.int (zI k)), none, none, none, none, none], [.int (zI 1), .int (zI k), .int (zI b), .ref 7168, .int (zI (((20 * rows) + (2 * ((upz s7 22 ((20 * rows) + (2 * (s7 16 k.toNat))).toNat y10) 16 k.toNat))) + 1)), .ref 7190], [r0, r1, r2, r3, r4, r5, r6, zH (upz s7 22 ((20 * rows) + (2 * (s7 16 k.toNat))).toNat y10) zL7 0, r8, r9])) rfl ?_
        obtain ⟨y12, e13, H⟩ := zbd H
        refine xB.call oX12_findMove (M2 := MX12_stretch) rfl rfl ((t_X12_stretch r0 r1 r2 r3 r4 r5 r6 (upz s7 22 ((20 * rows) + (2 * (s7 16 k.toNat))).toNat y10) r8 r9 b k 1 e13).deep (by decide : 0 ≤ 3)) ?_
        show xBody MX12_findMove 4 123 [some (.ref 7168), some (.int (zI rows)), some (.int (zI b)), some (.int (zI k)), none, none, none, none, none] [.int (zI y12), .int (zI (((20 * rows) + (2 * ((upz s7 22 ((20 * rows) + (2 * (s7 16 k.toNat))).toNat y10) 16 k.toNat))) + 1)), .ref 7190] ([r0, r1, r2, r3, r4, r5, r6, zH (upz s7 22 ((20 * rows) + (2 * (s7 16 k.toNat))).toNat y10) zL7 0, r8, r9]) _ _
        obtain ⟨g15, H⟩ := zgd H
        refine zB.opl oX12_findMove rfl (zi_i2l g15) ?_
        obtain ⟨g14, H⟩ := zgd H
        refine zB.last oX12_findMove (g := 7) (p := 22) (N := 320) (i := ((20 * rows) + (2 * ((upz s7 22 ((20 * rows) + (2 * (s7 16 k.toNat))).toNat y10) 16 k.toNat))) + 1) (hp1 := [r0, r1, r2, r3, r4, r5, r6, zH (upz (upz s7 22 ((20 * rows) + (2 * (s7 16 k.toNat))).toNat y10) 22 (((20 * rows) + (2 * ((upz s7 22 ((20 * rows) + (2 * (s7 16 k.toNat))).toNat y10) 16 k.toNat))) + 1).toNat y12) zL7 0, r8, r9]) rfl rfl (by decide) (by decide) rfl rfl (by decide) g14 rfl ?_
        refine zB.inc oX12_findMove rfl (lv2 := [some (.ref 7168), some (.int (zI rows)), some (.int (zI b)), some (.int (zI (k + 1))), none, none, none, none, none]) (zi_inc (a := 0) (zi_addp1 k) _ rfl) ?_
        refine xB.run oX12_findMove 1 (s := (52, [some (.ref 7168), some (.int (zI rows)), some (.int (zI b)), some (.int (zI (k + 1))), none, none, none, none, none], [], [r0, r1, r2, r3, r4, r5, r6, zH (upz (upz s7 22 ((20 * rows) + (2 * (s7 16 k.toNat))).toNat y10) 22 (((20 * rows) + (2 * ((upz s7 22 ((20 * rows) + (2 * (s7 16 k.toNat))).toNat y10) 16 k.toNat))) + 1).toNat y12) zL7 0, r8, r9])) rfl ?_
        exact ih (k + 1) (upz (upz s7 22 ((20 * rows) + (2 * (s7 16 k.toNat))).toNat y10) 22 (((20 * rows) + (2 * ((upz s7 22 ((20 * rows) + (2 * (s7 16 k.toNat))).toNat y10) 16 k.toNat))) + 1).toNat y12) H K
set_option maxRecDepth 20000 in
theorem l_X12_findMove_4 (r0 : List va_E) (r1 : List va_E) (r2 : List va_E) (r3 : List va_E) (r4 : List va_E) (r5 : List va_E) (r6 : List va_E) (r8 : List va_E) (r9 : List va_E) {r : Option Value} {hp1 : xH} : ∀ (uN : Nat) (rows : Int) (b : Int) (s7 : zZ) {uX : Int × Int × zZ}, d_X12_findMove_4 uN rows b s7 = some uX → (xBody MX12_findMove 4 140 [some (.ref 7168), some (.int (zI uX.1)), some (.int (zI uX.2.1)), none, none, none, none, none, none] [] ([r0, r1, r2, r3, r4, r5, r6, zH uX.2.2 zL7 0, r8, r9]) r hp1) → xBody MX12_findMove 4 4 [some (.ref 7168), some (.int (zI rows)), some (.int (zI b)), none, none, none, none, none, none] [] ([r0, r1, r2, r3, r4, r5, r6, zH s7 zL7 0, r8, r9]) r hp1 := by
  intro uN
  induction uN with
  | zero => intro rows b s7 uX H K; cases H
  | succ uN ih =>
    intro rows b s7 uX H K
    unfold d_X12_findMove_4 at H
    refine xB.run oX12_findMove 3 (s := (9, [some (.ref 7168), some (.int (zI rows)), some (.int (zI b)), none, none, none, none, none, none], [.int (zI (s7 0 25)), .int (zI b)], [r0, r1, r2, r3, r4, r5, r6, zH s7 zL7 0, r8, r9])) rfl ?_
    obtain ⟨g27, H⟩ := zgd H
    have H := zif H
    refine xB.brE oX12_findMove (P := (s7 0 25) ≤ b) rfl (zc_ge (a := b) (b := s7 0 25) g27) (fun h1 => ?_) (fun h1 => ?_)
    · have H := H.1 h1
      obtain rfl := Option.some.inj H
      exact K
    · have H := H.2 h1
      refine xB.run oX12_findMove 3 (s := (17, [some (.ref 7168), some (.int (zI rows)), some (.int (zI b)), none, none, none, none, none, none], [.int (zI b), .ref 7188], [r0, r1, r2, r3, r4, r5, r6, zH s7 zL7 0, r8, r9])) rfl ?_
      obtain ⟨g26, H⟩ := zgd H
      refine zB.bald oX12_findMove (g := 7) (p := 20) (N := 16) (i := b) rfl rfl (by decide) rfl rfl (by decide) g26 ?_
      obtain ⟨g25, H⟩ := zgd H
      have H := zif H
      refine xB.brE oX12_findMove (P := (s7 20 b.toNat) = 0) rfl (zc_eq (a := s7 20 b.toNat) (b := 0) ⟨g25, by decide⟩) (fun h2 => ?_) (fun h2 => ?_)
      · have H := H.1 h2
        refine xB.run oX12_findMove 2 (s := (26, [some (.ref 7168), some (.int (zI rows)), some (.int (zI b)), some (.int (zI 0)), none, none, none, none, none], [], [r0, r1, r2, r3, r4, r5, r6, zH s7 zL7 0, r8, r9])) rfl ?_
        obtain ⟨y6, e7, H⟩ := zbd H
        refine l_X12_findMove_26 r0 r1 r2 r3 r4 r5 r6 r8 r9 rows b _ 0 s7 e7 ?_
        refine xB.run oX12_findMove 2 (s := (52, [some (.ref 7168), some (.int (zI rows)), some (.int (zI b)), some (.int (zI 0)), none, none, none, none, none], [], [r0, r1, r2, r3, r4, r5, r6, zH y6.2 zL7 0, r8, r9])) rfl ?_
        obtain ⟨y23, e24, H⟩ := zbd H
        refine l_X12_findMove_52 r0 r1 r2 r3 r4 r5 r6 r8 r9 rows b _ 0 y6.2 e24 ?_
        refine zB.inc oX12_findMove rfl (lv2 := [some (.ref 7168), some (.int (zI (rows + 1))), some (.int (zI b)), some (.int (zI y23.1)), none, none, none, none, none]) (zi_inc (a := 0) (zi_addp1 rows) _ rfl) ?_
        refine zB.inc oX12_findMove rfl (lv2 := [some (.ref 7168), some (.int (zI (rows + 1))), some (.int (zI (b + 1))), some (.int (zI y23.1)), none, none, none, none, none]) (zi_inc (a := 0) (zi_addp1 b) _ rfl) ?_
        refine xB.run oX12_findMove 1 (s := (4, [some (.ref 7168), some (.int (zI (rows + 1))), some (.int (zI (b + 1))), some (.int (zI y23.1)), none, none, none, none, none], [], [r0, r1, r2, r3, r4, r5, r6, zH y23.2 zL7 0, r8, r9])) rfl ?_
        refine xB.forget (lv1 := [some (.ref 7168), some (.int (zI (rows + 1))), some (.int (zI (b + 1))), none, none, none, none, none, none]) (xle_same (xle_same (xle_same (xle_none (xle_same (xle_same (xle_same (xle_same (xle_same (xle_nil)))))))))) ?_
        exact ih (rows + 1) (b + 1) y23.2 H K
      · have H := H.2 h2
        refine xB.run oX12_findMove 1 (s := (134, [some (.ref 7168), some (.int (zI rows)), some (.int (zI b)), none, none, none, none, none, none], [], [r0, r1, r2, r3, r4, r5, r6, zH s7 zL7 0, r8, r9])) rfl ?_
        refine zB.inc oX12_findMove rfl (lv2 := [some (.ref 7168), some (.int (zI rows)), some (.int (zI (b + 1))), none, none, none, none, none, none]) (zi_inc (a := 0) (zi_addp1 b) _ rfl) ?_
        refine xB.run oX12_findMove 1 (s := (4, [some (.ref 7168), some (.int (zI rows)), some (.int (zI (b + 1))), none, none, none, none, none, none], [], [r0, r1, r2, r3, r4, r5, r6, zH s7 zL7 0, r8, r9])) rfl ?_
        exact ih rows (b + 1) s7 H K
set_option maxRecDepth 20000 in
theorem l_X12_findMove_159 (r0 : List va_E) (r1 : List va_E) (r2 : List va_E) (r3 : List va_E) (r4 : List va_E) (r5 : List va_E) (r6 : List va_E) (s7 : zZ) (r8 : List va_E) (r9 : List va_E) (rows : Int) {r : Option Value} {hp1 : xH} : ∀ (uN : Nat) (b : Int) {uX : Int}, d_X12_findMove_159 s7 rows uN b = some uX → (xBody MX12_findMove 4 176 [some (.ref 7168), some (.int (zI rows)), some (.int (zI uX)), none, none, none, none, none, none] [] ([r0, r1, r2, r3, r4, r5, r6, zH s7 zL7 0, r8, r9]) r hp1) → xBody MX12_findMove 4 159 [some (.ref 7168), some (.int (zI rows)), some (.int (zI b)), none, none, none, none, none, none] [] ([r0, r1, r2, r3, r4, r5, r6, zH s7 zL7 0, r8, r9]) r hp1 := by
  intro uN
  induction uN with
  | zero => intro b uX H K; cases H
  | succ uN ih =>
    intro b uX H K
    unfold d_X12_findMove_159 at H
    refine xB.run oX12_findMove 3 (s := (164, [some (.ref 7168), some (.int (zI rows)), some (.int (zI b)), none, none, none, none, none, none], [.int (zI b), .ref 7191], [r0, r1, r2, r3, r4, r5, r6, zH s7 zL7 0, r8, r9])) rfl ?_
    obtain ⟨g34, H⟩ := zgd H
    refine zB.iald oX12_findMove (g := 7) (p := 23) (N := 20) (i := b) rfl rfl (by decide) rfl rfl (by decide) g34 ?_
    refine xB.run oX12_findMove 1 (s := (167, [some (.ref 7168), some (.int (zI rows)), some (.int (zI b)), none, none, none, none, none, none], [.int (zI (-9)), .int (zI (s7 23 b.toNat))], [r0, r1, r2, r3, r4, r5, r6, zH s7 zL7 0, r8, r9])) rfl ?_
    obtain ⟨g33, H⟩ := zgd H
    have H := zif H
    refine xB.brE oX12_findMove (P := (s7 23 b.toNat) = (-9)) rfl (zc_eq (a := s7 23 b.toNat) (b := (-9)) ⟨g33, by decide⟩) (fun h32 => ?_) (fun h32 => ?_)
    · have H := H.1 h32
      obtain rfl := Option.some.inj H
      exact K
    · have H := H.2 h32
      refine zB.inc oX12_findMove rfl (lv2 := [some (.ref 7168), some (.int (zI rows)), some (.int (zI (b + 1))), none, none, none, none, none, none]) (zi_inc (a := 0) (zi_addp1 b) _ rfl) ?_
      refine xB.run oX12_findMove 1 (s := (159, [some (.ref 7168), some (.int (zI rows)), some (.int (zI (b + 1))), none, none, none, none, none, none], [], [r0, r1, r2, r3, r4, r5, r6, zH s7 zL7 0, r8, r9])) rfl ?_
      exact ih (b + 1) H K
set_option maxRecDepth 20000 in
theorem l_X12_findMove_181 (r0 : List va_E) (r1 : List va_E) (r2 : List va_E) (r3 : List va_E) (r4 : List va_E) (r5 : List va_E) (r6 : List va_E) (s7 : zZ) (r8 : List va_E) (r9 : List va_E) (rows : Int) (b : Int) {r : Option Value} {hp1 : xH} : ∀ (uN : Nat) (k : Int) (v5 : Int) {uX : Int × Int}, d_X12_findMove_181 s7 rows b uN k v5 = some uX → (xBody MX12_findMove 4 245 [some (.ref 7168), some (.int (zI rows)), some (.int (zI b)), some (.long (zJ uX.1)), none, some (.int (zI uX.2)), none, none, none] [] ([r0, r1, r2, r3, r4, r5, r6, zH s7 zL7 0, r8, r9]) r hp1) → xBody MX12_findMove 4 181 [some (.ref 7168), some (.int (zI rows)), some (.int (zI b)), some (.long (zJ k)), none, some (.int (zI v5)), none, none, none] [] ([r0, r1, r2, r3, r4, r5, r6, zH s7 zL7 0, r8, r9]) r hp1 := by
  intro uN
  induction uN with
  | zero => intro k v5 uX H K; cases H
  | succ uN ih =>
    intro k v5 uX H K
    unfold d_X12_findMove_181 at H
    refine xB.run oX12_findMove 4 (s := (188, [some (.ref 7168), some (.int (zI rows)), some (.int (zI b)), some (.long (zJ k)), none, some (.int (zI v5)), none, none, none], [.int (zI (s7 0 21)), .int (zI 2), .int (zI v5)], [r0, r1, r2, r3, r4, r5, r6, zH s7 zL7 0, r8, r9])) rfl ?_
    refine zB.opi oX12_findMove rfl (zi_mul 2 (s7 0 21)) ?_
    obtain ⟨g48, H⟩ := zgd H
    have H := zif H
    refine xB.brE oX12_findMove (P := (2 * (s7 0 21)) ≤ v5) rfl (zc_ge (a := v5) (b := 2 * (s7 0 21)) g48) (fun h37 => ?_) (fun h37 => ?_)
    · have H := H.1 h37
      obtain rfl := Option.some.inj H
      exact K
    · have H := H.2 h37
      refine xB.run oX12_findMove 3 (s := (198, [some (.ref 7168), some (.int (zI rows)), some (.int (zI b)), some (.long (zJ k)), none, some (.int (zI v5)), none, none, none], [.int (zI v5), .ref 7191], [r0, r1, r2, r3, r4, r5, r6, zH s7 zL7 0, r8, r9])) rfl ?_
      obtain ⟨g47, H⟩ := zgd H
      refine zB.iald oX12_findMove (g := 7) (p := 23) (N := 20) (i := v5) rfl rfl (by decide) rfl rfl (by decide) g47 ?_
      refine xB.run oX12_findMove 1 (s := (201, [some (.ref 7168), some (.int (zI rows)), some (.int (zI b)), some (.long (zJ k)), none, some (.int (zI v5)), none, none, none], [.int (zI (-9)), .int (zI (s7 23 v5.toNat))], [r0, r1, r2, r3, r4, r5, r6, zH s7 zL7 0, r8, r9])) rfl ?_
      obtain ⟨g46, H⟩ := zgd H
      have H := zif H
      refine xB.brE oX12_findMove (P := (s7 23 v5.toNat) = (-9)) rfl (zc_eq (a := s7 23 v5.toNat) (b := (-9)) ⟨g46, by decide⟩) (fun h38 => ?_) (fun h38 => ?_)
      · have H := H.1 h38
        refine zB.inc oX12_findMove rfl (lv2 := [some (.ref 7168), some (.int (zI rows)), some (.int (zI b)), some (.long (zJ k)), none, some (.int (zI (v5 + 1))), none, none, none]) (zi_inc (a := 0) (zi_addp1 v5) _ rfl) ?_
        refine xB.run oX12_findMove 1 (s := (181, [some (.ref 7168), some (.int (zI rows)), some (.int (zI b)), some (.long (zJ k)), none, some (.int (zI (v5 + 1))), none, none, none], [], [r0, r1, r2, r3, r4, r5, r6, zH s7 zL7 0, r8, r9])) rfl ?_
        exact ih k (v5 + 1) H K
      · have H := H.2 h38
        refine xB.run oX12_findMove 6 (s := (216, [some (.ref 7168), some (.int (zI rows)), some (.int (zI b)), some (.long (zJ k)), none, some (.int (zI v5)), none, none, none], [.int (zI v5), .ref 7191, .int (zI 20), .ref 7190], [r0, r1, r2, r3, r4, r5, r6, zH s7 zL7 0, r8, r9])) rfl ?_
        obtain ⟨g45, H⟩ := zgd H
        refine zB.iald oX12_findMove (g := 7) (p := 23) (N := 20) (i := v5) rfl rfl (by decide) rfl rfl (by decide) g45 ?_
        refine zB.opi oX12_findMove rfl (zi_mul 20 (s7 23 v5.toNat)) ?_
        refine xB.run oX12_findMove 1 (s := (220, [some (.ref 7168), some (.int (zI rows)), some (.int (zI b)), some (.long (zJ k)), none, some (.int (zI v5)), none, none, none], [.int (zI v5), .int (zI (20 * (s7 23 v5.toNat))), .ref 7190], [r0, r1, r2, r3, r4, r5, r6, zH s7 zL7 0, r8, r9])) rfl ?_
        refine zB.opi oX12_findMove rfl (zi_add (20 * (s7 23 v5.toNat)) v5) ?_
        obtain ⟨g44, H⟩ := zgd H
        refine zB.lald oX12_findMove (g := 7) (p := 22) (N := 320) (i := (20 * (s7 23 v5.toNat)) + v5) rfl rfl (by decide) rfl rfl (by decide) g44 ?_
        obtain ⟨y39, e40, H⟩ := zbd H
        refine xB.call oX12_findMove (M2 := MX12_size) rfl rfl ((t_X12_size r0 r1 r2 r3 r4 r5 r6 (zH s7 zL7 0) r8 r9 (s7 22 ((20 * (s7 23 v5.toNat)) + v5).toNat) e40).deep (by decide : 0 ≤ 3)) ?_
        show xBody MX12_findMove 4 225 [some (.ref 7168), some (.int (zI rows)), some (.int (zI b)), some (.long (zJ k)), none, some (.int (zI v5)), none, none, none] [.long (zJ y39)] ([r0, r1, r2, r3, r4, r5, r6, zH s7 zL7 0, r8, r9]) _ _
        refine xB.run oX12_findMove 4 (s := (231, [some (.ref 7168), some (.int (zI rows)), some (.int (zI b)), some (.long (zJ k)), none, some (.int (zI v5)), some (.long (zJ y39)), none, none], [.long (zJ y39), .long (zJ k), .long (zJ k)], [r0, r1, r2, r3, r4, r5, r6, zH s7 zL7 0, r8, r9])) rfl ?_
        obtain ⟨y41, e42, H⟩ := zbd H
        refine xB.call oX12_findMove (M2 := MX12_common) rfl rfl ((t_X12_common r0 r1 r2 r3 r4 r5 r6 (zH s7 zL7 0) r8 r9 k y39 e42).deep (by decide : 1 ≤ 3)) ?_
        show xBody MX12_findMove 4 234 [some (.ref 7168), some (.int (zI rows)), some (.int (zI b)), some (.long (zJ k)), none, some (.int (zI v5)), some (.long (zJ y39)), none, none] [.long (zJ y41), .long (zJ k)] ([r0, r1, r2, r3, r4, r5, r6, zH s7 zL7 0, r8, r9]) _ _
        obtain ⟨g43, H⟩ := zgd H
        refine zB.divl oX12_findMove (b := y41) rfl (zj_div ⟨g43.1, g43.2.2⟩) rfl g43.2 ?_
        refine xB.run oX12_findMove 1 (s := (237, [some (.ref 7168), some (.int (zI rows)), some (.int (zI b)), some (.long (zJ k)), none, some (.int (zI v5)), some (.long (zJ y39)), none, none], [.long (zJ y39), .long (zJ (k.tdiv y41))], [r0, r1, r2, r3, r4, r5, r6, zH s7 zL7 0, r8, r9])) rfl ?_
        refine zB.opl oX12_findMove rfl (zj_mul (k.tdiv y41) y39) ?_
        refine xB.run oX12_findMove 1 (s := (239, [some (.ref 7168), some (.int (zI rows)), some (.int (zI b)), some (.long (zJ ((k.tdiv y41) * y39))), none, some (.int (zI v5)), some (.long (zJ y39)), none, none], [], [r0, r1, r2, r3, r4, r5, r6, zH s7 zL7 0, r8, r9])) rfl ?_
        refine zB.inc oX12_findMove rfl (lv2 := [some (.ref 7168), some (.int (zI rows)), some (.int (zI b)), some (.long (zJ ((k.tdiv y41) * y39))), none, some (.int (zI (v5 + 1))), some (.long (zJ y39)), none, none]) (zi_inc (a := 0) (zi_addp1 v5) _ rfl) ?_
        refine xB.run oX12_findMove 1 (s := (181, [some (.ref 7168), some (.int (zI rows)), some (.int (zI b)), some (.long (zJ ((k.tdiv y41) * y39))), none, some (.int (zI (v5 + 1))), some (.long (zJ y39)), none, none], [], [r0, r1, r2, r3, r4, r5, r6, zH s7 zL7 0, r8, r9])) rfl ?_
        refine xB.forget (lv1 := [some (.ref 7168), some (.int (zI rows)), some (.int (zI b)), some (.long (zJ ((k.tdiv y41) * y39))), none, some (.int (zI (v5 + 1))), none, none, none]) (xle_same (xle_same (xle_same (xle_same (xle_same (xle_same (xle_none (xle_same (xle_same (xle_nil)))))))))) ?_
        exact ih ((k.tdiv y41) * y39) (v5 + 1) H K
set_option maxRecDepth 20000 in
theorem l_X12_findMove_251 (r0 : List va_E) (r1 : List va_E) (r2 : List va_E) (r3 : List va_E) (r4 : List va_E) (r5 : List va_E) (r6 : List va_E) (r8 : List va_E) (r9 : List va_E) (rows : Int) (b : Int) (k : Int) {r : Option Value} {hp1 : xH} : ∀ (uN : Nat) (v5 : Int) (v7 : Int) (s7 : zZ) {uX : Int × Int × zZ}, d_X12_findMove_251 rows b k uN v5 v7 s7 = some uX → (xBody MX12_findMove 4 354 [some (.ref 7168), some (.int (zI rows)), some (.int (zI b)), some (.long (zJ k)), none, some (.long (zJ uX.1)), none, some (.int (zI uX.2.1)), none] [] ([r0, r1, r2, r3, r4, r5, r6, zH uX.2.2 zL7 0, r8, r9]) r hp1) → xBody MX12_findMove 4 251 [some (.ref 7168), some (.int (zI rows)), some (.int (zI b)), some (.long (zJ k)), none, some (.long (zJ v5)), none, some (.int (zI v7)), none] [] ([r0, r1, r2, r3, r4, r5, r6, zH s7 zL7 0, r8, r9]) r hp1 := by
  intro uN
  induction uN with
  | zero => intro v5 v7 s7 uX H K; cases H
  | succ uN ih =>
    intro v5 v7 s7 uX H K
    unfold d_X12_findMove_251 at H
    refine xB.run oX12_findMove 4 (s := (258, [some (.ref 7168), some (.int (zI rows)), some (.int (zI b)), some (.long (zJ k)), none, some (.long (zJ v5)), none, some (.int (zI v7)), none], [.int (zI (s7 0 21)), .int (zI 2), .int (zI v7)], [r0, r1, r2, r3, r4, r5, r6, zH s7 zL7 0, r8, r9])) rfl ?_
    refine zB.opi oX12_findMove rfl (zi_mul 2 (s7 0 21)) ?_
    obtain ⟨g74, H⟩ := zgd H
    have H := zif H
    refine xB.brE oX12_findMove (P := (2 * (s7 0 21)) ≤ v7) rfl (zc_ge (a := v7) (b := 2 * (s7 0 21)) g74) (fun h51 => ?_) (fun h51 => ?_)
    · have H := H.1 h51
      obtain rfl := Option.some.inj H
      exact K
    · have H := H.2 h51
      refine xB.run oX12_findMove 5 (s := (271, [some (.ref 7168), some (.int (zI rows)), some (.int (zI b)), some (.long (zJ k)), none, some (.long (zJ v5)), none, some (.int (zI v7)), none], [.int (zI b), .int (zI v7), .int (zI v7), .ref 7193], [r0, r1, r2, r3, r4, r5, r6, zH s7 zL7 0, r8, r9])) rfl ?_
      obtain ⟨g73, H⟩ := zgd H
      have H := zif H
      refine xB.brE oX12_findMove (P := v7 ≠ b) rfl (zc_ne (a := v7) (b := b) g73) (fun h52 => ?_) (fun h52 => ?_)
      · have H := H.1 h52
        refine xB.run oX12_findMove 3 (s := (284, [some (.ref 7168), some (.int (zI rows)), some (.int (zI b)), some (.long (zJ k)), none, some (.long (zJ v5)), none, some (.int (zI v7)), none], [.int (zI v7), .ref 7191, .int (zI v7), .ref 7193], [r0, r1, r2, r3, r4, r5, r6, zH s7 zL7 0, r8, r9])) rfl ?_
        obtain ⟨g68, H⟩ := zgd H
        refine zB.iald oX12_findMove (g := 7) (p := 23) (N := 20) (i := v7) rfl rfl (by decide) rfl rfl (by decide) g68 ?_
        refine xB.run oX12_findMove 1 (s := (287, [some (.ref 7168), some (.int (zI rows)), some (.int (zI b)), some (.long (zJ k)), none, some (.long (zJ v5)), none, some (.int (zI v7)), none], [.int (zI (-9)), .int (zI (s7 23 v7.toNat)), .int (zI v7), .ref 7193], [r0, r1, r2, r3, r4, r5, r6, zH s7 zL7 0, r8, r9])) rfl ?_
        obtain ⟨g67, H⟩ := zgd H
        have H := zif H
        refine xB.brE oX12_findMove (P := (s7 23 v7.toNat) ≠ (-9)) rfl (zc_ne (a := s7 23 v7.toNat) (b := (-9)) ⟨g67, by decide⟩) (fun h53 => ?_) (fun h53 => ?_)
        · have H := H.1 h53
          refine xB.run oX12_findMove 6 (s := (306, [some (.ref 7168), some (.int (zI rows)), some (.int (zI b)), some (.long (zJ k)), none, some (.long (zJ v5)), none, some (.int (zI v7)), none], [.int (zI v7), .ref 7191, .int (zI 20), .ref 7190, .int (zI v7), .ref 7193], [r0, r1, r2, r3, r4, r5, r6, zH s7 zL7 0, r8, r9])) rfl ?_
          obtain ⟨g62, H⟩ := zgd H
          refine zB.iald oX12_findMove (g := 7) (p := 23) (N := 20) (i := v7) rfl rfl (by decide) rfl rfl (by decide) g62 ?_
          refine zB.opi oX12_findMove rfl (zi_mul 20 (s7 23 v7.toNat)) ?_
          refine xB.run oX12_findMove 1 (s := (309, [some (.ref 7168), some (.int (zI rows)), some (.int (zI b)), some (.long (zJ k)), none, some (.long (zJ v5)), none, some (.int (zI v7)), none], [.int (zI b), .int (zI (20 * (s7 23 v7.toNat))), .ref 7190, .int (zI v7), .ref 7193], [r0, r1, r2, r3, r4, r5, r6, zH s7 zL7 0, r8, r9])) rfl ?_
          refine zB.opi oX12_findMove rfl (zi_add (20 * (s7 23 v7.toNat)) b) ?_
          obtain ⟨g61, H⟩ := zgd H
          refine zB.lald oX12_findMove (g := 7) (p := 22) (N := 320) (i := (20 * (s7 23 v7.toNat)) + b) rfl rfl (by decide) rfl rfl (by decide) g61 ?_
          refine zB.opl oX12_findMove rfl (zj_neg (s7 22 ((20 * (s7 23 v7.toNat)) + b).toNat)) ?_
          refine xB.run oX12_findMove 1 (s := (313, [some (.ref 7168), some (.int (zI rows)), some (.int (zI b)), some (.long (zJ k)), none, some (.long (zJ v5)), none, some (.int (zI v7)), none], [.long (zJ k), .long (zJ (-(s7 22 ((20 * (s7 23 v7.toNat)) + b).toNat))), .int (zI v7), .ref 7193], [r0, r1, r2, r3, r4, r5, r6, zH s7 zL7 0, r8, r9])) rfl ?_
          refine zB.opl oX12_findMove rfl (zj_mul (-(s7 22 ((20 * (s7 23 v7.toNat)) + b).toNat)) k) ?_
          refine xB.run oX12_findMove 6 (s := (326, [some (.ref 7168), some (.int (zI rows)), some (.int (zI b)), some (.long (zJ k)), none, some (.long (zJ v5)), none, some (.int (zI v7)), none], [.int (zI v7), .ref 7191, .int (zI 20), .ref 7190, .long (zJ ((-(s7 22 ((20 * (s7 23 v7.toNat)) + b).toNat)) * k)), .int (zI v7), .ref 7193], [r0, r1, r2, r3, r4, r5, r6, zH s7 zL7 0, r8, r9])) rfl ?_
          obtain ⟨g60, H⟩ := zgd H
          refine zB.iald oX12_findMove (g := 7) (p := 23) (N := 20) (i := v7) rfl rfl (by decide) rfl rfl (by decide) g60 ?_
          refine zB.opi oX12_findMove rfl (zi_mul 20 (s7 23 v7.toNat)) ?_
          refine xB.run oX12_findMove 1 (s := (330, [some (.ref 7168), some (.int (zI rows)), some (.int (zI b)), some (.long (zJ k)), none, some (.long (zJ v5)), none, some (.int (zI v7)), none], [.int (zI v7), .int (zI (20 * (s7 23 v7.toNat))), .ref 7190, .long (zJ ((-(s7 22 ((20 * (s7 23 v7.toNat)) + b).toNat)) * k)), .int (zI v7), .ref 7193], [r0, r1, r2, r3, r4, r5, r6, zH s7 zL7 0, r8, r9])) rfl ?_
          refine zB.opi oX12_findMove rfl (zi_add (20 * (s7 23 v7.toNat)) v7) ?_
          obtain ⟨g59, H⟩ := zgd H
          refine zB.lald oX12_findMove (g := 7) (p := 22) (N := 320) (i := (20 * (s7 23 v7.toNat)) + v7) rfl rfl (by decide) rfl rfl (by decide) g59 ?_
          obtain ⟨g58, H⟩ := zgd H
          refine zB.divl oX12_findMove (b := s7 22 ((20 * (s7 23 v7.toNat)) + v7).toNat) rfl (zj_div ⟨g58.1, g58.2.2⟩) rfl g58.2 ?_
          obtain ⟨g57, H⟩ := zgd H
          refine zB.last oX12_findMove (g := 7) (p := 25) (N := 8) (i := v7) (hp1 := [r0, r1, r2, r3, r4, r5, r6, zH (upz s7 25 v7.toNat (((-(s7 22 ((20 * (s7 23 v7.toNat)) + b).toNat)) * k).tdiv (s7 22 ((20 * (s7 23 v7.toNat)) + v7).toNat))) zL7 0, r8, r9]) rfl rfl (by decide) (by decide) rfl rfl (by decide) g57 rfl ?_
          refine xB.run oX12_findMove 4 (s := (342, [some (.ref 7168), some (.int (zI rows)), some (.int (zI b)), some (.long (zJ k)), none, some (.long (zJ v5)), none, some (.int (zI v7)), none], [.int (zI v7), .ref 7193, .long (zJ v5)], [r0, r1, r2, r3, r4, r5, r6, zH (upz s7 25 v7.toNat (((-(s7 22 ((20 * (s7 23 v7.toNat)) + b).toNat)) * k).tdiv (s7 22 ((20 * (s7 23 v7.toNat)) + v7).toNat))) zL7 0, r8, r9])) rfl ?_
          obtain ⟨g56, H⟩ := zgd H
          refine zB.lald oX12_findMove (g := 7) (p := 25) (N := 8) (i := v7) rfl rfl (by decide) rfl rfl (by decide) g56 ?_
          obtain ⟨y54, e55, H⟩ := zbd H
          refine xB.call oX12_findMove (M2 := MX12_common) rfl rfl ((t_X12_common r0 r1 r2 r3 r4 r5 r6 (zH (upz s7 25 v7.toNat (((-(s7 22 ((20 * (s7 23 v7.toNat)) + b).toNat)) * k).tdiv (s7 22 ((20 * (s7 23 v7.toNat)) + v7).toNat))) zL7 0) r8 r9 v5 ((upz s7 25 v7.toNat (((-(s7 22 ((20 * (s7 23 v7.toNat)) + b).toNat)) * k).tdiv (s7 22 ((20 * (s7 23 v7.toNat)) + v7).toNat))) 25 v7.toNat) e55).deep (by decide : 1 ≤ 3)) ?_
          show xBody MX12_findMove 4 346 [some (.ref 7168), some (.int (zI rows)), some (.int (zI b)), some (.long (zJ k)), none, some (.long (zJ v5)), none, some (.int (zI v7)), none] [.long (zJ y54)] ([r0, r1, r2, r3, r4, r5, r6, zH (upz s7 25 v7.toNat (((-(s7 22 ((20 * (s7 23 v7.toNat)) + b).toNat)) * k).tdiv (s7 22 ((20 * (s7 23 v7.toNat)) + v7).toNat))) zL7 0, r8, r9]) _ _
          refine xB.run oX12_findMove 1 (s := (348, [some (.ref 7168), some (.int (zI rows)), some (.int (zI b)), some (.long (zJ k)), none, some (.long (zJ y54)), none, some (.int (zI v7)), none], [], [r0, r1, r2, r3, r4, r5, r6, zH (upz s7 25 v7.toNat (((-(s7 22 ((20 * (s7 23 v7.toNat)) + b).toNat)) * k).tdiv (s7 22 ((20 * (s7 23 v7.toNat)) + v7).toNat))) zL7 0, r8, r9])) rfl ?_
          refine zB.inc oX12_findMove rfl (lv2 := [some (.ref 7168), some (.int (zI rows)), some (.int (zI b)), some (.long (zJ k)), none, some (.long (zJ y54)), none, some (.int (zI (v7 + 1))), none]) (zi_inc (a := 0) (zi_addp1 v7) _ rfl) ?_
          refine xB.run oX12_findMove 1 (s := (251, [some (.ref 7168), some (.int (zI rows)), some (.int (zI b)), some (.long (zJ k)), none, some (.long (zJ y54)), none, some (.int (zI (v7 + 1))), none], [], [r0, r1, r2, r3, r4, r5, r6, zH (upz s7 25 v7.toNat (((-(s7 22 ((20 * (s7 23 v7.toNat)) + b).toNat)) * k).tdiv (s7 22 ((20 * (s7 23 v7.toNat)) + v7).toNat))) zL7 0, r8, r9])) rfl ?_
          exact ih y54 (v7 + 1) (upz s7 25 v7.toNat (((-(s7 22 ((20 * (s7 23 v7.toNat)) + b).toNat)) * k).tdiv (s7 22 ((20 * (s7 23 v7.toNat)) + v7).toNat))) H K
        · have H := H.2 h53
          refine xB.run oX12_findMove 2 (s := (333, [some (.ref 7168), some (.int (zI rows)), some (.int (zI b)), some (.long (zJ k)), none, some (.long (zJ v5)), none, some (.int (zI v7)), none], [.long (zJ 0), .int (zI v7), .ref 7193], [r0, r1, r2, r3, r4, r5, r6, zH s7 zL7 0, r8, r9])) rfl ?_
          obtain ⟨g66, H⟩ := zgd H
          refine zB.last oX12_findMove (g := 7) (p := 25) (N := 8) (i := v7) (hp1 := [r0, r1, r2, r3, r4, r5, r6, zH (upz s7 25 v7.toNat 0) zL7 0, r8, r9]) rfl rfl (by decide) (by decide) rfl rfl (by decide) g66 rfl ?_
          refine xB.run oX12_findMove 4 (s := (342, [some (.ref 7168), some (.int (zI rows)), some (.int (zI b)), some (.long (zJ k)), none, some (.long (zJ v5)), none, some (.int (zI v7)), none], [.int (zI v7), .ref 7193, .long (zJ v5)], [r0, r1, r2, r3, r4, r5, r6, zH (upz s7 25 v7.toNat 0) zL7 0, r8, r9])) rfl ?_
          obtain ⟨g65, H⟩ := zgd H
          refine zB.lald oX12_findMove (g := 7) (p := 25) (N := 8) (i := v7) rfl rfl (by decide) rfl rfl (by decide) g65 ?_
          obtain ⟨y63, e64, H⟩ := zbd H
          refine xB.call oX12_findMove (M2 := MX12_common) rfl rfl ((t_X12_common r0 r1 r2 r3 r4 r5 r6 (zH (upz s7 25 v7.toNat 0) zL7 0) r8 r9 v5 ((upz s7 25 v7.toNat 0) 25 v7.toNat) e64).deep (by decide : 1 ≤ 3)) ?_
          show xBody MX12_findMove 4 346 [some (.ref 7168), some (.int (zI rows)), some (.int (zI b)), some (.long (zJ k)), none, some (.long (zJ v5)), none, some (.int (zI v7)), none] [.long (zJ y63)] ([r0, r1, r2, r3, r4, r5, r6, zH (upz s7 25 v7.toNat 0) zL7 0, r8, r9]) _ _
          refine xB.run oX12_findMove 1 (s := (348, [some (.ref 7168), some (.int (zI rows)), some (.int (zI b)), some (.long (zJ k)), none, some (.long (zJ y63)), none, some (.int (zI v7)), none], [], [r0, r1, r2, r3, r4, r5, r6, zH (upz s7 25 v7.toNat 0) zL7 0, r8, r9])) rfl ?_
          refine zB.inc oX12_findMove rfl (lv2 := [some (.ref 7168), some (.int (zI rows)), some (.int (zI b)), some (.long (zJ k)), none, some (.long (zJ y63)), none, some (.int (zI (v7 + 1))), none]) (zi_inc (a := 0) (zi_addp1 v7) _ rfl) ?_
          refine xB.run oX12_findMove 1 (s := (251, [some (.ref 7168), some (.int (zI rows)), some (.int (zI b)), some (.long (zJ k)), none, some (.long (zJ y63)), none, some (.int (zI (v7 + 1))), none], [], [r0, r1, r2, r3, r4, r5, r6, zH (upz s7 25 v7.toNat 0) zL7 0, r8, r9])) rfl ?_
          exact ih y63 (v7 + 1) (upz s7 25 v7.toNat 0) H K
      · have H := H.2 h52
        refine xB.run oX12_findMove 2 (s := (333, [some (.ref 7168), some (.int (zI rows)), some (.int (zI b)), some (.long (zJ k)), none, some (.long (zJ v5)), none, some (.int (zI v7)), none], [.long (zJ k), .int (zI v7), .ref 7193], [r0, r1, r2, r3, r4, r5, r6, zH s7 zL7 0, r8, r9])) rfl ?_
        obtain ⟨g72, H⟩ := zgd H
        refine zB.last oX12_findMove (g := 7) (p := 25) (N := 8) (i := v7) (hp1 := [r0, r1, r2, r3, r4, r5, r6, zH (upz s7 25 v7.toNat k) zL7 0, r8, r9]) rfl rfl (by decide) (by decide) rfl rfl (by decide) g72 rfl ?_
        refine xB.run oX12_findMove 4 (s := (342, [some (.ref 7168), some (.int (zI rows)), some (.int (zI b)), some (.long (zJ k)), none, some (.long (zJ v5)), none, some (.int (zI v7)), none], [.int (zI v7), .ref 7193, .long (zJ v5)], [r0, r1, r2, r3, r4, r5, r6, zH (upz s7 25 v7.toNat k) zL7 0, r8, r9])) rfl ?_
        obtain ⟨g71, H⟩ := zgd H
        refine zB.lald oX12_findMove (g := 7) (p := 25) (N := 8) (i := v7) rfl rfl (by decide) rfl rfl (by decide) g71 ?_
        obtain ⟨y69, e70, H⟩ := zbd H
        refine xB.call oX12_findMove (M2 := MX12_common) rfl rfl ((t_X12_common r0 r1 r2 r3 r4 r5 r6 (zH (upz s7 25 v7.toNat k) zL7 0) r8 r9 v5 ((upz s7 25 v7.toNat k) 25 v7.toNat) e70).deep (by decide : 1 ≤ 3)) ?_
        show xBody MX12_findMove 4 346 [some (.ref 7168), some (.int (zI rows)), some (.int (zI b)), some (.long (zJ k)), none, some (.long (zJ v5)), none, some (.int (zI v7)), none] [.long (zJ y69)] ([r0, r1, r2, r3, r4, r5, r6, zH (upz s7 25 v7.toNat k) zL7 0, r8, r9]) _ _
        refine xB.run oX12_findMove 1 (s := (348, [some (.ref 7168), some (.int (zI rows)), some (.int (zI b)), some (.long (zJ k)), none, some (.long (zJ y69)), none, some (.int (zI v7)), none], [], [r0, r1, r2, r3, r4, r5, r6, zH (upz s7 25 v7.toNat k) zL7 0, r8, r9])) rfl ?_
        refine zB.inc oX12_findMove rfl (lv2 := [some (.ref 7168), some (.int (zI rows)), some (.int (zI b)), some (.long (zJ k)), none, some (.long (zJ y69)), none, some (.int (zI (v7 + 1))), none]) (zi_inc (a := 0) (zi_addp1 v7) _ rfl) ?_
        refine xB.run oX12_findMove 1 (s := (251, [some (.ref 7168), some (.int (zI rows)), some (.int (zI b)), some (.long (zJ k)), none, some (.long (zJ y69)), none, some (.int (zI (v7 + 1))), none], [], [r0, r1, r2, r3, r4, r5, r6, zH (upz s7 25 v7.toNat k) zL7 0, r8, r9])) rfl ?_
        exact ih y69 (v7 + 1) (upz s7 25 v7.toNat k) H K
set_option maxRecDepth 20000 in
theorem l_X12_findMove_357 (r0 : List va_E) (r1 : List va_E) (r2 : List va_E) (r3 : List va_E) (r4 : List va_E) (r5 : List va_E) (r6 : List va_E) (s7 : zZ) (r8 : List va_E) (r9 : List va_E) (rows : Int) (b : Int) (k : Int) (v5 : Int) {r : Option Value} {hp1 : xH} : ∀ (uN : Nat) (v7 : Int) {uX : Int}, d_X12_findMove_357 s7 rows b k v5 uN v7 = some uX → (xBody MX12_findMove 4 375 [some (.ref 7168), some (.int (zI rows)), some (.int (zI b)), some (.long (zJ k)), none, some (.long (zJ v5)), none, some (.int (zI uX)), none] [] ([r0, r1, r2, r3, r4, r5, r6, zH s7 zL7 0, r8, r9]) r hp1) → xBody MX12_findMove 4 357 [some (.ref 7168), some (.int (zI rows)), some (.int (zI b)), some (.long (zJ k)), none, some (.long (zJ v5)), none, some (.int (zI v7)), none] [] ([r0, r1, r2, r3, r4, r5, r6, zH s7 zL7 0, r8, r9]) r hp1 := by
  intro uN
  induction uN with
  | zero => intro v7 uX H K; cases H
  | succ uN ih =>
    intro v7 uX H K
    unfold d_X12_findMove_357 at H
    refine xB.run oX12_findMove 3 (s := (363, [some (.ref 7168), some (.int (zI rows)), some (.int (zI b)), some (.long (zJ k)), none, some (.long (zJ v5)), none, some (.int (zI v7)), none], [.int (zI v7), .ref 7193], [r0, r1, r2, r3, r4, r5, r6, zH s7 zL7 0, r8, r9])) rfl ?_
    obtain ⟨g79, H⟩ := zgd H
    refine zB.lald oX12_findMove (g := 7) (p := 25) (N := 8) (i := v7) rfl rfl (by decide) rfl rfl (by decide) g79 ?_
    refine xB.run oX12_findMove 2 (s := (366, [some (.ref 7168), some (.int (zI rows)), some (.int (zI b)), some (.long (zJ k)), none, some (.long (zJ v5)), none, some (.int (zI v7)), none], [.int (lg_cmp (zJ (s7 25 v7.toNat)) (zJ 0))], [r0, r1, r2, r3, r4, r5, r6, zH s7 zL7 0, r8, r9])) rfl ?_
    obtain ⟨g78, H⟩ := zgd H
    have H := zif H
    refine xB.brE oX12_findMove (P := (s7 25 v7.toNat) ≠ 0) rfl (zl_ne (a := s7 25 v7.toNat) (b := 0) ⟨g78, by decide⟩) (fun h77 => ?_) (fun h77 => ?_)
    · have H := H.1 h77
      obtain rfl := Option.some.inj H
      exact K
    · have H := H.2 h77
      refine zB.inc oX12_findMove rfl (lv2 := [some (.ref 7168), some (.int (zI rows)), some (.int (zI b)), some (.long (zJ k)), none, some (.long (zJ v5)), none, some (.int (zI (v7 + 1))), none]) (zi_inc (a := 0) (zi_addp1 v7) _ rfl) ?_
      refine xB.run oX12_findMove 1 (s := (357, [some (.ref 7168), some (.int (zI rows)), some (.int (zI b)), some (.long (zJ k)), none, some (.long (zJ v5)), none, some (.int (zI (v7 + 1))), none], [], [r0, r1, r2, r3, r4, r5, r6, zH s7 zL7 0, r8, r9])) rfl ?_
      exact ih (v7 + 1) H K
set_option maxRecDepth 20000 in
theorem l_X12_findMove_400 (r0 : List va_E) (r1 : List va_E) (r2 : List va_E) (r3 : List va_E) (r4 : List va_E) (r5 : List va_E) (r6 : List va_E) (r8 : List va_E) (r9 : List va_E) (rows : Int) (b : Int) (k : Int) (v5 : Int) (v7 : Int) {r : Option Value} {hp1 : xH} : ∀ (uN : Nat) (v8 : Int) (s7 : zZ) {uX : Int × zZ}, d_X12_findMove_400 rows b k v5 v7 uN v8 s7 = some uX → (xBody MX12_findMove 4 429 [some (.ref 7168), some (.int (zI rows)), some (.int (zI b)), some (.long (zJ k)), none, some (.long (zJ v5)), none, some (.int (zI v7)), some (.int (zI uX.1))] [] ([r0, r1, r2, r3, r4, r5, r6, zH uX.2 zL7 0, r8, r9]) r hp1) → xBody MX12_findMove 4 400 [some (.ref 7168), some (.int (zI rows)), some (.int (zI b)), some (.long (zJ k)), none, some (.long (zJ v5)), none, some (.int (zI v7)), some (.int (zI v8))] [] ([r0, r1, r2, r3, r4, r5, r6, zH s7 zL7 0, r8, r9]) r hp1 := by
  intro uN
  induction uN with
  | zero => intro v8 s7 uX H K; cases H
  | succ uN ih =>
    intro v8 s7 uX H K
    unfold d_X12_findMove_400 at H
    refine xB.run oX12_findMove 4 (s := (407, [some (.ref 7168), some (.int (zI rows)), some (.int (zI b)), some (.long (zJ k)), none, some (.long (zJ v5)), none, some (.int (zI v7)), some (.int (zI v8))], [.int (zI (s7 0 21)), .int (zI 2), .int (zI v8)], [r0, r1, r2, r3, r4, r5, r6, zH s7 zL7 0, r8, r9])) rfl ?_
    refine zB.opi oX12_findMove rfl (zi_mul 2 (s7 0 21)) ?_
    obtain ⟨g87, H⟩ := zgd H
    have H := zif H
    refine xB.brE oX12_findMove (P := (2 * (s7 0 21)) ≤ v8) rfl (zc_ge (a := v8) (b := 2 * (s7 0 21)) g87) (fun h83 => ?_) (fun h83 => ?_)
    · have H := H.1 h83
      obtain rfl := Option.some.inj H
      exact K
    · have H := H.2 h83
      refine xB.run oX12_findMove 4 (s := (418, [some (.ref 7168), some (.int (zI rows)), some (.int (zI b)), some (.long (zJ k)), none, some (.long (zJ v5)), none, some (.int (zI v7)), some (.int (zI v8))], [.int (zI v8), .ref 7193, .int (zI v8), .ref 7193], [r0, r1, r2, r3, r4, r5, r6, zH s7 zL7 0, r8, r9])) rfl ?_
      obtain ⟨g86, H⟩ := zgd H
      refine zB.lald oX12_findMove (g := 7) (p := 25) (N := 8) (i := v8) rfl rfl (by decide) rfl rfl (by decide) g86 ?_
      refine xB.run oX12_findMove 1 (s := (421, [some (.ref 7168), some (.int (zI rows)), some (.int (zI b)), some (.long (zJ k)), none, some (.long (zJ v5)), none, some (.int (zI v7)), some (.int (zI v8))], [.long (zJ v5), .long (zJ (s7 25 v8.toNat)), .int (zI v8), .ref 7193], [r0, r1, r2, r3, r4, r5, r6, zH s7 zL7 0, r8, r9])) rfl ?_
      obtain ⟨g85, H⟩ := zgd H
      refine zB.divl oX12_findMove (b := v5) rfl (zj_div ⟨g85.1, g85.2.2⟩) rfl g85.2 ?_
      obtain ⟨g84, H⟩ := zgd H
      refine zB.last oX12_findMove (g := 7) (p := 25) (N := 8) (i := v8) (hp1 := [r0, r1, r2, r3, r4, r5, r6, zH (upz s7 25 v8.toNat ((s7 25 v8.toNat).tdiv v5)) zL7 0, r8, r9]) rfl rfl (by decide) (by decide) rfl rfl (by decide) g84 rfl ?_
      refine zB.inc oX12_findMove rfl (lv2 := [some (.ref 7168), some (.int (zI rows)), some (.int (zI b)), some (.long (zJ k)), none, some (.long (zJ v5)), none, some (.int (zI v7)), some (.int (zI (v8 + 1)))]) (zi_inc (a := 0) (zi_addp1 v8) _ rfl) ?_
      refine xB.run oX12_findMove 1 (s := (400, [some (.ref 7168), some (.int (zI rows)), some (.int (zI b)), some (.long (zJ k)), none, some (.long (zJ v5)), none, some (.int (zI v7)), some (.int (zI (v8 + 1)))], [], [r0, r1, r2, r3, r4, r5, r6, zH (upz s7 25 v8.toNat ((s7 25 v8.toNat).tdiv v5)) zL7 0, r8, r9])) rfl ?_
      exact ih (v8 + 1) (upz s7 25 v8.toNat ((s7 25 v8.toNat).tdiv v5)) H K
set_option maxRecDepth 20000 in
theorem t_X12_findMove (r0 : List va_E) (r1 : List va_E) (r2 : List va_E) (r3 : List va_E) (r4 : List va_E) (r5 : List va_E) (r6 : List va_E) (s7 : zZ) (r8 : List va_E) (r9 : List va_E) {rr : zZ} (H : d_X12_findMove s7 = some rr) : xC MX12_findMove 4 [.ref 7168] ([r0, r1, r2, r3, r4, r5, r6, zH s7 zL7 0, r8, r9]) (none) ([r0, r1, r2, r3, r4, r5, r6, zH rr zL7 0, r8, r9]) := by
  refine ⟨Nat.le_of_ble_eq_true rfl, ?_⟩
  show xBody MX12_findMove 4 0 [some (.ref 7168), none, none, none, none, none, none, none, none] [] ([r0, r1, r2, r3, r4, r5, r6, zH s7 zL7 0, r8, r9]) _ _
  unfold d_X12_findMove at H
  refine xB.run oX12_findMove 4 (s := (4, [some (.ref 7168), some (.int (zI 0)), some (.int (zI 0)), none, none, none, none, none, none], [], [r0, r1, r2, r3, r4, r5, r6, zH s7 zL7 0, r8, r9])) rfl ?_
  obtain ⟨y28, e29, H⟩ := zbd H
  refine l_X12_findMove_4 r0 r1 r2 r3 r4 r5 r6 r8 r9  _ 0 0 s7 e29 ?_
  refine xB.run oX12_findMove 5 (s := (147, [some (.ref 7168), some (.int (zI y28.1)), some (.int (zI y28.2.1)), none, none, none, none, none, none], [.int (zI (y28.2.2 0 21)), .int (zI 2), .int (zI y28.1), .ref 7168], [r0, r1, r2, r3, r4, r5, r6, zH y28.2.2 zL7 0, r8, r9])) rfl ?_
  refine zB.opi oX12_findMove rfl (zi_mul 2 (y28.2.2 0 21)) ?_
  refine xB.run oX12_findMove 3 (s := (153, [some (.ref 7168), some (.int (zI y28.1)), some (.int (zI y28.2.1)), none, none, none, none, none, none], [.int (zI (y28.2.2 0 21)), .int (zI 2), .int (zI (2 * (y28.2.2 0 21))), .int (zI y28.1), .ref 7168], [r0, r1, r2, r3, r4, r5, r6, zH y28.2.2 zL7 0, r8, r9])) rfl ?_
  refine zB.opi oX12_findMove rfl (zi_mul 2 (y28.2.2 0 21)) ?_
  obtain ⟨y30, e31, H⟩ := zbd H
  refine xB.call oX12_findMove (M2 := MX12_reduce) rfl rfl ((t_X12_reduce r0 r1 r2 r3 r4 r5 r6 y28.2.2 r8 r9 y28.1 (2 * (y28.2.2 0 21)) (2 * (y28.2.2 0 21)) e31).deep (by decide : 3 ≤ 3)) ?_
  show xBody MX12_findMove 4 157 [some (.ref 7168), some (.int (zI y28.1)), some (.int (zI y28.2.1)), none, none, none, none, none, none] [] ([r0, r1, r2, r3, r4, r5, r6, zH y30 zL7 0, r8, r9]) _ _
  refine xB.run oX12_findMove 2 (s := (159, [some (.ref 7168), some (.int (zI y28.1)), some (.int (zI 0)), none, none, none, none, none, none], [], [r0, r1, r2, r3, r4, r5, r6, zH y30 zL7 0, r8, r9])) rfl ?_
  obtain ⟨y35, e36, H⟩ := zbd H
  refine l_X12_findMove_159 r0 r1 r2 r3 r4 r5 r6 y30 r8 r9 y28.1 _ 0 e36 ?_
  refine xB.run oX12_findMove 4 (s := (181, [some (.ref 7168), some (.int (zI y28.1)), some (.int (zI y35)), some (.long (zJ 1)), none, some (.int (zI 0)), none, none, none], [], [r0, r1, r2, r3, r4, r5, r6, zH y30 zL7 0, r8, r9])) rfl ?_
  obtain ⟨y49, e50, H⟩ := zbd H
  refine l_X12_findMove_181 r0 r1 r2 r3 r4 r5 r6 y30 r8 r9 y28.1 y35 _ 1 0 e50 ?_
  refine xB.run oX12_findMove 4 (s := (251, [some (.ref 7168), some (.int (zI y28.1)), some (.int (zI y35)), some (.long (zJ y49.1)), none, some (.long (zJ 0)), none, some (.int (zI 0)), none], [], [r0, r1, r2, r3, r4, r5, r6, zH y30 zL7 0, r8, r9])) rfl ?_
  obtain ⟨y75, e76, H⟩ := zbd H
  refine l_X12_findMove_251 r0 r1 r2 r3 r4 r5 r6 r8 r9 y28.1 y35 y49.1 _ 0 0 y30 e76 ?_
  refine xB.run oX12_findMove 2 (s := (357, [some (.ref 7168), some (.int (zI y28.1)), some (.int (zI y35)), some (.long (zJ y49.1)), none, some (.long (zJ y75.1)), none, some (.int (zI 0)), none], [], [r0, r1, r2, r3, r4, r5, r6, zH y75.2.2 zL7 0, r8, r9])) rfl ?_
  obtain ⟨y80, e81, H⟩ := zbd H
  refine l_X12_findMove_357 r0 r1 r2 r3 r4 r5 r6 y75.2.2 r8 r9 y28.1 y35 y49.1 y75.1 _ 0 e81 ?_
  refine xB.run oX12_findMove 3 (s := (381, [some (.ref 7168), some (.int (zI y28.1)), some (.int (zI y35)), some (.long (zJ y49.1)), none, some (.long (zJ y75.1)), none, some (.int (zI y80)), none], [.int (zI y80), .ref 7193], [r0, r1, r2, r3, r4, r5, r6, zH y75.2.2 zL7 0, r8, r9])) rfl ?_
  obtain ⟨g93, H⟩ := zgd H
  refine zB.lald oX12_findMove (g := 7) (p := 25) (N := 8) (i := y80) rfl rfl (by decide) rfl rfl (by decide) g93 ?_
  refine xB.run oX12_findMove 2 (s := (384, [some (.ref 7168), some (.int (zI y28.1)), some (.int (zI y35)), some (.long (zJ y49.1)), none, some (.long (zJ y75.1)), none, some (.int (zI y80)), none], [.int (lg_cmp (zJ (y75.2.2 25 y80.toNat)) (zJ 0))], [r0, r1, r2, r3, r4, r5, r6, zH y75.2.2 zL7 0, r8, r9])) rfl ?_
  obtain ⟨g92, H⟩ := zgd H
  have H := zif H
  refine xB.brE oX12_findMove (P := (0 : Int) ≤ (y75.2.2 25 y80.toNat)) rfl (zl_ge (a := y75.2.2 25 y80.toNat) (b := 0) ⟨g92, by decide⟩) (fun h82 => ?_) (fun h82 => ?_)
  · have H := H.1 h82
    refine xB.run oX12_findMove 4 (s := (400, [some (.ref 7168), some (.int (zI y28.1)), some (.int (zI y35)), some (.long (zJ y49.1)), none, some (.long (zJ y75.1)), none, some (.int (zI y80)), some (.int (zI 0))], [], [r0, r1, r2, r3, r4, r5, r6, zH y75.2.2 zL7 0, r8, r9])) rfl ?_
    obtain ⟨y88, e89, H⟩ := zbd H
    refine l_X12_findMove_400 r0 r1 r2 r3 r4 r5 r6 r8 r9 y28.1 y35 y49.1 y75.1 y80 _ 0 y75.2.2 e89 ?_
    obtain rfl := Option.some.inj H
    exact xB.ret oX12_findMove (r1 := none) rfl rfl rfl
  · have H := H.2 h82
    refine xB.run oX12_findMove 1 (s := (389, [some (.ref 7168), some (.int (zI y28.1)), some (.int (zI y35)), some (.long (zJ y49.1)), none, some (.long (zJ y75.1)), none, some (.int (zI y80)), none], [.long (zJ y75.1)], [r0, r1, r2, r3, r4, r5, r6, zH y75.2.2 zL7 0, r8, r9])) rfl ?_
    refine zB.opl oX12_findMove rfl (zj_neg y75.1) ?_
    refine xB.run oX12_findMove 4 (s := (400, [some (.ref 7168), some (.int (zI y28.1)), some (.int (zI y35)), some (.long (zJ y49.1)), none, some (.long (zJ (-y75.1))), none, some (.int (zI y80)), some (.int (zI 0))], [], [r0, r1, r2, r3, r4, r5, r6, zH y75.2.2 zL7 0, r8, r9])) rfl ?_
    obtain ⟨y90, e91, H⟩ := zbd H
    refine l_X12_findMove_400 r0 r1 r2 r3 r4 r5 r6 r8 r9 y28.1 y35 y49.1 (-y75.1) y80 _ 0 y75.2.2 e91 ?_
    obtain rfl := Option.some.inj H
    exact xB.ret oX12_findMove (r1 := none) rfl rfl rfl
def d_X12_move (s7 : zZ) (jt : Int) (way : Int) : Option (Int × zZ) := (d_X12_isJoint s7 jt).bind fun y1 => if (zr y1) then (if y1 = 0 then some ((-9223372036854775808), s7) else (if zr way then ((d_X12_within way 0 1).bind fun y4 => if (zr y4) then (if y4 = 0 then some ((-9223372036854775808), s7) else (if (0 ≤ jt ∧ jt < 8) then (if (zr (s7 16 jt.toNat)) then (if (s7 16 jt.toNat) = (-9) then some ((-9223372036854775808), s7) else ((d_X12_net s7 1).bind fun y8 => if (zr y8.1) then (if y8.1 = 1 then ((d_X12_findMove y8.2).bind fun y11 => if (0 ≤ jt ∧ jt < 8) then (if (0 ≤ ((2 * (y11 16 jt.toNat)) + way) ∧ ((2 * (y11 16 jt.toNat)) + way) < 8) then some (y11 25 ((2 * (y11 16 jt.toNat)) + way).toNat, y11) else none) else none) else some ((-9223372036854775808), y8.2)) else none)) else none) else none)) else none) else none)) else none
set_option maxRecDepth 20000 in
theorem t_X12_move (r0 : List va_E) (r1 : List va_E) (r2 : List va_E) (r3 : List va_E) (r4 : List va_E) (r5 : List va_E) (r6 : List va_E) (s7 : zZ) (r8 : List va_E) (r9 : List va_E) (jt : Int) (way : Int) {rr : Int × zZ} (H : d_X12_move s7 jt way = some rr) : xC MX12_move 6 [.ref 7168, .int (zI jt), .int (zI way)] ([r0, r1, r2, r3, r4, r5, r6, zH s7 zL7 0, r8, r9]) (some (.long (zJ rr.1))) ([r0, r1, r2, r3, r4, r5, r6, zH rr.2 zL7 0, r8, r9]) := by
  refine ⟨Nat.le_of_ble_eq_true rfl, ?_⟩
  show xBody MX12_move 6 0 [some (.ref 7168), some (.int (zI jt)), some (.int (zI way))] [] ([r0, r1, r2, r3, r4, r5, r6, zH s7 zL7 0, r8, r9]) _ _
  unfold d_X12_move at H
  refine xB.run oX12_move 2 (s := (2, [some (.ref 7168), some (.int (zI jt)), some (.int (zI way))], [.int (zI jt), .ref 7168], [r0, r1, r2, r3, r4, r5, r6, zH s7 zL7 0, r8, r9])) rfl ?_
  obtain ⟨y1, e2, H⟩ := zbd H
  refine xB.call oX12_move (M2 := MX12_isJoint) rfl rfl ((t_X12_isJoint r0 r1 r2 r3 r4 r5 r6 s7 r8 r9 jt e2).deep (by decide : 0 ≤ 5)) ?_
  show xBody MX12_move 6 5 [some (.ref 7168), some (.int (zI jt)), some (.int (zI way))] [.int (zI y1)] ([r0, r1, r2, r3, r4, r5, r6, zH s7 zL7 0, r8, r9]) _ _
  obtain ⟨g20, H⟩ := zgd H
  have H := zif H
  refine xB.brE oX12_move (P := y1 = 0) rfl (zc_eq (a := y1) (b := 0) ⟨g20, by decide⟩) (fun h3 => ?_) (fun h3 => ?_)
  · have H := H.1 h3
    refine xB.run oX12_move 1 (s := (41, [some (.ref 7168), some (.int (zI jt)), some (.int (zI way))], [.long (zJ (-9223372036854775808))], [r0, r1, r2, r3, r4, r5, r6, zH s7 zL7 0, r8, r9])) rfl ?_
    obtain rfl := Option.some.inj H
    exact xB.ret oX12_move (r1 := some (.long (zJ (-9223372036854775808)))) rfl rfl rfl
  · have H := H.2 h3
    refine xB.run oX12_move 1 (s := (9, [some (.ref 7168), some (.int (zI jt)), some (.int (zI way))], [.int (zI way)], [r0, r1, r2, r3, r4, r5, r6, zH s7 zL7 0, r8, r9])) rfl ?_
    obtain ⟨g19, H⟩ := zgd H
    refine zB.opl oX12_move rfl (zi_i2l g19) ?_
    refine xB.run oX12_move 2 (s := (12, [some (.ref 7168), some (.int (zI jt)), some (.int (zI way))], [.long (zJ 1), .long (zJ 0), .long (zJ way)], [r0, r1, r2, r3, r4, r5, r6, zH s7 zL7 0, r8, r9])) rfl ?_
    obtain ⟨y4, e5, H⟩ := zbd H
    refine xB.call oX12_move (M2 := MX12_within) rfl rfl ((t_X12_within r0 r1 r2 r3 r4 r5 r6 (zH s7 zL7 0) r8 r9 way 0 1 e5).deep (by decide : 0 ≤ 5)) ?_
    show xBody MX12_move 6 15 [some (.ref 7168), some (.int (zI jt)), some (.int (zI way))] [.int (zI y4)] ([r0, r1, r2, r3, r4, r5, r6, zH s7 zL7 0, r8, r9]) _ _
    obtain ⟨g18, H⟩ := zgd H
    have H := zif H
    refine xB.brE oX12_move (P := y4 = 0) rfl (zc_eq (a := y4) (b := 0) ⟨g18, by decide⟩) (fun h6 => ?_) (fun h6 => ?_)
    · have H := H.1 h6
      refine xB.run oX12_move 1 (s := (41, [some (.ref 7168), some (.int (zI jt)), some (.int (zI way))], [.long (zJ (-9223372036854775808))], [r0, r1, r2, r3, r4, r5, r6, zH s7 zL7 0, r8, r9])) rfl ?_
      obtain rfl := Option.some.inj H
      exact xB.ret oX12_move (r1 := some (.long (zJ (-9223372036854775808)))) rfl rfl rfl
    · have H := H.2 h6
      refine xB.run oX12_move 3 (s := (23, [some (.ref 7168), some (.int (zI jt)), some (.int (zI way))], [.int (zI jt), .ref 7184], [r0, r1, r2, r3, r4, r5, r6, zH s7 zL7 0, r8, r9])) rfl ?_
      obtain ⟨g17, H⟩ := zgd H
      refine zB.iald oX12_move (g := 7) (p := 16) (N := 8) (i := jt) rfl rfl (by decide) rfl rfl (by decide) g17 ?_
      refine xB.run oX12_move 1 (s := (26, [some (.ref 7168), some (.int (zI jt)), some (.int (zI way))], [.int (zI (-9)), .int (zI (s7 16 jt.toNat))], [r0, r1, r2, r3, r4, r5, r6, zH s7 zL7 0, r8, r9])) rfl ?_
      obtain ⟨g16, H⟩ := zgd H
      have H := zif H
      refine xB.brE oX12_move (P := (s7 16 jt.toNat) = (-9)) rfl (zc_eq (a := s7 16 jt.toNat) (b := (-9)) ⟨g16, by decide⟩) (fun h7 => ?_) (fun h7 => ?_)
      · have H := H.1 h7
        refine xB.run oX12_move 1 (s := (41, [some (.ref 7168), some (.int (zI jt)), some (.int (zI way))], [.long (zJ (-9223372036854775808))], [r0, r1, r2, r3, r4, r5, r6, zH s7 zL7 0, r8, r9])) rfl ?_
        obtain rfl := Option.some.inj H
        exact xB.ret oX12_move (r1 := some (.long (zJ (-9223372036854775808)))) rfl rfl rfl
      · have H := H.2 h7
        refine xB.run oX12_move 2 (s := (31, [some (.ref 7168), some (.int (zI jt)), some (.int (zI way))], [.int (zI 1), .ref 7168], [r0, r1, r2, r3, r4, r5, r6, zH s7 zL7 0, r8, r9])) rfl ?_
        obtain ⟨y8, e9, H⟩ := zbd H
        refine xB.call oX12_move (M2 := MX12_net) rfl rfl ((t_X12_net r0 r1 r2 r3 r4 r5 r6 s7 r8 r9 1 e9).deep (by decide : 5 ≤ 5)) ?_
        show xBody MX12_move 6 34 [some (.ref 7168), some (.int (zI jt)), some (.int (zI way))] [.int (zI y8.1)] ([r0, r1, r2, r3, r4, r5, r6, zH y8.2 zL7 0, r8, r9]) _ _
        refine xB.run oX12_move 1 (s := (35, [some (.ref 7168), some (.int (zI jt)), some (.int (zI way))], [.int (zI 1), .int (zI y8.1)], [r0, r1, r2, r3, r4, r5, r6, zH y8.2 zL7 0, r8, r9])) rfl ?_
        obtain ⟨g15, H⟩ := zgd H
        have H := zif H
        refine xB.brE oX12_move (P := y8.1 = 1) rfl (zc_eq (a := y8.1) (b := 1) ⟨g15, by decide⟩) (fun h10 => ?_) (fun h10 => ?_)
        · have H := H.1 h10
          refine xB.run oX12_move 1 (s := (43, [some (.ref 7168), some (.int (zI jt)), some (.int (zI way))], [.ref 7168], [r0, r1, r2, r3, r4, r5, r6, zH y8.2 zL7 0, r8, r9])) rfl ?_
          obtain ⟨y11, e12, H⟩ := zbd H
          refine xB.call oX12_move (M2 := MX12_findMove) rfl rfl ((t_X12_findMove r0 r1 r2 r3 r4 r5 r6 y8.2 r8 r9  e12).deep (by decide : 4 ≤ 5)) ?_
          show xBody MX12_move 6 46 [some (.ref 7168), some (.int (zI jt)), some (.int (zI way))] [] ([r0, r1, r2, r3, r4, r5, r6, zH y11 zL7 0, r8, r9]) _ _
          refine xB.run oX12_move 6 (s := (56, [some (.ref 7168), some (.int (zI jt)), some (.int (zI way))], [.int (zI jt), .ref 7184, .int (zI 2), .ref 7193], [r0, r1, r2, r3, r4, r5, r6, zH y11 zL7 0, r8, r9])) rfl ?_
          obtain ⟨g14, H⟩ := zgd H
          refine zB.iald oX12_move (g := 7) (p := 16) (N := 8) (i := jt) rfl rfl (by decide) rfl rfl (by decide) g14 ?_
          refine zB.opi oX12_move rfl (zi_mul 2 (y11 16 jt.toNat)) ?_
          refine xB.run oX12_move 1 (s := (59, [some (.ref 7168), some (.int (zI jt)), some (.int (zI way))], [.int (zI way), .int (zI (2 * (y11 16 jt.toNat))), .ref 7193], [r0, r1, r2, r3, r4, r5, r6, zH y11 zL7 0, r8, r9])) rfl ?_
          refine zB.opi oX12_move rfl (zi_add (2 * (y11 16 jt.toNat)) way) ?_
          obtain ⟨g13, H⟩ := zgd H
          refine zB.lald oX12_move (g := 7) (p := 25) (N := 8) (i := (2 * (y11 16 jt.toNat)) + way) rfl rfl (by decide) rfl rfl (by decide) g13 ?_
          obtain rfl := Option.some.inj H
          exact xB.ret oX12_move (r1 := some (.long (zJ (y11 25 ((2 * (y11 16 jt.toNat)) + way).toNat)))) rfl rfl rfl
        · have H := H.2 h10
          refine xB.run oX12_move 1 (s := (41, [some (.ref 7168), some (.int (zI jt)), some (.int (zI way))], [.long (zJ (-9223372036854775808))], [r0, r1, r2, r3, r4, r5, r6, zH y8.2 zL7 0, r8, r9])) rfl ?_
          obtain rfl := Option.some.inj H
          exact xB.ret oX12_move (r1 := some (.long (zJ (-9223372036854775808)))) rfl rfl rfl
def d_X12_stands (s7 : zZ) (c : Int) : Option (Int × zZ) := (d_X12_isCase c).bind fun y1 => if (zr y1) then (if y1 ≠ 0 then (if (0 ≤ c ∧ c < 32) then ((d_X12_carry s7 ((2 : Int) ^ c.toNat)).bind fun y4 => (d_X12_layNet y4 (-9)).bind fun y6 => (d_X12_doesStand y6).bind fun y8 => if (zr y8) then (if y8 = 0 then some (0, y6) else some (1, y6)) else none) else none) else some ((-1), s7)) else none
set_option maxRecDepth 20000 in
theorem t_X12_stands (r0 : List va_E) (r1 : List va_E) (r2 : List va_E) (r3 : List va_E) (r4 : List va_E) (r5 : List va_E) (r6 : List va_E) (s7 : zZ) (r8 : List va_E) (r9 : List va_E) (c : Int) {rr : Int × zZ} (H : d_X12_stands s7 c = some rr) : xC MX12_stands 5 [.ref 7168, .int (zI c)] ([r0, r1, r2, r3, r4, r5, r6, zH s7 zL7 0, r8, r9]) (some (.int (zI rr.1))) ([r0, r1, r2, r3, r4, r5, r6, zH rr.2 zL7 0, r8, r9]) := by
  refine ⟨Nat.le_of_ble_eq_true rfl, ?_⟩
  show xBody MX12_stands 5 0 [some (.ref 7168), some (.int (zI c))] [] ([r0, r1, r2, r3, r4, r5, r6, zH s7 zL7 0, r8, r9]) _ _
  unfold d_X12_stands at H
  refine xB.run oX12_stands 1 (s := (1, [some (.ref 7168), some (.int (zI c))], [.int (zI c)], [r0, r1, r2, r3, r4, r5, r6, zH s7 zL7 0, r8, r9])) rfl ?_
  obtain ⟨y1, e2, H⟩ := zbd H
  refine xB.call oX12_stands (M2 := MX12_isCase) rfl rfl ((t_X12_isCase r0 r1 r2 r3 r4 r5 r6 (zH s7 zL7 0) r8 r9 c e2).deep (by decide : 1 ≤ 4)) ?_
  show xBody MX12_stands 5 4 [some (.ref 7168), some (.int (zI c))] [.int (zI y1)] ([r0, r1, r2, r3, r4, r5, r6, zH s7 zL7 0, r8, r9]) _ _
  obtain ⟨g13, H⟩ := zgd H
  have H := zif H
  refine xB.brE oX12_stands (P := y1 ≠ 0) rfl (zc_ne (a := y1) (b := 0) ⟨g13, by decide⟩) (fun h3 => ?_) (fun h3 => ?_)
  · have H := H.1 h3
    refine xB.run oX12_stands 3 (s := (12, [some (.ref 7168), some (.int (zI c))], [.int (zI c), .int (zI 1), .ref 7168], [r0, r1, r2, r3, r4, r5, r6, zH s7 zL7 0, r8, r9])) rfl ?_
    obtain ⟨g12, H⟩ := zgd H
    refine zB.opi oX12_stands (y := (2 : Int) ^ c.toNat) rfl (zi_shl1 (c := c) g12) ?_
    obtain ⟨y4, e5, H⟩ := zbd H
    refine xB.call oX12_stands (M2 := MX12_carry) rfl rfl ((t_X12_carry r0 r1 r2 r3 r4 r5 r6 s7 r8 r9 ((2 : Int) ^ c.toNat) e5).deep (by decide : 0 ≤ 4)) ?_
    show xBody MX12_stands 5 16 [some (.ref 7168), some (.int (zI c))] [] ([r0, r1, r2, r3, r4, r5, r6, zH y4 zL7 0, r8, r9]) _ _
    refine xB.run oX12_stands 2 (s := (19, [some (.ref 7168), some (.int (zI c))], [.int (zI (-9)), .ref 7168], [r0, r1, r2, r3, r4, r5, r6, zH y4 zL7 0, r8, r9])) rfl ?_
    obtain ⟨y6, e7, H⟩ := zbd H
    refine xB.call oX12_stands (M2 := MX12_layNet) rfl rfl ((t_X12_layNet r0 r1 r2 r3 r4 r5 r6 y4 r8 r9 (-9) e7).deep (by decide : 4 ≤ 4)) ?_
    show xBody MX12_stands 5 22 [some (.ref 7168), some (.int (zI c))] [] ([r0, r1, r2, r3, r4, r5, r6, zH y6 zL7 0, r8, r9]) _ _
    refine xB.run oX12_stands 1 (s := (23, [some (.ref 7168), some (.int (zI c))], [.ref 7168], [r0, r1, r2, r3, r4, r5, r6, zH y6 zL7 0, r8, r9])) rfl ?_
    obtain ⟨y8, e9, H⟩ := zbd H
    refine xB.call oX12_stands (M2 := MX12_doesStand) rfl rfl ((t_X12_doesStand r0 r1 r2 r3 r4 r5 r6 y6 r8 r9  e9).deep (by decide : 0 ≤ 4)) ?_
    show xBody MX12_stands 5 26 [some (.ref 7168), some (.int (zI c))] [.int (zI y8)] ([r0, r1, r2, r3, r4, r5, r6, zH y6 zL7 0, r8, r9]) _ _
    obtain ⟨g11, H⟩ := zgd H
    have H := zif H
    refine xB.brE oX12_stands (P := y8 = 0) rfl (zc_eq (a := y8) (b := 0) ⟨g11, by decide⟩) (fun h10 => ?_) (fun h10 => ?_)
    · have H := H.1 h10
      refine xB.run oX12_stands 1 (s := (34, [some (.ref 7168), some (.int (zI c))], [.int (zI 0)], [r0, r1, r2, r3, r4, r5, r6, zH y6 zL7 0, r8, r9])) rfl ?_
      obtain rfl := Option.some.inj H
      exact xB.ret oX12_stands (r1 := some (.int (zI 0))) rfl rfl rfl
    · have H := H.2 h10
      refine xB.run oX12_stands 2 (s := (34, [some (.ref 7168), some (.int (zI c))], [.int (zI 1)], [r0, r1, r2, r3, r4, r5, r6, zH y6 zL7 0, r8, r9])) rfl ?_
      obtain rfl := Option.some.inj H
      exact xB.ret oX12_stands (r1 := some (.int (zI 1))) rfl rfl rfl
  · have H := H.2 h3
    refine xB.run oX12_stands 1 (s := (8, [some (.ref 7168), some (.int (zI c))], [.int (zI (-1))], [r0, r1, r2, r3, r4, r5, r6, zH s7 zL7 0, r8, r9])) rfl ?_
    obtain rfl := Option.some.inj H
    exact xB.ret oX12_stands (r1 := some (.int (zI (-1)))) rfl rfl rfl
def d_X12_isTold (s7 : zZ) (set : Int) : Option (Int × zZ) := (d_X12_carry s7 set).bind fun y1 => (d_X12_layNet y1 (-9)).bind fun y3 => (d_X12_doesStand y3).bind fun y5 => if (zr y5) then (if y5 = 0 then some (0, y3) else ((d_X12_manyBars y3).bind fun y8 => if (zr y8 ∧ zr (y3 0 33)) then (if y8 ≠ (y3 0 33) then some (0, y3) else some (1, y3)) else none)) else none
set_option maxRecDepth 20000 in
theorem t_X12_isTold (r0 : List va_E) (r1 : List va_E) (r2 : List va_E) (r3 : List va_E) (r4 : List va_E) (r5 : List va_E) (r6 : List va_E) (s7 : zZ) (r8 : List va_E) (r9 : List va_E) (set : Int) {rr : Int × zZ} (H : d_X12_isTold s7 set = some rr) : xC MX12_isTold 5 [.ref 7168, .int (zI set)] ([r0, r1, r2, r3, r4, r5, r6, zH s7 zL7 0, r8, r9]) (some (.int (zI rr.1))) ([r0, r1, r2, r3, r4, r5, r6, zH rr.2 zL7 0, r8, r9]) := by
  refine ⟨Nat.le_of_ble_eq_true rfl, ?_⟩
  show xBody MX12_isTold 5 0 [some (.ref 7168), some (.int (zI set))] [] ([r0, r1, r2, r3, r4, r5, r6, zH s7 zL7 0, r8, r9]) _ _
  unfold d_X12_isTold at H
  refine xB.run oX12_isTold 2 (s := (2, [some (.ref 7168), some (.int (zI set))], [.int (zI set), .ref 7168], [r0, r1, r2, r3, r4, r5, r6, zH s7 zL7 0, r8, r9])) rfl ?_
  obtain ⟨y1, e2, H⟩ := zbd H
  refine xB.call oX12_isTold (M2 := MX12_carry) rfl rfl ((t_X12_carry r0 r1 r2 r3 r4 r5 r6 s7 r8 r9 set e2).deep (by decide : 0 ≤ 4)) ?_
  show xBody MX12_isTold 5 5 [some (.ref 7168), some (.int (zI set))] [] ([r0, r1, r2, r3, r4, r5, r6, zH y1 zL7 0, r8, r9]) _ _
  refine xB.run oX12_isTold 2 (s := (8, [some (.ref 7168), some (.int (zI set))], [.int (zI (-9)), .ref 7168], [r0, r1, r2, r3, r4, r5, r6, zH y1 zL7 0, r8, r9])) rfl ?_
  obtain ⟨y3, e4, H⟩ := zbd H
  refine xB.call oX12_isTold (M2 := MX12_layNet) rfl rfl ((t_X12_layNet r0 r1 r2 r3 r4 r5 r6 y1 r8 r9 (-9) e4).deep (by decide : 4 ≤ 4)) ?_
  show xBody MX12_isTold 5 11 [some (.ref 7168), some (.int (zI set))] [] ([r0, r1, r2, r3, r4, r5, r6, zH y3 zL7 0, r8, r9]) _ _
  refine xB.run oX12_isTold 1 (s := (12, [some (.ref 7168), some (.int (zI set))], [.ref 7168], [r0, r1, r2, r3, r4, r5, r6, zH y3 zL7 0, r8, r9])) rfl ?_
  obtain ⟨y5, e6, H⟩ := zbd H
  refine xB.call oX12_isTold (M2 := MX12_doesStand) rfl rfl ((t_X12_doesStand r0 r1 r2 r3 r4 r5 r6 y3 r8 r9  e6).deep (by decide : 0 ≤ 4)) ?_
  show xBody MX12_isTold 5 15 [some (.ref 7168), some (.int (zI set))] [.int (zI y5)] ([r0, r1, r2, r3, r4, r5, r6, zH y3 zL7 0, r8, r9]) _ _
  obtain ⟨g12, H⟩ := zgd H
  have H := zif H
  refine xB.brE oX12_isTold (P := y5 = 0) rfl (zc_eq (a := y5) (b := 0) ⟨g12, by decide⟩) (fun h7 => ?_) (fun h7 => ?_)
  · have H := H.1 h7
    refine xB.run oX12_isTold 1 (s := (34, [some (.ref 7168), some (.int (zI set))], [.int (zI 0)], [r0, r1, r2, r3, r4, r5, r6, zH y3 zL7 0, r8, r9])) rfl ?_
    obtain rfl := Option.some.inj H
    exact xB.ret oX12_isTold (r1 := some (.int (zI 0))) rfl rfl rfl
  · have H := H.2 h7
    refine xB.run oX12_isTold 1 (s := (19, [some (.ref 7168), some (.int (zI set))], [.ref 7168], [r0, r1, r2, r3, r4, r5, r6, zH y3 zL7 0, r8, r9])) rfl ?_
    obtain ⟨y8, e9, H⟩ := zbd H
    refine xB.call oX12_isTold (M2 := MX12_manyBars) rfl rfl ((t_X12_manyBars r0 r1 r2 r3 r4 r5 r6 y3 r8 r9  e9).deep (by decide : 0 ≤ 4)) ?_
    show xBody MX12_isTold 5 22 [some (.ref 7168), some (.int (zI set))] [.int (zI y8)] ([r0, r1, r2, r3, r4, r5, r6, zH y3 zL7 0, r8, r9]) _ _
    refine xB.run oX12_isTold 2 (s := (26, [some (.ref 7168), some (.int (zI set))], [.int (zI (y3 0 33)), .int (zI y8)], [r0, r1, r2, r3, r4, r5, r6, zH y3 zL7 0, r8, r9])) rfl ?_
    obtain ⟨g11, H⟩ := zgd H
    have H := zif H
    refine xB.brE oX12_isTold (P := y8 ≠ (y3 0 33)) rfl (zc_ne (a := y8) (b := y3 0 33) g11) (fun h10 => ?_) (fun h10 => ?_)
    · have H := H.1 h10
      refine xB.run oX12_isTold 1 (s := (34, [some (.ref 7168), some (.int (zI set))], [.int (zI 0)], [r0, r1, r2, r3, r4, r5, r6, zH y3 zL7 0, r8, r9])) rfl ?_
      obtain rfl := Option.some.inj H
      exact xB.ret oX12_isTold (r1 := some (.int (zI 0))) rfl rfl rfl
    · have H := H.2 h10
      refine xB.run oX12_isTold 2 (s := (34, [some (.ref 7168), some (.int (zI set))], [.int (zI 1)], [r0, r1, r2, r3, r4, r5, r6, zH y3 zL7 0, r8, r9])) rfl ?_
      obtain rfl := Option.some.inj H
      exact xB.ret oX12_isTold (r1 := some (.int (zI 1))) rfl rfl rfl
def d_X12_upOf (s7 : zZ) (b : Int) : Option (Int) := if (0 ≤ b ∧ b < 20) then (if (zr (s7 23 b.toNat)) then (if (s7 23 b.toNat) ≠ (-9) then (if (0 ≤ b ∧ b < 20) then (if (0 ≤ ((20 * (s7 23 b.toNat)) + (s7 0 25)) ∧ ((20 * (s7 23 b.toNat)) + (s7 0 25)) < 320) then some (s7 22 ((20 * (s7 23 b.toNat)) + (s7 0 25)).toNat) else none) else none) else some 0) else none) else none
set_option maxRecDepth 20000 in
theorem t_X12_upOf (r0 : List va_E) (r1 : List va_E) (r2 : List va_E) (r3 : List va_E) (r4 : List va_E) (r5 : List va_E) (r6 : List va_E) (s7 : zZ) (r8 : List va_E) (r9 : List va_E) (b : Int) {rr : Int} (H : d_X12_upOf s7 b = some rr) : xC MX12_upOf 0 [.ref 7168, .int (zI b)] ([r0, r1, r2, r3, r4, r5, r6, zH s7 zL7 0, r8, r9]) (some (.long (zJ rr))) ([r0, r1, r2, r3, r4, r5, r6, zH s7 zL7 0, r8, r9]) := by
  refine ⟨Nat.le_of_ble_eq_true rfl, ?_⟩
  show xBody MX12_upOf 0 0 [some (.ref 7168), some (.int (zI b))] [] ([r0, r1, r2, r3, r4, r5, r6, zH s7 zL7 0, r8, r9]) _ _
  unfold d_X12_upOf at H
  refine xB.run oX12_upOf 3 (s := (5, [some (.ref 7168), some (.int (zI b))], [.int (zI b), .ref 7191], [r0, r1, r2, r3, r4, r5, r6, zH s7 zL7 0, r8, r9])) rfl ?_
  obtain ⟨g5, H⟩ := zgd H
  refine zB.iald oX12_upOf (g := 7) (p := 23) (N := 20) (i := b) rfl rfl (by decide) rfl rfl (by decide) g5 ?_
  refine xB.run oX12_upOf 1 (s := (8, [some (.ref 7168), some (.int (zI b))], [.int (zI (-9)), .int (zI (s7 23 b.toNat))], [r0, r1, r2, r3, r4, r5, r6, zH s7 zL7 0, r8, r9])) rfl ?_
  obtain ⟨g4, H⟩ := zgd H
  have H := zif H
  refine xB.brE oX12_upOf (P := (s7 23 b.toNat) ≠ (-9)) rfl (zc_ne (a := s7 23 b.toNat) (b := (-9)) ⟨g4, by decide⟩) (fun h1 => ?_) (fun h1 => ?_)
  · have H := H.1 h1
    refine xB.run oX12_upOf 6 (s := (26, [some (.ref 7168), some (.int (zI b))], [.int (zI b), .ref 7191, .int (zI 20), .ref 7190], [r0, r1, r2, r3, r4, r5, r6, zH s7 zL7 0, r8, r9])) rfl ?_
    obtain ⟨g3, H⟩ := zgd H
    refine zB.iald oX12_upOf (g := 7) (p := 23) (N := 20) (i := b) rfl rfl (by decide) rfl rfl (by decide) g3 ?_
    refine zB.opi oX12_upOf rfl (zi_mul 20 (s7 23 b.toNat)) ?_
    refine xB.run oX12_upOf 2 (s := (32, [some (.ref 7168), some (.int (zI b))], [.int (zI (s7 0 25)), .int (zI (20 * (s7 23 b.toNat))), .ref 7190], [r0, r1, r2, r3, r4, r5, r6, zH s7 zL7 0, r8, r9])) rfl ?_
    refine zB.opi oX12_upOf rfl (zi_add (20 * (s7 23 b.toNat)) (s7 0 25)) ?_
    obtain ⟨g2, H⟩ := zgd H
    refine zB.lald oX12_upOf (g := 7) (p := 22) (N := 320) (i := (20 * (s7 23 b.toNat)) + (s7 0 25)) rfl rfl (by decide) rfl rfl (by decide) g2 ?_
    obtain rfl := Option.some.inj H
    exact xB.ret oX12_upOf (r1 := some (.long (zJ (s7 22 ((20 * (s7 23 b.toNat)) + (s7 0 25)).toNat)))) rfl rfl rfl
  · have H := H.2 h1
    refine xB.run oX12_upOf 2 (s := (34, [some (.ref 7168), some (.int (zI b))], [.long (zJ 0)], [r0, r1, r2, r3, r4, r5, r6, zH s7 zL7 0, r8, r9])) rfl ?_
    obtain rfl := Option.some.inj H
    exact xB.ret oX12_upOf (r1 := some (.long (zJ 0))) rfl rfl rfl
def d_X12_downOf (s7 : zZ) (b : Int) : Option (Int) := if (0 ≤ b ∧ b < 20) then (if (zr (s7 23 b.toNat)) then (if (s7 23 b.toNat) ≠ (-9) then (if (0 ≤ b ∧ b < 20) then (if (0 ≤ ((20 * (s7 23 b.toNat)) + b) ∧ ((20 * (s7 23 b.toNat)) + b) < 320) then some (s7 22 ((20 * (s7 23 b.toNat)) + b).toNat) else none) else none) else some 1) else none) else none
set_option maxRecDepth 20000 in
theorem t_X12_downOf (r0 : List va_E) (r1 : List va_E) (r2 : List va_E) (r3 : List va_E) (r4 : List va_E) (r5 : List va_E) (r6 : List va_E) (s7 : zZ) (r8 : List va_E) (r9 : List va_E) (b : Int) {rr : Int} (H : d_X12_downOf s7 b = some rr) : xC MX12_downOf 0 [.ref 7168, .int (zI b)] ([r0, r1, r2, r3, r4, r5, r6, zH s7 zL7 0, r8, r9]) (some (.long (zJ rr))) ([r0, r1, r2, r3, r4, r5, r6, zH s7 zL7 0, r8, r9]) := by
  refine ⟨Nat.le_of_ble_eq_true rfl, ?_⟩
  show xBody MX12_downOf 0 0 [some (.ref 7168), some (.int (zI b))] [] ([r0, r1, r2, r3, r4, r5, r6, zH s7 zL7 0, r8, r9]) _ _
  unfold d_X12_downOf at H
  refine xB.run oX12_downOf 3 (s := (5, [some (.ref 7168), some (.int (zI b))], [.int (zI b), .ref 7191], [r0, r1, r2, r3, r4, r5, r6, zH s7 zL7 0, r8, r9])) rfl ?_
  obtain ⟨g5, H⟩ := zgd H
  refine zB.iald oX12_downOf (g := 7) (p := 23) (N := 20) (i := b) rfl rfl (by decide) rfl rfl (by decide) g5 ?_
  refine xB.run oX12_downOf 1 (s := (8, [some (.ref 7168), some (.int (zI b))], [.int (zI (-9)), .int (zI (s7 23 b.toNat))], [r0, r1, r2, r3, r4, r5, r6, zH s7 zL7 0, r8, r9])) rfl ?_
  obtain ⟨g4, H⟩ := zgd H
  have H := zif H
  refine xB.brE oX12_downOf (P := (s7 23 b.toNat) ≠ (-9)) rfl (zc_ne (a := s7 23 b.toNat) (b := (-9)) ⟨g4, by decide⟩) (fun h1 => ?_) (fun h1 => ?_)
  · have H := H.1 h1
    refine xB.run oX12_downOf 6 (s := (26, [some (.ref 7168), some (.int (zI b))], [.int (zI b), .ref 7191, .int (zI 20), .ref 7190], [r0, r1, r2, r3, r4, r5, r6, zH s7 zL7 0, r8, r9])) rfl ?_
    obtain ⟨g3, H⟩ := zgd H
    refine zB.iald oX12_downOf (g := 7) (p := 23) (N := 20) (i := b) rfl rfl (by decide) rfl rfl (by decide) g3 ?_
    refine zB.opi oX12_downOf rfl (zi_mul 20 (s7 23 b.toNat)) ?_
    refine xB.run oX12_downOf 1 (s := (29, [some (.ref 7168), some (.int (zI b))], [.int (zI b), .int (zI (20 * (s7 23 b.toNat))), .ref 7190], [r0, r1, r2, r3, r4, r5, r6, zH s7 zL7 0, r8, r9])) rfl ?_
    refine zB.opi oX12_downOf rfl (zi_add (20 * (s7 23 b.toNat)) b) ?_
    obtain ⟨g2, H⟩ := zgd H
    refine zB.lald oX12_downOf (g := 7) (p := 22) (N := 320) (i := (20 * (s7 23 b.toNat)) + b) rfl rfl (by decide) rfl rfl (by decide) g2 ?_
    obtain rfl := Option.some.inj H
    exact xB.ret oX12_downOf (r1 := some (.long (zJ (s7 22 ((20 * (s7 23 b.toNat)) + b).toNat)))) rfl rfl rfl
  · have H := H.2 h1
    refine xB.run oX12_downOf 2 (s := (31, [some (.ref 7168), some (.int (zI b))], [.long (zJ 1)], [r0, r1, r2, r3, r4, r5, r6, zH s7 zL7 0, r8, r9])) rfl ?_
    obtain rfl := Option.some.inj H
    exact xB.ret oX12_downOf (r1 := some (.long (zJ 1))) rfl rfl rfl
def d_X12_push (s7 : zZ) (c : Int) (b : Int) (wh : Int) : Option (Int × zZ) := (d_X12_isCase c).bind fun y1 => if (zr y1) then (if y1 = 0 then some ((-9223372036854775808), s7) else ((d_X12_isBar s7 b).bind fun y4 => if (zr y4) then (if y4 = 0 then some ((-9223372036854775808), s7) else (if zr wh then ((d_X12_within wh 0 1).bind fun y7 => if (zr y7) then (if y7 = 0 then some ((-9223372036854775808), s7) else (if (0 ≤ c ∧ c < 32) then ((d_X12_isTold s7 ((2 : Int) ^ c.toNat)).bind fun y10 => if (zr y10.1) then (if y10.1 ≠ 0 then ((d_X12_upOf y10.2 b).bind fun y13 => (d_X12_downOf y10.2 b).bind fun y15 => (d_X12_part y13 y15 wh).bind fun y17 => some (y17, y10.2)) else some ((-9223372036854775808), y10.2)) else none) else none)) else none) else none)) else none)) else none
set_option maxRecDepth 20000 in
theorem t_X12_push (r0 : List va_E) (r1 : List va_E) (r2 : List va_E) (r3 : List va_E) (r4 : List va_E) (r5 : List va_E) (r6 : List va_E) (s7 : zZ) (r8 : List va_E) (r9 : List va_E) (c : Int) (b : Int) (wh : Int) {rr : Int × zZ} (H : d_X12_push s7 c b wh = some rr) : xC MX12_push 6 [.ref 7168, .int (zI c), .int (zI b), .int (zI wh)] ([r0, r1, r2, r3, r4, r5, r6, zH s7 zL7 0, r8, r9]) (some (.long (zJ rr.1))) ([r0, r1, r2, r3, r4, r5, r6, zH rr.2 zL7 0, r8, r9]) := by
  refine ⟨Nat.le_of_ble_eq_true rfl, ?_⟩
  show xBody MX12_push 6 0 [some (.ref 7168), some (.int (zI c)), some (.int (zI b)), some (.int (zI wh))] [] ([r0, r1, r2, r3, r4, r5, r6, zH s7 zL7 0, r8, r9]) _ _
  unfold d_X12_push at H
  refine xB.run oX12_push 1 (s := (1, [some (.ref 7168), some (.int (zI c)), some (.int (zI b)), some (.int (zI wh))], [.int (zI c)], [r0, r1, r2, r3, r4, r5, r6, zH s7 zL7 0, r8, r9])) rfl ?_
  obtain ⟨y1, e2, H⟩ := zbd H
  refine xB.call oX12_push (M2 := MX12_isCase) rfl rfl ((t_X12_isCase r0 r1 r2 r3 r4 r5 r6 (zH s7 zL7 0) r8 r9 c e2).deep (by decide : 1 ≤ 5)) ?_
  show xBody MX12_push 6 4 [some (.ref 7168), some (.int (zI c)), some (.int (zI b)), some (.int (zI wh))] [.int (zI y1)] ([r0, r1, r2, r3, r4, r5, r6, zH s7 zL7 0, r8, r9]) _ _
  obtain ⟨g24, H⟩ := zgd H
  have H := zif H
  refine xB.brE oX12_push (P := y1 = 0) rfl (zc_eq (a := y1) (b := 0) ⟨g24, by decide⟩) (fun h3 => ?_) (fun h3 => ?_)
  · have H := H.1 h3
    refine xB.run oX12_push 1 (s := (38, [some (.ref 7168), some (.int (zI c)), some (.int (zI b)), some (.int (zI wh))], [.long (zJ (-9223372036854775808))], [r0, r1, r2, r3, r4, r5, r6, zH s7 zL7 0, r8, r9])) rfl ?_
    obtain rfl := Option.some.inj H
    exact xB.ret oX12_push (r1 := some (.long (zJ (-9223372036854775808)))) rfl rfl rfl
  · have H := H.2 h3
    refine xB.run oX12_push 2 (s := (9, [some (.ref 7168), some (.int (zI c)), some (.int (zI b)), some (.int (zI wh))], [.int (zI b), .ref 7168], [r0, r1, r2, r3, r4, r5, r6, zH s7 zL7 0, r8, r9])) rfl ?_
    obtain ⟨y4, e5, H⟩ := zbd H
    refine xB.call oX12_push (M2 := MX12_isBar) rfl rfl ((t_X12_isBar r0 r1 r2 r3 r4 r5 r6 s7 r8 r9 b e5).deep (by decide : 0 ≤ 5)) ?_
    show xBody MX12_push 6 12 [some (.ref 7168), some (.int (zI c)), some (.int (zI b)), some (.int (zI wh))] [.int (zI y4)] ([r0, r1, r2, r3, r4, r5, r6, zH s7 zL7 0, r8, r9]) _ _
    obtain ⟨g23, H⟩ := zgd H
    have H := zif H
    refine xB.brE oX12_push (P := y4 = 0) rfl (zc_eq (a := y4) (b := 0) ⟨g23, by decide⟩) (fun h6 => ?_) (fun h6 => ?_)
    · have H := H.1 h6
      refine xB.run oX12_push 1 (s := (38, [some (.ref 7168), some (.int (zI c)), some (.int (zI b)), some (.int (zI wh))], [.long (zJ (-9223372036854775808))], [r0, r1, r2, r3, r4, r5, r6, zH s7 zL7 0, r8, r9])) rfl ?_
      obtain rfl := Option.some.inj H
      exact xB.ret oX12_push (r1 := some (.long (zJ (-9223372036854775808)))) rfl rfl rfl
    · have H := H.2 h6
      refine xB.run oX12_push 1 (s := (16, [some (.ref 7168), some (.int (zI c)), some (.int (zI b)), some (.int (zI wh))], [.int (zI wh)], [r0, r1, r2, r3, r4, r5, r6, zH s7 zL7 0, r8, r9])) rfl ?_
      obtain ⟨g22, H⟩ := zgd H
      refine zB.opl oX12_push rfl (zi_i2l g22) ?_
      refine xB.run oX12_push 2 (s := (19, [some (.ref 7168), some (.int (zI c)), some (.int (zI b)), some (.int (zI wh))], [.long (zJ 1), .long (zJ 0), .long (zJ wh)], [r0, r1, r2, r3, r4, r5, r6, zH s7 zL7 0, r8, r9])) rfl ?_
      obtain ⟨y7, e8, H⟩ := zbd H
      refine xB.call oX12_push (M2 := MX12_within) rfl rfl ((t_X12_within r0 r1 r2 r3 r4 r5 r6 (zH s7 zL7 0) r8 r9 wh 0 1 e8).deep (by decide : 0 ≤ 5)) ?_
      show xBody MX12_push 6 22 [some (.ref 7168), some (.int (zI c)), some (.int (zI b)), some (.int (zI wh))] [.int (zI y7)] ([r0, r1, r2, r3, r4, r5, r6, zH s7 zL7 0, r8, r9]) _ _
      obtain ⟨g21, H⟩ := zgd H
      have H := zif H
      refine xB.brE oX12_push (P := y7 = 0) rfl (zc_eq (a := y7) (b := 0) ⟨g21, by decide⟩) (fun h9 => ?_) (fun h9 => ?_)
      · have H := H.1 h9
        refine xB.run oX12_push 1 (s := (38, [some (.ref 7168), some (.int (zI c)), some (.int (zI b)), some (.int (zI wh))], [.long (zJ (-9223372036854775808))], [r0, r1, r2, r3, r4, r5, r6, zH s7 zL7 0, r8, r9])) rfl ?_
        obtain rfl := Option.some.inj H
        exact xB.ret oX12_push (r1 := some (.long (zJ (-9223372036854775808)))) rfl rfl rfl
      · have H := H.2 h9
        refine xB.run oX12_push 3 (s := (28, [some (.ref 7168), some (.int (zI c)), some (.int (zI b)), some (.int (zI wh))], [.int (zI c), .int (zI 1), .ref 7168], [r0, r1, r2, r3, r4, r5, r6, zH s7 zL7 0, r8, r9])) rfl ?_
        obtain ⟨g20, H⟩ := zgd H
        refine zB.opi oX12_push (y := (2 : Int) ^ c.toNat) rfl (zi_shl1 (c := c) g20) ?_
        obtain ⟨y10, e11, H⟩ := zbd H
        refine xB.call oX12_push (M2 := MX12_isTold) rfl rfl ((t_X12_isTold r0 r1 r2 r3 r4 r5 r6 s7 r8 r9 ((2 : Int) ^ c.toNat) e11).deep (by decide : 5 ≤ 5)) ?_
        show xBody MX12_push 6 32 [some (.ref 7168), some (.int (zI c)), some (.int (zI b)), some (.int (zI wh))] [.int (zI y10.1)] ([r0, r1, r2, r3, r4, r5, r6, zH y10.2 zL7 0, r8, r9]) _ _
        obtain ⟨g19, H⟩ := zgd H
        have H := zif H
        refine xB.brE oX12_push (P := y10.1 ≠ 0) rfl (zc_ne (a := y10.1) (b := 0) ⟨g19, by decide⟩) (fun h12 => ?_) (fun h12 => ?_)
        · have H := H.1 h12
          refine xB.run oX12_push 2 (s := (41, [some (.ref 7168), some (.int (zI c)), some (.int (zI b)), some (.int (zI wh))], [.int (zI b), .ref 7168], [r0, r1, r2, r3, r4, r5, r6, zH y10.2 zL7 0, r8, r9])) rfl ?_
          obtain ⟨y13, e14, H⟩ := zbd H
          refine xB.call oX12_push (M2 := MX12_upOf) rfl rfl ((t_X12_upOf r0 r1 r2 r3 r4 r5 r6 y10.2 r8 r9 b e14).deep (by decide : 0 ≤ 5)) ?_
          show xBody MX12_push 6 44 [some (.ref 7168), some (.int (zI c)), some (.int (zI b)), some (.int (zI wh))] [.long (zJ y13)] ([r0, r1, r2, r3, r4, r5, r6, zH y10.2 zL7 0, r8, r9]) _ _
          refine xB.run oX12_push 2 (s := (46, [some (.ref 7168), some (.int (zI c)), some (.int (zI b)), some (.int (zI wh))], [.int (zI b), .ref 7168, .long (zJ y13)], [r0, r1, r2, r3, r4, r5, r6, zH y10.2 zL7 0, r8, r9])) rfl ?_
          obtain ⟨y15, e16, H⟩ := zbd H
          refine xB.call oX12_push (M2 := MX12_downOf) rfl rfl ((t_X12_downOf r0 r1 r2 r3 r4 r5 r6 y10.2 r8 r9 b e16).deep (by decide : 0 ≤ 5)) ?_
          show xBody MX12_push 6 49 [some (.ref 7168), some (.int (zI c)), some (.int (zI b)), some (.int (zI wh))] [.long (zJ y15), .long (zJ y13)] ([r0, r1, r2, r3, r4, r5, r6, zH y10.2 zL7 0, r8, r9]) _ _
          refine xB.run oX12_push 1 (s := (50, [some (.ref 7168), some (.int (zI c)), some (.int (zI b)), some (.int (zI wh))], [.int (zI wh), .long (zJ y15), .long (zJ y13)], [r0, r1, r2, r3, r4, r5, r6, zH y10.2 zL7 0, r8, r9])) rfl ?_
          obtain ⟨y17, e18, H⟩ := zbd H
          refine xB.call oX12_push (M2 := MX12_part) rfl rfl ((t_X12_part r0 r1 r2 r3 r4 r5 r6 (zH y10.2 zL7 0) r8 r9 y13 y15 wh e18).deep (by decide : 2 ≤ 5)) ?_
          show xBody MX12_push 6 53 [some (.ref 7168), some (.int (zI c)), some (.int (zI b)), some (.int (zI wh))] [.long (zJ y17)] ([r0, r1, r2, r3, r4, r5, r6, zH y10.2 zL7 0, r8, r9]) _ _
          obtain rfl := Option.some.inj H
          exact xB.ret oX12_push (r1 := some (.long (zJ y17))) rfl rfl rfl
        · have H := H.2 h12
          refine xB.run oX12_push 1 (s := (38, [some (.ref 7168), some (.int (zI c)), some (.int (zI b)), some (.int (zI wh))], [.long (zJ (-9223372036854775808))], [r0, r1, r2, r3, r4, r5, r6, zH y10.2 zL7 0, r8, r9])) rfl ?_
          obtain rfl := Option.some.inj H
          exact xB.ret oX12_push (r1 := some (.long (zJ (-9223372036854775808)))) rfl rfl rfl
