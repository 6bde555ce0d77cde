/-! 45.zf2 -/
def d_X11_joint (s0 : zZ) (s3 : zZ) (x : Int) (y : Int) (held : Int) : Option (Int × zZ) := (d_X4_isPlace x).bind fun y1 => if (zr y1) then (if y1 = 0 then some ((-2), s3) else ((d_X4_isPlace y).bind fun y4 => if (zr y4) then (if y4 ≠ 0 then ((d_X4_isTaken s3 x y).bind fun y7 => if (zr y7) then (if y7 = 0 then ((d_X4_hasRoomForJoint s3 held).bind fun y10 => if (zr y10) then (if y10 ≠ 0 then ((d_X4_addJoint s3 x y held).bind fun y13 => some (y13.1, y13.2)) else some ((-4), s3)) else none) else some ((-3), s3)) else none) else some ((-2), s3)) else none)) else none
set_option maxRecDepth 20000 in
theorem t_X11_joint (s0 : zZ) (r1 : List va_E) (r2 : List va_E) (s3 : zZ) (r4 : List va_E) (r5 : List va_E) (r6 : List va_E) (r7 : List va_E) (r8 : List va_E) (r9 : List va_E) (x : Int) (y : Int) (held : Int) {rr : Int × zZ} (H : d_X11_joint s0 s3 x y held = some rr) : xC MX11_joint 2 [.ref 0, .int (zI x), .int (zI y), .int (zI held)] ([zH s0 zL0 0, r1, r2, zH s3 zL3 0, r4, r5, r6, r7, r8, r9]) (some (.int (zI rr.1))) ([zH s0 zL0 0, r1, r2, zH rr.2 zL3 0, r4, r5, r6, r7, r8, r9]) := by
  refine ⟨Nat.le_of_ble_eq_true rfl, ?_⟩
  show xBody MX11_joint 2 0 [some (.ref 0), some (.int (zI x)), some (.int (zI y)), some (.int (zI held))] [] ([zH s0 zL0 0, r1, r2, zH s3 zL3 0, r4, r5, r6, r7, r8, r9]) _ _
  unfold d_X11_joint at H
  refine xB.run oX11_joint 1 (s := (1, [some (.ref 0), some (.int (zI x)), some (.int (zI y)), some (.int (zI held))], [.int (zI x)], [zH s0 zL0 0, r1, r2, zH s3 zL3 0, r4, r5, r6, r7, r8, r9])) rfl ?_
  obtain ⟨y1, e2, H⟩ := zbd H
  refine xB.call oX11_joint (M2 := MX4_isPlace) rfl rfl ((t_X4_isPlace (zH s0 zL0 0) r1 r2 (zH s3 zL3 0) r4 r5 r6 r7 r8 r9 x e2).deep (by decide : 0 ≤ 1)) ?_
  show xBody MX11_joint 2 4 [some (.ref 0), some (.int (zI x)), some (.int (zI y)), some (.int (zI held))] [.int (zI y1)] ([zH s0 zL0 0, r1, r2, zH s3 zL3 0, r4, r5, r6, r7, r8, r9]) _ _
  obtain ⟨g18, H⟩ := zgd H
  have H := zif H
  refine xB.brE oX11_joint (P := y1 = 0) rfl (zc_eq (a := y1) (b := 0) ⟨g18, by decide⟩) (fun h3 => ?_) (fun h3 => ?_)
  · have H := H.1 h3
    refine xB.run oX11_joint 1 (s := (16, [some (.ref 0), some (.int (zI x)), some (.int (zI y)), some (.int (zI held))], [.int (zI (-2))], [zH s0 zL0 0, r1, r2, zH s3 zL3 0, r4, r5, r6, r7, r8, r9])) rfl ?_
    obtain rfl := Option.some.inj H
    exact xB.ret oX11_joint (r1 := some (.int (zI (-2)))) rfl rfl rfl
  · have H := H.2 h3
    refine xB.run oX11_joint 1 (s := (8, [some (.ref 0), some (.int (zI x)), some (.int (zI y)), some (.int (zI held))], [.int (zI y)], [zH s0 zL0 0, r1, r2, zH s3 zL3 0, r4, r5, r6, r7, r8, r9])) rfl ?_
    obtain ⟨y4, e5, H⟩ := zbd H
    refine xB.call oX11_joint (M2 := MX4_isPlace) rfl rfl ((t_X4_isPlace (zH s0 zL0 0) r1 r2 (zH s3 zL3 0) r4 r5 r6 r7 r8 r9 y e5).deep (by decide : 0 ≤ 1)) ?_
    show xBody MX11_joint 2 11 [some (.ref 0), some (.int (zI x)), some (.int (zI y)), some (.int (zI held))] [.int (zI y4)] ([zH s0 zL0 0, r1, r2, zH s3 zL3 0, r4, r5, r6, r7, r8, r9]) _ _
    obtain ⟨g17, H⟩ := zgd H
    have H := zif H
    refine xB.brE oX11_joint (P := y4 ≠ 0) rfl (zc_ne (a := y4) (b := 0) ⟨g17, by decide⟩) (fun h6 => ?_) (fun h6 => ?_)
    · have H := H.1 h6
      refine xB.run oX11_joint 4 (s := (23, [some (.ref 0), some (.int (zI x)), some (.int (zI y)), some (.int (zI held))], [.int (zI y), .int (zI x), .ref 3072], [zH s0 zL0 0, r1, r2, zH s3 zL3 0, r4, r5, r6, r7, r8, r9])) rfl ?_
      obtain ⟨y7, e8, H⟩ := zbd H
      refine xB.call oX11_joint (M2 := MX4_isTaken) rfl rfl ((t_X4_isTaken (zH s0 zL0 0) r1 r2 s3 r4 r5 r6 r7 r8 r9 x y e8).deep (by decide : 0 ≤ 1)) ?_
      show xBody MX11_joint 2 26 [some (.ref 0), some (.int (zI x)), some (.int (zI y)), some (.int (zI held))] [.int (zI y7)] ([zH s0 zL0 0, r1, r2, zH s3 zL3 0, r4, r5, r6, r7, r8, r9]) _ _
      obtain ⟨g16, H⟩ := zgd H
      have H := zif H
      refine xB.brE oX11_joint (P := y7 = 0) rfl (zc_eq (a := y7) (b := 0) ⟨g16, by decide⟩) (fun h9 => ?_) (fun h9 => ?_)
      · have H := H.1 h9
        refine xB.run oX11_joint 3 (s := (37, [some (.ref 0), some (.int (zI x)), some (.int (zI y)), some (.int (zI held))], [.int (zI held), .ref 3072], [zH s0 zL0 0, r1, r2, zH s3 zL3 0, r4, r5, r6, r7, r8, r9])) rfl ?_
        obtain ⟨y10, e11, H⟩ := zbd H
        refine xB.call oX11_joint (M2 := MX4_hasRoomForJoint) rfl rfl ((t_X4_hasRoomForJoint (zH s0 zL0 0) r1 r2 s3 r4 r5 r6 r7 r8 r9 held e11).deep (by decide : 0 ≤ 1)) ?_
        show xBody MX11_joint 2 40 [some (.ref 0), some (.int (zI x)), some (.int (zI y)), some (.int (zI held))] [.int (zI y10)] ([zH s0 zL0 0, r1, r2, zH s3 zL3 0, r4, r5, r6, r7, r8, r9]) _ _
        obtain ⟨g15, H⟩ := zgd H
        have H := zif H
        refine xB.brE oX11_joint (P := y10 ≠ 0) rfl (zc_ne (a := y10) (b := 0) ⟨g15, by decide⟩) (fun h12 => ?_) (fun h12 => ?_)
        · have H := H.1 h12
          refine xB.run oX11_joint 5 (s := (53, [some (.ref 0), some (.int (zI x)), some (.int (zI y)), some (.int (zI held))], [.int (zI held), .int (zI y), .int (zI x), .ref 3072], [zH s0 zL0 0, r1, r2, zH s3 zL3 0, r4, r5, r6, r7, r8, r9])) rfl ?_
          obtain ⟨y13, e14, H⟩ := zbd H
          refine xB.call oX11_joint (M2 := MX4_addJoint) rfl rfl ((t_X4_addJoint (zH s0 zL0 0) r1 r2 s3 r4 r5 r6 r7 r8 r9 x y held e14).deep (by decide : 1 ≤ 1)) ?_
          show xBody MX11_joint 2 56 [some (.ref 0), some (.int (zI x)), some (.int (zI y)), some (.int (zI held))] [.int (zI y13.1)] ([zH s0 zL0 0, r1, r2, zH y13.2 zL3 0, r4, r5, r6, r7, r8, r9]) _ _
          obtain rfl := Option.some.inj H
          exact xB.ret oX11_joint (r1 := some (.int (zI y13.1))) rfl rfl rfl
        · have H := H.2 h12
          refine xB.run oX11_joint 1 (s := (45, [some (.ref 0), some (.int (zI x)), some (.int (zI y)), some (.int (zI held))], [.int (zI (-4))], [zH s0 zL0 0, r1, r2, zH s3 zL3 0, r4, r5, r6, r7, r8, r9])) rfl ?_
          obtain rfl := Option.some.inj H
          exact xB.ret oX11_joint (r1 := some (.int (zI (-4)))) rfl rfl rfl
      · have H := H.2 h9
        refine xB.run oX11_joint 1 (s := (31, [some (.ref 0), some (.int (zI x)), some (.int (zI y)), some (.int (zI held))], [.int (zI (-3))], [zH s0 zL0 0, r1, r2, zH s3 zL3 0, r4, r5, r6, r7, r8, r9])) rfl ?_
        obtain rfl := Option.some.inj H
        exact xB.ret oX11_joint (r1 := some (.int (zI (-3)))) rfl rfl rfl
    · have H := H.2 h6
      refine xB.run oX11_joint 1 (s := (16, [some (.ref 0), some (.int (zI x)), some (.int (zI y)), some (.int (zI held))], [.int (zI (-2))], [zH s0 zL0 0, r1, r2, zH s3 zL3 0, r4, r5, r6, r7, r8, r9])) rfl ?_
      obtain rfl := Option.some.inj H
      exact xB.ret oX11_joint (r1 := some (.int (zI (-2)))) rfl rfl rfl
def d_X11_bar (s0 : zZ) (s1 : zZ) (s2 : zZ) (s3 : zZ) (s4 : zZ) (s5 : zZ) (s6 : zZ) (s7 : zZ) (s8 : zZ) (ks : List Int) (kind : Int) (a : Int) (b : Int) (str : Int) : Option (Int × zZ × zZ × List Int) := (d_X4_isJoint s3 a).bind fun y1 => if (zr y1) then (if y1 = 0 then some ((-1), s3, s8, ks) else ((d_X4_isJoint s3 b).bind fun y4 => if (zr y4) then (if y4 ≠ 0 then (if (zr a ∧ zr b) then (if a = b then some ((-2), s3, s8, ks) else ((d_X4_isKind kind).bind fun y8 => if (zr y8) then (if y8 = 0 then some ((-2), s3, s8, ks) else (if (zr str) then (if str < 1 then some ((-2), s3, s8, ks) else (if (zr str) then (if str ≤ 999 then ((d_X4_isJoined s3 s8 ks a b).bind fun y13 => if (zr y13) then (if y13 = 0 then ((d_X4_hasRoomForBar s3).bind fun y16 => if (zr y16) then (if y16 ≠ 0 then ((d_X4_addBar s0 s1 s2 s3 s4 s5 s6 s7 s8 ks kind a b str).bind fun y19 => some (y19.1, y19.2.1, y19.2.2.1, y19.2.2.2)) else some ((-4), s3, s8, ks)) else none) else some ((-3), s3, s8, ks)) else none) else some ((-2), s3, s8, ks)) else none)) else none)) else none)) else none) else some ((-1), s3, s8, ks)) else none)) else none
set_option maxRecDepth 20000 in
theorem t_X11_bar (s0 : zZ) (s1 : zZ) (s2 : zZ) (s3 : zZ) (s4 : zZ) (s5 : zZ) (s6 : zZ) (s7 : zZ) (s8 : zZ) (r9 : List va_E) (ks : List Int) (kind : Int) (a : Int) (b : Int) (str : Int) {rr : Int × zZ × zZ × List Int} (H : d_X11_bar s0 s1 s2 s3 s4 s5 s6 s7 s8 ks kind a b str = some rr) : xC MX11_bar 4 [.ref 0, .int (zI kind), .int (zI a), .int (zI b), .int (zI str)] ([zH s0 zL0 0, zH s1 zL1 0, zH s2 zL2 0, zH s3 zL3 0, zH s4 zL4 0, zH s5 zL5 0, zH s6 zL6 0, zH s7 zL7 0, zH s8 (zLb ks) 0, r9]) (some (.int (zI rr.1))) ([zH s0 zL0 0, zH s1 zL1 0, zH s2 zL2 0, zH rr.2.1 zL3 0, zH s4 zL4 0, zH s5 zL5 0, zH s6 zL6 0, zH s7 zL7 0, zH rr.2.2.1 (zLb rr.2.2.2) 0, r9]) := by
  refine ⟨Nat.le_of_ble_eq_true rfl, ?_⟩
  show xBody MX11_bar 4 0 [some (.ref 0), some (.int (zI kind)), some (.int (zI a)), some (.int (zI b)), some (.int (zI str))] [] ([zH s0 zL0 0, zH s1 zL1 0, zH s2 zL2 0, zH s3 zL3 0, zH s4 zL4 0, zH s5 zL5 0, zH s6 zL6 0, zH s7 zL7 0, zH s8 (zLb ks) 0, r9]) _ _
  unfold d_X11_bar at H
  refine xB.run oX11_bar 3 (s := (5, [some (.ref 0), some (.int (zI kind)), some (.int (zI a)), some (.int (zI b)), some (.int (zI str))], [.int (zI a), .ref 3072], [zH s0 zL0 0, zH s1 zL1 0, zH s2 zL2 0, zH s3 zL3 0, zH s4 zL4 0, zH s5 zL5 0, zH s6 zL6 0, zH s7 zL7 0, zH s8 (zLb ks) 0, r9])) rfl ?_
  obtain ⟨y1, e2, H⟩ := zbd H
  refine xB.call oX11_bar (M2 := MX4_isJoint) rfl rfl ((t_X4_isJoint (zH s0 zL0 0) (zH s1 zL1 0) (zH s2 zL2 0) s3 (zH s4 zL4 0) (zH s5 zL5 0) (zH s6 zL6 0) (zH s7 zL7 0) (zH s8 (zLb ks) 0) r9 a e2).deep (by decide : 0 ≤ 3)) ?_
  show xBody MX11_bar 4 8 [some (.ref 0), some (.int (zI kind)), some (.int (zI a)), some (.int (zI b)), some (.int (zI str))] [.int (zI y1)] ([zH s0 zL0 0, zH s1 zL1 0, zH s2 zL2 0, zH s3 zL3 0, zH s4 zL4 0, zH s5 zL5 0, zH s6 zL6 0, zH s7 zL7 0, zH s8 (zLb ks) 0, r9]) _ _
  obtain ⟨g28, H⟩ := zgd H
  have H := zif H
  refine xB.brE oX11_bar (P := y1 = 0) rfl (zc_eq (a := y1) (b := 0) ⟨g28, by decide⟩) (fun h3 => ?_) (fun h3 => ?_)
  · have H := H.1 h3
    refine xB.run oX11_bar 1 (s := (23, [some (.ref 0), some (.int (zI kind)), some (.int (zI a)), some (.int (zI b)), some (.int (zI str))], [.int (zI (-1))], [zH s0 zL0 0, zH s1 zL1 0, zH s2 zL2 0, zH s3 zL3 0, zH s4 zL4 0, zH s5 zL5 0, zH s6 zL6 0, zH s7 zL7 0, zH s8 (zLb ks) 0, r9])) rfl ?_
    obtain rfl := Option.some.inj H
    exact xB.ret oX11_bar (r1 := some (.int (zI (-1)))) rfl rfl rfl
  · have H := H.2 h3
    refine xB.run oX11_bar 3 (s := (16, [some (.ref 0), some (.int (zI kind)), some (.int (zI a)), some (.int (zI b)), some (.int (zI str))], [.int (zI b), .ref 3072], [zH s0 zL0 0, zH s1 zL1 0, zH s2 zL2 0, zH s3 zL3 0, zH s4 zL4 0, zH s5 zL5 0, zH s6 zL6 0, zH s7 zL7 0, zH s8 (zLb ks) 0, r9])) rfl ?_
    obtain ⟨y4, e5, H⟩ := zbd H
    refine xB.call oX11_bar (M2 := MX4_isJoint) rfl rfl ((t_X4_isJoint (zH s0 zL0 0) (zH s1 zL1 0) (zH s2 zL2 0) s3 (zH s4 zL4 0) (zH s5 zL5 0) (zH s6 zL6 0) (zH s7 zL7 0) (zH s8 (zLb ks) 0) r9 b e5).deep (by decide : 0 ≤ 3)) ?_
    show xBody MX11_bar 4 19 [some (.ref 0), some (.int (zI kind)), some (.int (zI a)), some (.int (zI b)), some (.int (zI str))] [.int (zI y4)] ([zH s0 zL0 0, zH s1 zL1 0, zH s2 zL2 0, zH s3 zL3 0, zH s4 zL4 0, zH s5 zL5 0, zH s6 zL6 0, zH s7 zL7 0, zH s8 (zLb ks) 0, r9]) _ _
    obtain ⟨g27, H⟩ := zgd H
    have H := zif H
    refine xB.brE oX11_bar (P := y4 ≠ 0) rfl (zc_ne (a := y4) (b := 0) ⟨g27, by decide⟩) (fun h6 => ?_) (fun h6 => ?_)
    · have H := H.1 h6
      refine xB.run oX11_bar 2 (s := (26, [some (.ref 0), some (.int (zI kind)), some (.int (zI a)), some (.int (zI b)), some (.int (zI str))], [.int (zI b), .int (zI a)], [zH s0 zL0 0, zH s1 zL1 0, zH s2 zL2 0, zH s3 zL3 0, zH s4 zL4 0, zH s5 zL5 0, zH s6 zL6 0, zH s7 zL7 0, zH s8 (zLb ks) 0, r9])) rfl ?_
      obtain ⟨g26, H⟩ := zgd H
      have H := zif H
      refine xB.brE oX11_bar (P := a = b) rfl (zc_eq (a := a) (b := b) g26) (fun h7 => ?_) (fun h7 => ?_)
      · have H := H.1 h7
        refine xB.run oX11_bar 1 (s := (52, [some (.ref 0), some (.int (zI kind)), some (.int (zI a)), some (.int (zI b)), some (.int (zI str))], [.int (zI (-2))], [zH s0 zL0 0, zH s1 zL1 0, zH s2 zL2 0, zH s3 zL3 0, zH s4 zL4 0, zH s5 zL5 0, zH s6 zL6 0, zH s7 zL7 0, zH s8 (zLb ks) 0, r9])) rfl ?_
        obtain rfl := Option.some.inj H
        exact xB.ret oX11_bar (r1 := some (.int (zI (-2)))) rfl rfl rfl
      · have H := H.2 h7
        refine xB.run oX11_bar 1 (s := (30, [some (.ref 0), some (.int (zI kind)), some (.int (zI a)), some (.int (zI b)), some (.int (zI str))], [.int (zI kind)], [zH s0 zL0 0, zH s1 zL1 0, zH s2 zL2 0, zH s3 zL3 0, zH s4 zL4 0, zH s5 zL5 0, zH s6 zL6 0, zH s7 zL7 0, zH s8 (zLb ks) 0, r9])) rfl ?_
        obtain ⟨y8, e9, H⟩ := zbd H
        refine xB.call oX11_bar (M2 := MX4_isKind) rfl rfl ((t_X4_isKind (zH s0 zL0 0) (zH s1 zL1 0) (zH s2 zL2 0) (zH s3 zL3 0) (zH s4 zL4 0) (zH s5 zL5 0) (zH s6 zL6 0) (zH s7 zL7 0) (zH s8 (zLb ks) 0) r9 kind e9).deep (by decide : 0 ≤ 3)) ?_
        show xBody MX11_bar 4 33 [some (.ref 0), some (.int (zI kind)), some (.int (zI a)), some (.int (zI b)), some (.int (zI str))] [.int (zI y8)] ([zH s0 zL0 0, zH s1 zL1 0, zH s2 zL2 0, zH s3 zL3 0, zH s4 zL4 0, zH s5 zL5 0, zH s6 zL6 0, zH s7 zL7 0, zH s8 (zLb ks) 0, r9]) _ _
        obtain ⟨g25, H⟩ := zgd H
        have H := zif H
        refine xB.brE oX11_bar (P := y8 = 0) rfl (zc_eq (a := y8) (b := 0) ⟨g25, by decide⟩) (fun h10 => ?_) (fun h10 => ?_)
        · have H := H.1 h10
          refine xB.run oX11_bar 1 (s := (52, [some (.ref 0), some (.int (zI kind)), some (.int (zI a)), some (.int (zI b)), some (.int (zI str))], [.int (zI (-2))], [zH s0 zL0 0, zH s1 zL1 0, zH s2 zL2 0, zH s3 zL3 0, zH s4 zL4 0, zH s5 zL5 0, zH s6 zL6 0, zH s7 zL7 0, zH s8 (zLb ks) 0, r9])) rfl ?_
          obtain rfl := Option.some.inj H
          exact xB.ret oX11_bar (r1 := some (.int (zI (-2)))) rfl rfl rfl
        · have H := H.2 h10
          refine xB.run oX11_bar 2 (s := (39, [some (.ref 0), some (.int (zI kind)), some (.int (zI a)), some (.int (zI b)), some (.int (zI str))], [.int (zI 1), .int (zI str)], [zH s0 zL0 0, zH s1 zL1 0, zH s2 zL2 0, zH s3 zL3 0, zH s4 zL4 0, zH s5 zL5 0, zH s6 zL6 0, zH s7 zL7 0, zH s8 (zLb ks) 0, r9])) rfl ?_
          obtain ⟨g24, H⟩ := zgd H
          have H := zif H
          refine xB.brE oX11_bar (P := str < 1) rfl (zc_lt (a := str) (b := 1) ⟨g24, by decide⟩) (fun h11 => ?_) (fun h11 => ?_)
          · have H := H.1 h11
            refine xB.run oX11_bar 1 (s := (52, [some (.ref 0), some (.int (zI kind)), some (.int (zI a)), some (.int (zI b)), some (.int (zI str))], [.int (zI (-2))], [zH s0 zL0 0, zH s1 zL1 0, zH s2 zL2 0, zH s3 zL3 0, zH s4 zL4 0, zH s5 zL5 0, zH s6 zL6 0, zH s7 zL7 0, zH s8 (zLb ks) 0, r9])) rfl ?_
            obtain rfl := Option.some.inj H
            exact xB.ret oX11_bar (r1 := some (.int (zI (-2)))) rfl rfl rfl
          · have H := H.2 h11
            refine xB.run oX11_bar 2 (s := (47, [some (.ref 0), some (.int (zI kind)), some (.int (zI a)), some (.int (zI b)), some (.int (zI str))], [.int (zI 999), .int (zI str)], [zH s0 zL0 0, zH s1 zL1 0, zH s2 zL2 0, zH s3 zL3 0, zH s4 zL4 0, zH s5 zL5 0, zH s6 zL6 0, zH s7 zL7 0, zH s8 (zLb ks) 0, r9])) rfl ?_
            obtain ⟨g23, H⟩ := zgd H
            have H := zif H
            refine xB.brE oX11_bar (P := str ≤ 999) rfl (zc_le (a := str) (b := 999) ⟨g23, by decide⟩) (fun h12 => ?_) (fun h12 => ?_)
            · have H := H.1 h12
              refine xB.run oX11_bar 4 (s := (59, [some (.ref 0), some (.int (zI kind)), some (.int (zI a)), some (.int (zI b)), some (.int (zI str))], [.int (zI b), .int (zI a), .ref 3072], [zH s0 zL0 0, zH s1 zL1 0, zH s2 zL2 0, zH s3 zL3 0, zH s4 zL4 0, zH s5 zL5 0, zH s6 zL6 0, zH s7 zL7 0, zH s8 (zLb ks) 0, r9])) rfl ?_
              obtain ⟨y13, e14, H⟩ := zbd H
              refine xB.call oX11_bar (M2 := MX4_isJoined) rfl rfl ((t_X4_isJoined (zH s0 zL0 0) (zH s1 zL1 0) (zH s2 zL2 0) s3 (zH s4 zL4 0) (zH s5 zL5 0) (zH s6 zL6 0) (zH s7 zL7 0) s8 r9 ks a b e14).deep (by decide : 0 ≤ 3)) ?_
              show xBody MX11_bar 4 62 [some (.ref 0), some (.int (zI kind)), some (.int (zI a)), some (.int (zI b)), some (.int (zI str))] [.int (zI y13)] ([zH s0 zL0 0, zH s1 zL1 0, zH s2 zL2 0, zH s3 zL3 0, zH s4 zL4 0, zH s5 zL5 0, zH s6 zL6 0, zH s7 zL7 0, zH s8 (zLb ks) 0, r9]) _ _
              obtain ⟨g22, H⟩ := zgd H
              have H := zif H
              refine xB.brE oX11_bar (P := y13 = 0) rfl (zc_eq (a := y13) (b := 0) ⟨g22, by decide⟩) (fun h15 => ?_) (fun h15 => ?_)
              · have H := H.1 h15
                refine xB.run oX11_bar 2 (s := (72, [some (.ref 0), some (.int (zI kind)), some (.int (zI a)), some (.int (zI b)), some (.int (zI str))], [.ref 3072], [zH s0 zL0 0, zH s1 zL1 0, zH s2 zL2 0, zH s3 zL3 0, zH s4 zL4 0, zH s5 zL5 0, zH s6 zL6 0, zH s7 zL7 0, zH s8 (zLb ks) 0, r9])) rfl ?_
                obtain ⟨y16, e17, H⟩ := zbd H
                refine xB.call oX11_bar (M2 := MX4_hasRoomForBar) rfl rfl ((t_X4_hasRoomForBar (zH s0 zL0 0) (zH s1 zL1 0) (zH s2 zL2 0) s3 (zH s4 zL4 0) (zH s5 zL5 0) (zH s6 zL6 0) (zH s7 zL7 0) (zH s8 (zLb ks) 0) r9  e17).deep (by decide : 0 ≤ 3)) ?_
                show xBody MX11_bar 4 75 [some (.ref 0), some (.int (zI kind)), some (.int (zI a)), some (.int (zI b)), some (.int (zI str))] [.int (zI y16)] ([zH s0 zL0 0, zH s1 zL1 0, zH s2 zL2 0, zH s3 zL3 0, zH s4 zL4 0, zH s5 zL5 0, zH s6 zL6 0, zH s7 zL7 0, zH s8 (zLb ks) 0, r9]) _ _
                obtain ⟨g21, H⟩ := zgd H
                have H := zif H
                refine xB.brE oX11_bar (P := y16 ≠ 0) rfl (zc_ne (a := y16) (b := 0) ⟨g21, by decide⟩) (fun h18 => ?_) (fun h18 => ?_)
                · have H := H.1 h18
                  refine xB.run oX11_bar 6 (s := (90, [some (.ref 0), some (.int (zI kind)), some (.int (zI a)), some (.int (zI b)), some (.int (zI str))], [.int (zI str), .int (zI b), .int (zI a), .int (zI kind), .ref 3072], [zH s0 zL0 0, zH s1 zL1 0, zH s2 zL2 0, zH s3 zL3 0, zH s4 zL4 0, zH s5 zL5 0, zH s6 zL6 0, zH s7 zL7 0, zH s8 (zLb ks) 0, r9])) rfl ?_
                  obtain ⟨y19, e20, H⟩ := zbd H
                  refine xB.call oX11_bar (M2 := MX4_addBar) rfl rfl ((t_X4_addBar s0 s1 s2 s3 s4 s5 s6 s7 s8 r9 ks kind a b str e20).deep (by decide : 3 ≤ 3)) ?_
                  show xBody MX11_bar 4 93 [some (.ref 0), some (.int (zI kind)), some (.int (zI a)), some (.int (zI b)), some (.int (zI str))] [.int (zI y19.1)] ([zH s0 zL0 0, zH s1 zL1 0, zH s2 zL2 0, zH y19.2.1 zL3 0, zH s4 zL4 0, zH s5 zL5 0, zH s6 zL6 0, zH s7 zL7 0, zH y19.2.2.1 (zLb y19.2.2.2) 0, r9]) _ _
                  obtain rfl := Option.some.inj H
                  exact xB.ret oX11_bar (r1 := some (.int (zI y19.1))) rfl rfl rfl
                · have H := H.2 h18
                  refine xB.run oX11_bar 1 (s := (80, [some (.ref 0), some (.int (zI kind)), some (.int (zI a)), some (.int (zI b)), some (.int (zI str))], [.int (zI (-4))], [zH s0 zL0 0, zH s1 zL1 0, zH s2 zL2 0, zH s3 zL3 0, zH s4 zL4 0, zH s5 zL5 0, zH s6 zL6 0, zH s7 zL7 0, zH s8 (zLb ks) 0, r9])) rfl ?_
                  obtain rfl := Option.some.inj H
                  exact xB.ret oX11_bar (r1 := some (.int (zI (-4)))) rfl rfl rfl
              · have H := H.2 h15
                refine xB.run oX11_bar 1 (s := (67, [some (.ref 0), some (.int (zI kind)), some (.int (zI a)), some (.int (zI b)), some (.int (zI str))], [.int (zI (-3))], [zH s0 zL0 0, zH s1 zL1 0, zH s2 zL2 0, zH s3 zL3 0, zH s4 zL4 0, zH s5 zL5 0, zH s6 zL6 0, zH s7 zL7 0, zH s8 (zLb ks) 0, r9])) rfl ?_
                obtain rfl := Option.some.inj H
                exact xB.ret oX11_bar (r1 := some (.int (zI (-3)))) rfl rfl rfl
            · have H := H.2 h12
              refine xB.run oX11_bar 1 (s := (52, [some (.ref 0), some (.int (zI kind)), some (.int (zI a)), some (.int (zI b)), some (.int (zI str))], [.int (zI (-2))], [zH s0 zL0 0, zH s1 zL1 0, zH s2 zL2 0, zH s3 zL3 0, zH s4 zL4 0, zH s5 zL5 0, zH s6 zL6 0, zH s7 zL7 0, zH s8 (zLb ks) 0, r9])) rfl ?_
              obtain rfl := Option.some.inj H
              exact xB.ret oX11_bar (r1 := some (.int (zI (-2)))) rfl rfl rfl
    · have H := H.2 h6
      refine xB.run oX11_bar 1 (s := (23, [some (.ref 0), some (.int (zI kind)), some (.int (zI a)), some (.int (zI b)), some (.int (zI str))], [.int (zI (-1))], [zH s0 zL0 0, zH s1 zL1 0, zH s2 zL2 0, zH s3 zL3 0, zH s4 zL4 0, zH s5 zL5 0, zH s6 zL6 0, zH s7 zL7 0, zH s8 (zLb ks) 0, r9])) rfl ?_
      obtain rfl := Option.some.inj H
      exact xB.ret oX11_bar (r1 := some (.int (zI (-1)))) rfl rfl rfl
def d_X11_cut (s0 : zZ) (s3 : zZ) (s8 : zZ) (ks : List Int) (b : Int) (is : Int) : Option (Int × zZ × zZ) := (d_X4_barOf s3 b).bind fun y1 => if y1 < 0 then some ((-1), s3, s8) else (if (y1.toNat < ks.length ∧ y1.toNat < 1024) then (if (zr (s8 y1.toNat 4) ∧ zr is) then (if (s8 y1.toNat 4) ≠ is then ((d_X4_changeCut s3 s8 ks is y1).bind fun y5 => some (1, y5.1, y5.2)) else some (0, s3, s8)) else none) else none)
set_option maxRecDepth 20000 in
theorem t_X11_cut (s0 : zZ) (r1 : List va_E) (r2 : List va_E) (s3 : zZ) (r4 : List va_E) (r5 : List va_E) (r6 : List va_E) (r7 : List va_E) (s8 : zZ) (r9 : List va_E) (ks : List Int) (b : Int) (is : Int) {rr : Int × zZ × zZ} (H : d_X11_cut s0 s3 s8 ks b is = some rr) : xC MX11_cut 1 [.ref 0, .int (zI b), .int (zI is)] ([zH s0 zL0 0, r1, r2, zH s3 zL3 0, r4, r5, r6, r7, zH s8 (zLb ks) 0, r9]) (some (.int (zI rr.1))) ([zH s0 zL0 0, r1, r2, zH rr.2.1 zL3 0, r4, r5, r6, r7, zH rr.2.2 (zLb ks) 0, r9]) := by
  refine ⟨Nat.le_of_ble_eq_true rfl, ?_⟩
  show xBody MX11_cut 1 0 [some (.ref 0), some (.int (zI b)), some (.int (zI is)), none] [] ([zH s0 zL0 0, r1, r2, zH s3 zL3 0, r4, r5, r6, r7, zH s8 (zLb ks) 0, r9]) _ _
  unfold d_X11_cut at H
  refine xB.run oX11_cut 3 (s := (5, [some (.ref 0), some (.int (zI b)), some (.int (zI is)), none], [.int (zI b), .ref 3072], [zH s0 zL0 0, r1, r2, zH s3 zL3 0, r4, r5, r6, r7, zH s8 (zLb ks) 0, r9])) rfl ?_
  obtain ⟨y1, e2, H⟩ := zbd H
  refine xB.call oX11_cut (M2 := MX4_barOf) rfl rfl ((t_X4_barOf (zH s0 zL0 0) r1 r2 s3 r4 r5 r6 r7 (zH s8 (zLb ks) 0) r9 b e2).deep (by decide : 0 ≤ 0)) ?_
  show xBody MX11_cut 1 8 [some (.ref 0), some (.int (zI b)), some (.int (zI is)), none] [zref y1] ([zH s0 zL0 0, r1, r2, zH s3 zL3 0, r4, r5, r6, r7, zH s8 (zLb ks) 0, r9]) _ _
  have H := zif H
  by_cases h3 : y1 < 0
  · have H := H.1 h3
    rw [zref_neg h3]
    refine xB.run oX11_cut 4 (s := (14, [some (.ref 0), some (.int (zI b)), some (.int (zI is)), some (.null)], [.int (zI (-1))], [zH s0 zL0 0, r1, r2, zH s3 zL3 0, r4, r5, r6, r7, zH s8 (zLb ks) 0, r9])) rfl ?_
    obtain rfl := Option.some.inj H
    exact xB.ret oX11_cut (r1 := some (.int (zI (-1)))) rfl rfl rfl
  · have H := H.2 h3
    rw [zref_pos h3]
    refine xB.run oX11_cut 4 (s := (16, [some (.ref 0), some (.int (zI b)), some (.int (zI is)), some (.ref (1024 * 8 + y1.toNat))], [.ref (1024 * 8 + y1.toNat)], [zH s0 zL0 0, r1, r2, zH s3 zL3 0, r4, r5, r6, r7, zH s8 (zLb ks) 0, r9])) rfl ?_
    obtain ⟨g8, H⟩ := zgd H
    refine zB.getI oX11_cut (g := 8) (p := y1.toNat) (k := 4) (y := 0) rfl rfl (by omega) rfl (zLb_at _ g8.1) (zks_bar _ 4 4 4 _ rfl rfl rfl) rfl ?_
    refine xB.run oX11_cut 1 (s := (20, [some (.ref 0), some (.int (zI b)), some (.int (zI is)), some (.ref (1024 * 8 + y1.toNat))], [.int (zI is), .int (zI (s8 y1.toNat 4))], [zH s0 zL0 0, r1, r2, zH s3 zL3 0, r4, r5, r6, r7, zH s8 (zLb ks) 0, r9])) rfl ?_
    obtain ⟨g7, H⟩ := zgd H
    have H := zif H
    refine xB.brE oX11_cut (P := (s8 y1.toNat 4) ≠ is) rfl (zc_ne (a := s8 y1.toNat 4) (b := is) g7) (fun h4 => ?_) (fun h4 => ?_)
    · have H := H.1 h4
      refine xB.run oX11_cut 4 (s := (31, [some (.ref 0), some (.int (zI b)), some (.int (zI is)), some (.ref (1024 * 8 + y1.toNat))], [.int (zI is), .ref (1024 * 8 + y1.toNat), .ref 3072], [zH s0 zL0 0, r1, r2, zH s3 zL3 0, r4, r5, r6, r7, zH s8 (zLb ks) 0, r9])) rfl ?_
      obtain ⟨y5, e6, H⟩ := zbd H
      refine xB.call oX11_cut (M2 := MX4_changeCut) rfl rfl ((t_X4_changeCut (zH s0 zL0 0) r1 r2 s3 r4 r5 r6 r7 s8 r9 ks is y1 e6).deep (by decide : 0 ≤ 0)) ?_
      show xBody MX11_cut 1 34 [some (.ref 0), some (.int (zI b)), some (.int (zI is)), some (.ref (1024 * 8 + y1.toNat))] [] ([zH s0 zL0 0, r1, r2, zH y5.1 zL3 0, r4, r5, r6, r7, zH y5.2 (zLb ks) 0, r9]) _ _
      refine xB.run oX11_cut 1 (s := (35, [some (.ref 0), some (.int (zI b)), some (.int (zI is)), some (.ref (1024 * 8 + y1.toNat))], [.int (zI 1)], [zH s0 zL0 0, r1, r2, zH y5.1 zL3 0, r4, r5, r6, r7, zH y5.2 (zLb ks) 0, r9])) rfl ?_
      obtain rfl := Option.some.inj H
      exact xB.ret oX11_cut (r1 := some (.int (zI 1))) rfl rfl rfl
    · have H := H.2 h4
      refine xB.run oX11_cut 1 (s := (24, [some (.ref 0), some (.int (zI b)), some (.int (zI is)), some (.ref (1024 * 8 + y1.toNat))], [.int (zI 0)], [zH s0 zL0 0, r1, r2, zH s3 zL3 0, r4, r5, r6, r7, zH s8 (zLb ks) 0, r9])) rfl ?_
      obtain rfl := Option.some.inj H
      exact xB.ret oX11_cut (r1 := some (.int (zI 0))) rfl rfl rfl
def d_X11_about (s0 : zZ) (s3 : zZ) (s8 : zZ) (ks : List Int) (b : Int) (wh : Int) : Option (Int) := (d_X4_barOf s3 b).bind fun y1 => if y1 < 0 then some (-1) else (if zr wh then (if wh = 0 then (if (y1.toNat < ks.length ∧ y1.toNat < 1024) then (if ks.getD y1.toNat 0 = 1 then ((d_X3_kindNumber y1).bind fun y9 => some y9) else (if ks.getD y1.toNat 0 = 2 then ((d_X1_kindNumber y1).bind fun y11 => some y11) else ((d_X0_kindNumber y1).bind fun y13 => some y13))) else none) else (if wh = 1 then (if (y1.toNat < ks.length ∧ y1.toNat < 1024) then some (s8 y1.toNat 1) else none) else (if wh = 2 then (if (y1.toNat < ks.length ∧ y1.toNat < 1024) then some (s8 y1.toNat 2) else none) else (if wh = 3 then (if (y1.toNat < ks.length ∧ y1.toNat < 1024) then some (s8 y1.toNat 3) else none) else (if wh = 4 then (if (y1.toNat < ks.length ∧ y1.toNat < 1024) then (if (zr (s8 y1.toNat 4)) then (if (s8 y1.toNat 4) = 0 then some 0 else some 1) else none) else none) else some (-2)))))) else none)
set_option maxRecDepth 20000 in
theorem t_X11_about (s0 : zZ) (r1 : List va_E) (r2 : List va_E) (s3 : zZ) (r4 : List va_E) (r5 : List va_E) (r6 : List va_E) (r7 : List va_E) (s8 : zZ) (r9 : List va_E) (ks : List Int) (b : Int) (wh : Int) {rr : Int} (H : d_X11_about s0 s3 s8 ks b wh = some rr) : xC MX11_about 1 [.ref 0, .int (zI b), .int (zI wh)] ([zH s0 zL0 0, r1, r2, zH s3 zL3 0, r4, r5, r6, r7, zH s8 (zLb ks) 0, r9]) (some (.int (zI rr))) ([zH s0 zL0 0, r1, r2, zH s3 zL3 0, r4, r5, r6, r7, zH s8 (zLb ks) 0, r9]) := by
  refine ⟨Nat.le_of_ble_eq_true rfl, ?_⟩
  show xBody MX11_about 1 0 [some (.ref 0), some (.int (zI b)), some (.int (zI wh)), none] [] ([zH s0 zL0 0, r1, r2, zH s3 zL3 0, r4, r5, r6, r7, zH s8 (zLb ks) 0, r9]) _ _
  unfold d_X11_about at H
  refine xB.run oX11_about 3 (s := (5, [some (.ref 0), some (.int (zI b)), some (.int (zI wh)), none], [.int (zI b), .ref 3072], [zH s0 zL0 0, r1, r2, zH s3 zL3 0, r4, r5, r6, r7, zH s8 (zLb ks) 0, r9])) rfl ?_
  obtain ⟨y1, e2, H⟩ := zbd H
  refine xB.call oX11_about (M2 := MX4_barOf) rfl rfl ((t_X4_barOf (zH s0 zL0 0) r1 r2 s3 r4 r5 r6 r7 (zH s8 (zLb ks) 0) r9 b e2).deep (by decide : 0 ≤ 0)) ?_
  show xBody MX11_about 1 8 [some (.ref 0), some (.int (zI b)), some (.int (zI wh)), none] [zref y1] ([zH s0 zL0 0, r1, r2, zH s3 zL3 0, r4, r5, r6, r7, zH s8 (zLb ks) 0, r9]) _ _
  have H := zif H
  by_cases h3 : y1 < 0
  · have H := H.1 h3
    rw [zref_neg h3]
    refine xB.run oX11_about 4 (s := (14, [some (.ref 0), some (.int (zI b)), some (.int (zI wh)), some (.null)], [.int (zI (-1))], [zH s0 zL0 0, r1, r2, zH s3 zL3 0, r4, r5, r6, r7, zH s8 (zLb ks) 0, r9])) rfl ?_
    obtain rfl := Option.some.inj H
    exact xB.ret oX11_about (r1 := some (.int (zI (-1)))) rfl rfl rfl
  · have H := H.2 h3
    rw [zref_pos h3]
    refine xB.run oX11_about 4 (s := (16, [some (.ref 0), some (.int (zI b)), some (.int (zI wh)), some (.ref (1024 * 8 + y1.toNat))], [.int (zI wh)], [zH s0 zL0 0, r1, r2, zH s3 zL3 0, r4, r5, r6, r7, zH s8 (zLb ks) 0, r9])) rfl ?_
    obtain ⟨g4, H⟩ := zgd H
    have H := zif H
    by_cases h5 : wh = 0
    · have H := H.1 h5
      refine xB.next oX11_about (s := (52, [some (.ref 0), some (.int (zI b)), some (.int (zI wh)), some (.ref (1024 * 8 + y1.toNat))], [], [zH s0 zL0 0, r1, r2, zH s3 zL3 0, r4, r5, r6, r7, zH s8 (zLb ks) 0, r9])) (xsw_at rfl (by rw [zsw g4 0 _ (by decide), if_pos (show wh = ((0 : Nat) : Int) from h5)])) ?_
      refine xB.run oX11_about 1 (s := (53, [some (.ref 0), some (.int (zI b)), some (.int (zI wh)), some (.ref (1024 * 8 + y1.toNat))], [.ref (1024 * 8 + y1.toNat)], [zH s0 zL0 0, r1, r2, zH s3 zL3 0, r4, r5, r6, r7, zH s8 (zLb ks) 0, r9])) rfl ?_
      obtain ⟨g6, H⟩ := zgd H
      have H := zif H
      by_cases h7 : ks.getD y1.toNat 0 = 1
      · have H := H.1 h7
        obtain ⟨y9, e10, H⟩ := zbd H
        refine zB.callv oX11_about (M2 := MX3_kindNumber) (n := 0) (p := y1.toNat) rfl rfl rfl (by omega) rfl (zLb_at _ g6.1) (by unfold zclass; rw [if_pos h7]; rfl) (Nat.le_of_ble_eq_true rfl) rfl ((t_X3_kindNumber (zH s0 zL0 0) r1 r2 (zH s3 zL3 0) r4 r5 r6 r7 (zH s8 (zLb ks) 0) r9 y1 e10).deep (by decide : 0 ≤ 0)) ?_
        show xBody MX11_about 1 56 [some (.ref 0), some (.int (zI b)), some (.int (zI wh)), some (.ref (1024 * 8 + y1.toNat))] [.int (zI y9)] ([zH s0 zL0 0, r1, r2, zH s3 zL3 0, r4, r5, r6, r7, zH s8 (zLb ks) 0, r9]) _ _
        obtain rfl := Option.some.inj H
        exact xB.ret oX11_about (r1 := some (.int (zI y9))) rfl rfl rfl
      · have H := zif (H.2 h7)
        by_cases h8 : ks.getD y1.toNat 0 = 2
        · have H := H.1 h8
          obtain ⟨y11, e12, H⟩ := zbd H
          refine zB.callv oX11_about (M2 := MX1_kindNumber) (n := 0) (p := y1.toNat) rfl rfl rfl (by omega) rfl (zLb_at _ g6.1) (by unfold zclass; rw [if_neg h7, if_pos h8]; rfl) (Nat.le_of_ble_eq_true rfl) rfl ((t_X1_kindNumber (zH s0 zL0 0) r1 r2 (zH s3 zL3 0) r4 r5 r6 r7 (zH s8 (zLb ks) 0) r9 y1 e12).deep (by decide : 0 ≤ 0)) ?_
          show xBody MX11_about 1 56 [some (.ref 0), some (.int (zI b)), some (.int (zI wh)), some (.ref (1024 * 8 + y1.toNat))] [.int (zI y11)] ([zH s0 zL0 0, r1, r2, zH s3 zL3 0, r4, r5, r6, r7, zH s8 (zLb ks) 0, r9]) _ _
          obtain rfl := Option.some.inj H
          exact xB.ret oX11_about (r1 := some (.int (zI y11))) rfl rfl rfl
        · have H := H.2 h8
          obtain ⟨y13, e14, H⟩ := zbd H
          refine zB.callv oX11_about (M2 := MX0_kindNumber) (n := 0) (p := y1.toNat) rfl rfl rfl (by omega) rfl (zLb_at _ g6.1) (by unfold zclass; rw [if_neg h7, if_neg h8]; rfl) (Nat.le_of_ble_eq_true rfl) rfl ((t_X0_kindNumber (zH s0 zL0 0) r1 r2 (zH s3 zL3 0) r4 r5 r6 r7 (zH s8 (zLb ks) 0) r9 y1 e14).deep (by decide : 0 ≤ 0)) ?_
          show xBody MX11_about 1 56 [some (.ref 0), some (.int (zI b)), some (.int (zI wh)), some (.ref (1024 * 8 + y1.toNat))] [.int (zI y13)] ([zH s0 zL0 0, r1, r2, zH s3 zL3 0, r4, r5, r6, r7, zH s8 (zLb ks) 0, r9]) _ _
          obtain rfl := Option.some.inj H
          exact xB.ret oX11_about (r1 := some (.int (zI y13))) rfl rfl rfl
    · have H := H.2 h5
      have H := zif H
      by_cases h15 : wh = 1
      · have H := H.1 h15
        refine xB.next oX11_about (s := (57, [some (.ref 0), some (.int (zI b)), some (.int (zI wh)), some (.ref (1024 * 8 + y1.toNat))], [], [zH s0 zL0 0, r1, r2, zH s3 zL3 0, r4, r5, r6, r7, zH s8 (zLb ks) 0, r9])) (xsw_at rfl (by rw [zsw g4 0 _ (by decide), if_neg (show ¬ wh = ((0 : Nat) : Int) from h5)]; rw [zsw g4 1 _ (by decide), if_pos (show wh = ((1 : Nat) : Int) from h15)])) ?_
        refine xB.run oX11_about 1 (s := (58, [some (.ref 0), some (.int (zI b)), some (.int (zI wh)), some (.ref (1024 * 8 + y1.toNat))], [.ref (1024 * 8 + y1.toNat)], [zH s0 zL0 0, r1, r2, zH s3 zL3 0, r4, r5, r6, r7, zH s8 (zLb ks) 0, r9])) rfl ?_
        obtain ⟨g16, H⟩ := zgd H
        refine zB.getI oX11_about (g := 8) (p := y1.toNat) (k := 1) (y := 0) rfl rfl (by omega) rfl (zLb_at _ g16.1) (zks_bar _ 1 1 1 _ rfl rfl rfl) rfl ?_
        obtain rfl := Option.some.inj H
        exact xB.ret oX11_about (r1 := some (.int (zI (s8 y1.toNat 1)))) rfl rfl rfl
      · have H := H.2 h15
        have H := zif H
        by_cases h17 : wh = 2
        · have H := H.1 h17
          refine xB.next oX11_about (s := (62, [some (.ref 0), some (.int (zI b)), some (.int (zI wh)), some (.ref (1024 * 8 + y1.toNat))], [], [zH s0 zL0 0, r1, r2, zH s3 zL3 0, r4, r5, r6, r7, zH s8 (zLb ks) 0, r9])) (xsw_at rfl (by rw [zsw g4 0 _ (by decide), if_neg (show ¬ wh = ((0 : Nat) : Int) from h5)]; rw [zsw g4 1 _ (by decide), if_neg (show ¬ wh = ((1 : Nat) : Int) from h15)]; rw [zsw g4 2 _ (by decide), if_pos (show wh = ((2 : Nat) : Int) from h17)])) ?_
          refine xB.run oX11_about 1 (s := (63, [some (.ref 0), some (.int (zI b)), some (.int (zI wh)), some (.ref (1024 * 8 + y1.toNat))], [.ref (1024 * 8 + y1.toNat)], [zH s0 zL0 0, r1, r2, zH s3 zL3 0, r4, r5, r6, r7, zH s8 (zLb ks) 0, r9])) rfl ?_
          obtain ⟨g18, H⟩ := zgd H
          refine zB.getI oX11_about (g := 8) (p := y1.toNat) (k := 2) (y := 0) rfl rfl (by omega) rfl (zLb_at _ g18.1) (zks_bar _ 2 2 2 _ rfl rfl rfl) rfl ?_
          obtain rfl := Option.some.inj H
          exact xB.ret oX11_about (r1 := some (.int (zI (s8 y1.toNat 2)))) rfl rfl rfl
        · have H := H.2 h17
          have H := zif H
          by_cases h19 : wh = 3
          · have H := H.1 h19
            refine xB.next oX11_about (s := (67, [some (.ref 0), some (.int (zI b)), some (.int (zI wh)), some (.ref (1024 * 8 + y1.toNat))], [], [zH s0 zL0 0, r1, r2, zH s3 zL3 0, r4, r5, r6, r7, zH s8 (zLb ks) 0, r9])) (xsw_at rfl (by rw [zsw g4 0 _ (by decide), if_neg (show ¬ wh = ((0 : Nat) : Int) from h5)]; rw [zsw g4 1 _ (by decide), if_neg (show ¬ wh = ((1 : Nat) : Int) from h15)]; rw [zsw g4 2 _ (by decide), if_neg (show ¬ wh = ((2 : Nat) : Int) from h17)]; rw [zsw g4 3 _ (by decide), if_pos (show wh = ((3 : Nat) : Int) from h19)])) ?_
            refine xB.run oX11_about 1 (s := (68, [some (.ref 0), some (.int (zI b)), some (.int (zI wh)), some (.ref (1024 * 8 + y1.toNat))], [.ref (1024 * 8 + y1.toNat)], [zH s0 zL0 0, r1, r2, zH s3 zL3 0, r4, r5, r6, r7, zH s8 (zLb ks) 0, r9])) rfl ?_
            obtain ⟨g20, H⟩ := zgd H
            refine zB.getI oX11_about (g := 8) (p := y1.toNat) (k := 3) (y := 0) rfl rfl (by omega) rfl (zLb_at _ g20.1) (zks_bar _ 3 3 3 _ rfl rfl rfl) rfl ?_
            obtain rfl := Option.some.inj H
            exact xB.ret oX11_about (r1 := some (.int (zI (s8 y1.toNat 3)))) rfl rfl rfl
          · have H := H.2 h19
            have H := zif H
            by_cases h21 : wh = 4
            · have H := H.1 h21
              refine xB.next oX11_about (s := (72, [some (.ref 0), some (.int (zI b)), some (.int (zI wh)), some (.ref (1024 * 8 + y1.toNat))], [], [zH s0 zL0 0, r1, r2, zH s3 zL3 0, r4, r5, r6, r7, zH s8 (zLb ks) 0, r9])) (xsw_at rfl (by rw [zsw g4 0 _ (by decide), if_neg (show ¬ wh = ((0 : Nat) : Int) from h5)]; rw [zsw g4 1 _ (by decide), if_neg (show ¬ wh = ((1 : Nat) : Int) from h15)]; rw [zsw g4 2 _ (by decide), if_neg (show ¬ wh = ((2 : Nat) : Int) from h17)]; rw [zsw g4 3 _ (by decide), if_neg (show ¬ wh = ((3 : Nat) : Int) from h19)]; rw [zsw g4 4 _ (by decide), if_pos (show wh = ((4 : Nat) : Int) from h21)])) ?_
              refine xB.run oX11_about 1 (s := (73, [some (.ref 0), some (.int (zI b)), some (.int (zI wh)), some (.ref (1024 * 8 + y1.toNat))], [.ref (1024 * 8 + y1.toNat)], [zH s0 zL0 0, r1, r2, zH s3 zL3 0, r4, r5, r6, r7, zH s8 (zLb ks) 0, r9])) rfl ?_
              obtain ⟨g24, H⟩ := zgd H
              refine zB.getI oX11_about (g := 8) (p := y1.toNat) (k := 4) (y := 0) rfl rfl (by omega) rfl (zLb_at _ g24.1) (zks_bar _ 4 4 4 _ rfl rfl rfl) rfl ?_
              obtain ⟨g23, H⟩ := zgd H
              have H := zif H
              refine xB.brE oX11_about (P := (s8 y1.toNat 4) = 0) rfl (zc_eq (a := s8 y1.toNat 4) (b := 0) ⟨g23, by decide⟩) (fun h22 => ?_) (fun h22 => ?_)
              · have H := H.1 h22
                refine xB.run oX11_about 1 (s := (84, [some (.ref 0), some (.int (zI b)), some (.int (zI wh)), some (.ref (1024 * 8 + y1.toNat))], [.int (zI 0)], [zH s0 zL0 0, r1, r2, zH s3 zL3 0, r4, r5, r6, r7, zH s8 (zLb ks) 0, r9])) rfl ?_
                obtain rfl := Option.some.inj H
                exact xB.ret oX11_about (r1 := some (.int (zI 0))) rfl rfl rfl
              · have H := H.2 h22
                refine xB.run oX11_about 2 (s := (84, [some (.ref 0), some (.int (zI b)), some (.int (zI wh)), some (.ref (1024 * 8 + y1.toNat))], [.int (zI 1)], [zH s0 zL0 0, r1, r2, zH s3 zL3 0, r4, r5, r6, r7, zH s8 (zLb ks) 0, r9])) rfl ?_
                obtain rfl := Option.some.inj H
                exact xB.ret oX11_about (r1 := some (.int (zI 1))) rfl rfl rfl
            · have H := H.2 h21
              refine xB.next oX11_about (s := (85, [some (.ref 0), some (.int (zI b)), some (.int (zI wh)), some (.ref (1024 * 8 + y1.toNat))], [], [zH s0 zL0 0, r1, r2, zH s3 zL3 0, r4, r5, r6, r7, zH s8 (zLb ks) 0, r9])) (xsw_at rfl (by rw [zsw g4 0 _ (by decide), if_neg (show ¬ wh = ((0 : Nat) : Int) from h5)]; rw [zsw g4 1 _ (by decide), if_neg (show ¬ wh = ((1 : Nat) : Int) from h15)]; rw [zsw g4 2 _ (by decide), if_neg (show ¬ wh = ((2 : Nat) : Int) from h17)]; rw [zsw g4 3 _ (by decide), if_neg (show ¬ wh = ((3 : Nat) : Int) from h19)]; rw [zsw g4 4 _ (by decide), if_neg (show ¬ wh = ((4 : Nat) : Int) from h21)]; rfl)) ?_
              refine xB.run oX11_about 1 (s := (87, [some (.ref 0), some (.int (zI b)), some (.int (zI wh)), some (.ref (1024 * 8 + y1.toNat))], [.int (zI (-2))], [zH s0 zL0 0, r1, r2, zH s3 zL3 0, r4, r5, r6, r7, zH s8 (zLb ks) 0, r9])) rfl ?_
              obtain rfl := Option.some.inj H
              exact xB.ret oX11_about (r1 := some (.int (zI (-2)))) rfl rfl rfl
def d_X11_load (s0 : zZ) (s3 : zZ) (c : Int) (jt : Int) (x : Int) (y : Int) : Option (Int × zZ) := (d_X4_isCase c).bind fun y1 => if (zr y1) then (if y1 = 0 then some ((-1), s3) else ((d_X4_isJoint s3 jt).bind fun y4 => if (zr y4) then (if y4 ≠ 0 then ((d_X4_isLoad x).bind fun y7 => if (zr y7) then (if y7 = 0 then some ((-2), s3) else ((d_X4_isLoad y).bind fun y10 => if (zr y10) then (if y10 ≠ 0 then ((d_X4_isFree s3 jt).bind fun y13 => if (zr y13) then (if y13 ≠ 0 then ((d_X4_changeLoad s3 c jt x y).bind fun y16 => some (1, y16)) else some ((-3), s3)) else none) else some ((-2), s3)) else none)) else none) else some ((-1), s3)) else none)) else none
set_option maxRecDepth 20000 in
theorem t_X11_load (s0 : zZ) (r1 : List va_E) (r2 : List va_E) (s3 : zZ) (r4 : List va_E) (r5 : List va_E) (r6 : List va_E) (r7 : List va_E) (r8 : List va_E) (r9 : List va_E) (c : Int) (jt : Int) (x : Int) (y : Int) {rr : Int × zZ} (H : d_X11_load s0 s3 c jt x y = some rr) : xC MX11_load 3 [.ref 0, .int (zI c), .int (zI jt), .int (zI x), .int (zI y)] ([zH s0 zL0 0, r1, r2, zH s3 zL3 0, r4, r5, r6, r7, r8, r9]) (some (.int (zI rr.1))) ([zH s0 zL0 0, r1, r2, zH rr.2 zL3 0, r4, r5, r6, r7, r8, r9]) := by
  refine ⟨Nat.le_of_ble_eq_true rfl, ?_⟩
  show xBody MX11_load 3 0 [some (.ref 0), some (.int (zI c)), some (.int (zI jt)), some (.int (zI x)), some (.int (zI y))] [] ([zH s0 zL0 0, r1, r2, zH s3 zL3 0, r4, r5, r6, r7, r8, r9]) _ _
  unfold d_X11_load at H
  refine xB.run oX11_load 1 (s := (1, [some (.ref 0), some (.int (zI c)), some (.int (zI jt)), some (.int (zI x)), some (.int (zI y))], [.int (zI c)], [zH s0 zL0 0, r1, r2, zH s3 zL3 0, r4, r5, r6, r7, r8, r9])) rfl ?_
  obtain ⟨y1, e2, H⟩ := zbd H
  refine xB.call oX11_load (M2 := MX4_isCase) rfl rfl ((t_X4_isCase (zH s0 zL0 0) r1 r2 (zH s3 zL3 0) r4 r5 r6 r7 r8 r9 c e2).deep (by decide : 0 ≤ 2)) ?_
  show xBody MX11_load 3 4 [some (.ref 0), some (.int (zI c)), some (.int (zI jt)), some (.int (zI x)), some (.int (zI y))] [.int (zI y1)] ([zH s0 zL0 0, r1, r2, zH s3 zL3 0, r4, r5, r6, r7, r8, r9]) _ _
  obtain ⟨g22, H⟩ := zgd H
  have H := zif H
  refine xB.brE oX11_load (P := y1 = 0) rfl (zc_eq (a := y1) (b := 0) ⟨g22, by decide⟩) (fun h3 => ?_) (fun h3 => ?_)
  · have H := H.1 h3
    refine xB.run oX11_load 1 (s := (19, [some (.ref 0), some (.int (zI c)), some (.int (zI jt)), some (.int (zI x)), some (.int (zI y))], [.int (zI (-1))], [zH s0 zL0 0, r1, r2, zH s3 zL3 0, r4, r5, r6, r7, r8, r9])) rfl ?_
    obtain rfl := Option.some.inj H
    exact xB.ret oX11_load (r1 := some (.int (zI (-1)))) rfl rfl rfl
  · have H := H.2 h3
    refine xB.run oX11_load 3 (s := (12, [some (.ref 0), some (.int (zI c)), some (.int (zI jt)), some (.int (zI x)), some (.int (zI y))], [.int (zI jt), .ref 3072], [zH s0 zL0 0, r1, r2, zH s3 zL3 0, r4, r5, r6, r7, r8, r9])) rfl ?_
    obtain ⟨y4, e5, H⟩ := zbd H
    refine xB.call oX11_load (M2 := MX4_isJoint) rfl rfl ((t_X4_isJoint (zH s0 zL0 0) r1 r2 s3 r4 r5 r6 r7 r8 r9 jt e5).deep (by decide : 0 ≤ 2)) ?_
    show xBody MX11_load 3 15 [some (.ref 0), some (.int (zI c)), some (.int (zI jt)), some (.int (zI x)), some (.int (zI y))] [.int (zI y4)] ([zH s0 zL0 0, r1, r2, zH s3 zL3 0, r4, r5, r6, r7, r8, r9]) _ _
    obtain ⟨g21, H⟩ := zgd H
    have H := zif H
    refine xB.brE oX11_load (P := y4 ≠ 0) rfl (zc_ne (a := y4) (b := 0) ⟨g21, by decide⟩) (fun h6 => ?_) (fun h6 => ?_)
    · have H := H.1 h6
      refine xB.run oX11_load 1 (s := (21, [some (.ref 0), some (.int (zI c)), some (.int (zI jt)), some (.int (zI x)), some (.int (zI y))], [.int (zI x)], [zH s0 zL0 0, r1, r2, zH s3 zL3 0, r4, r5, r6, r7, r8, r9])) rfl ?_
      obtain ⟨y7, e8, H⟩ := zbd H
      refine xB.call oX11_load (M2 := MX4_isLoad) rfl rfl ((t_X4_isLoad (zH s0 zL0 0) r1 r2 (zH s3 zL3 0) r4 r5 r6 r7 r8 r9 x e8).deep (by decide : 0 ≤ 2)) ?_
      show xBody MX11_load 3 24 [some (.ref 0), some (.int (zI c)), some (.int (zI jt)), some (.int (zI x)), some (.int (zI y))] [.int (zI y7)] ([zH s0 zL0 0, r1, r2, zH s3 zL3 0, r4, r5, r6, r7, r8, r9]) _ _
      obtain ⟨g20, H⟩ := zgd H
      have H := zif H
      refine xB.brE oX11_load (P := y7 = 0) rfl (zc_eq (a := y7) (b := 0) ⟨g20, by decide⟩) (fun h9 => ?_) (fun h9 => ?_)
      · have H := H.1 h9
        refine xB.run oX11_load 1 (s := (37, [some (.ref 0), some (.int (zI c)), some (.int (zI jt)), some (.int (zI x)), some (.int (zI y))], [.int (zI (-2))], [zH s0 zL0 0, r1, r2, zH s3 zL3 0, r4, r5, r6, r7, r8, r9])) rfl ?_
        obtain rfl := Option.some.inj H
        exact xB.ret oX11_load (r1 := some (.int (zI (-2)))) rfl rfl rfl
      · have H := H.2 h9
        refine xB.run oX11_load 1 (s := (29, [some (.ref 0), some (.int (zI c)), some (.int (zI jt)), some (.int (zI x)), some (.int (zI y))], [.int (zI y)], [zH s0 zL0 0, r1, r2, zH s3 zL3 0, r4, r5, r6, r7, r8, r9])) rfl ?_
        obtain ⟨y10, e11, H⟩ := zbd H
        refine xB.call oX11_load (M2 := MX4_isLoad) rfl rfl ((t_X4_isLoad (zH s0 zL0 0) r1 r2 (zH s3 zL3 0) r4 r5 r6 r7 r8 r9 y e11).deep (by decide : 0 ≤ 2)) ?_
        show xBody MX11_load 3 32 [some (.ref 0), some (.int (zI c)), some (.int (zI jt)), some (.int (zI x)), some (.int (zI y))] [.int (zI y10)] ([zH s0 zL0 0, r1, r2, zH s3 zL3 0, r4, r5, r6, r7, r8, r9]) _ _
        obtain ⟨g19, H⟩ := zgd H
        have H := zif H
        refine xB.brE oX11_load (P := y10 ≠ 0) rfl (zc_ne (a := y10) (b := 0) ⟨g19, by decide⟩) (fun h12 => ?_) (fun h12 => ?_)
        · have H := H.1 h12
          refine xB.run oX11_load 3 (s := (43, [some (.ref 0), some (.int (zI c)), some (.int (zI jt)), some (.int (zI x)), some (.int (zI y))], [.int (zI jt), .ref 3072], [zH s0 zL0 0, r1, r2, zH s3 zL3 0, r4, r5, r6, r7, r8, r9])) rfl ?_
          obtain ⟨y13, e14, H⟩ := zbd H
          refine xB.call oX11_load (M2 := MX4_isFree) rfl rfl ((t_X4_isFree (zH s0 zL0 0) r1 r2 s3 r4 r5 r6 r7 r8 r9 jt e14).deep (by decide : 1 ≤ 2)) ?_
          show xBody MX11_load 3 46 [some (.ref 0), some (.int (zI c)), some (.int (zI jt)), some (.int (zI x)), some (.int (zI y))] [.int (zI y13)] ([zH s0 zL0 0, r1, r2, zH s3 zL3 0, r4, r5, r6, r7, r8, r9]) _ _
          obtain ⟨g18, H⟩ := zgd H
          have H := zif H
          refine xB.brE oX11_load (P := y13 ≠ 0) rfl (zc_ne (a := y13) (b := 0) ⟨g18, by decide⟩) (fun h15 => ?_) (fun h15 => ?_)
          · have H := H.1 h15
            refine xB.run oX11_load 6 (s := (61, [some (.ref 0), some (.int (zI c)), some (.int (zI jt)), some (.int (zI x)), some (.int (zI y))], [.int (zI y), .int (zI x), .int (zI jt), .int (zI c), .ref 3072], [zH s0 zL0 0, r1, r2, zH s3 zL3 0, r4, r5, r6, r7, r8, r9])) rfl ?_
            obtain ⟨y16, e17, H⟩ := zbd H
            refine xB.call oX11_load (M2 := MX4_changeLoad) rfl rfl ((t_X4_changeLoad (zH s0 zL0 0) r1 r2 s3 r4 r5 r6 r7 r8 r9 c jt x y e17).deep (by decide : 2 ≤ 2)) ?_
            show xBody MX11_load 3 64 [some (.ref 0), some (.int (zI c)), some (.int (zI jt)), some (.int (zI x)), some (.int (zI y))] [] ([zH s0 zL0 0, r1, r2, zH y16 zL3 0, r4, r5, r6, r7, r8, r9]) _ _
            refine xB.run oX11_load 1 (s := (65, [some (.ref 0), some (.int (zI c)), some (.int (zI jt)), some (.int (zI x)), some (.int (zI y))], [.int (zI 1)], [zH s0 zL0 0, r1, r2, zH y16 zL3 0, r4, r5, r6, r7, r8, r9])) rfl ?_
            obtain rfl := Option.some.inj H
            exact xB.ret oX11_load (r1 := some (.int (zI 1))) rfl rfl rfl
          · have H := H.2 h15
            refine xB.run oX11_load 1 (s := (51, [some (.ref 0), some (.int (zI c)), some (.int (zI jt)), some (.int (zI x)), some (.int (zI y))], [.int (zI (-3))], [zH s0 zL0 0, r1, r2, zH s3 zL3 0, r4, r5, r6, r7, r8, r9])) rfl ?_
            obtain rfl := Option.some.inj H
            exact xB.ret oX11_load (r1 := some (.int (zI (-3)))) rfl rfl rfl
        · have H := H.2 h12
          refine xB.run oX11_load 1 (s := (37, [some (.ref 0), some (.int (zI c)), some (.int (zI jt)), some (.int (zI x)), some (.int (zI y))], [.int (zI (-2))], [zH s0 zL0 0, r1, r2, zH s3 zL3 0, r4, r5, r6, r7, r8, r9])) rfl ?_
          obtain rfl := Option.some.inj H
          exact xB.ret oX11_load (r1 := some (.int (zI (-2)))) rfl rfl rfl
    · have H := H.2 h6
      refine xB.run oX11_load 1 (s := (19, [some (.ref 0), some (.int (zI c)), some (.int (zI jt)), some (.int (zI x)), some (.int (zI y))], [.int (zI (-1))], [zH s0 zL0 0, r1, r2, zH s3 zL3 0, r4, r5, r6, r7, r8, r9])) rfl ?_
      obtain rfl := Option.some.inj H
      exact xB.ret oX11_load (r1 := some (.int (zI (-1)))) rfl rfl rfl
def d_X11_net (s0 : zZ) (s3 : zZ) (s8 : zZ) (ks : List Int) (wh : Int) : Option (Int × zZ × zZ) := (d_X4_reckon s3 s8 ks).bind fun y1 => if zr wh then (if wh = 0 then ((d_X4_rank y1.1).bind fun y5 => some (y5, y1.1, y1.2)) else (if wh = 1 then ((d_X4_moves y1.1).bind fun y8 => some (y8, y1.1, y1.2)) else (if wh = 2 then ((d_X4_loose y1.1).bind fun y11 => some (y11, y1.1, y1.2)) else some ((-2), y1.1, y1.2)))) else none
set_option maxRecDepth 20000 in
theorem t_X11_net (s0 : zZ) (r1 : List va_E) (r2 : List va_E) (s3 : zZ) (r4 : List va_E) (r5 : List va_E) (r6 : List va_E) (r7 : List va_E) (s8 : zZ) (r9 : List va_E) (ks : List Int) (wh : Int) {rr : Int × zZ × zZ} (H : d_X11_net s0 s3 s8 ks wh = some rr) : xC MX11_net 5 [.ref 0, .int (zI wh)] ([zH s0 zL0 0, r1, r2, zH s3 zL3 0, r4, r5, r6, r7, zH s8 (zLb ks) 0, r9]) (some (.int (zI rr.1))) ([zH s0 zL0 0, r1, r2, zH rr.2.1 zL3 0, r4, r5, r6, r7, zH rr.2.2 (zLb ks) 0, r9]) := by
  refine ⟨Nat.le_of_ble_eq_true rfl, ?_⟩
  show xBody MX11_net 5 0 [some (.ref 0), some (.int (zI wh))] [] ([zH s0 zL0 0, r1, r2, zH s3 zL3 0, r4, r5, r6, r7, zH s8 (zLb ks) 0, r9]) _ _
  unfold d_X11_net at H
  refine xB.run oX11_net 2 (s := (4, [some (.ref 0), some (.int (zI wh))], [.ref 3072], [zH s0 zL0 0, r1, r2, zH s3 zL3 0, r4, r5, r6, r7, zH s8 (zLb ks) 0, r9])) rfl ?_
  obtain ⟨y1, e2, H⟩ := zbd H
  refine xB.call oX11_net (M2 := MX4_reckon) rfl rfl ((t_X4_reckon (zH s0 zL0 0) r1 r2 s3 r4 r5 r6 r7 s8 r9 ks  e2).deep (by decide : 4 ≤ 4)) ?_
  show xBody MX11_net 5 7 [some (.ref 0), some (.int (zI wh))] [] ([zH s0 zL0 0, r1, r2, zH y1.1 zL3 0, r4, r5, r6, r7, zH y1.2 (zLb ks) 0, r9]) _ _
  refine xB.run oX11_net 1 (s := (8, [some (.ref 0), some (.int (zI wh))], [.int (zI wh)], [zH s0 zL0 0, r1, r2, zH y1.1 zL3 0, r4, r5, r6, r7, zH y1.2 (zLb ks) 0, r9])) rfl ?_
  obtain ⟨g3, H⟩ := zgd H
  have H := zif H
  by_cases h4 : wh = 0
  · have H := H.1 h4
    refine xB.next oX11_net (s := (36, [some (.ref 0), some (.int (zI wh))], [], [zH s0 zL0 0, r1, r2, zH y1.1 zL3 0, r4, r5, r6, r7, zH y1.2 (zLb ks) 0, r9])) (xsw_at rfl (by rw [zsw g3 0 _ (by decide), if_pos (show wh = ((0 : Nat) : Int) from h4)])) ?_
    refine xB.run oX11_net 2 (s := (40, [some (.ref 0), some (.int (zI wh))], [.ref 3072], [zH s0 zL0 0, r1, r2, zH y1.1 zL3 0, r4, r5, r6, r7, zH y1.2 (zLb ks) 0, r9])) rfl ?_
    obtain ⟨y5, e6, H⟩ := zbd H
    refine xB.call oX11_net (M2 := MX4_rank) rfl rfl ((t_X4_rank (zH s0 zL0 0) r1 r2 y1.1 r4 r5 r6 r7 (zH y1.2 (zLb ks) 0) r9  e6).deep (by decide : 0 ≤ 4)) ?_
    show xBody MX11_net 5 43 [some (.ref 0), some (.int (zI wh))] [.int (zI y5)] ([zH s0 zL0 0, r1, r2, zH y1.1 zL3 0, r4, r5, r6, r7, zH y1.2 (zLb ks) 0, r9]) _ _
    obtain rfl := Option.some.inj H
    exact xB.ret oX11_net (r1 := some (.int (zI y5))) rfl rfl rfl
  · have H := H.2 h4
    have H := zif H
    by_cases h7 : wh = 1
    · have H := H.1 h7
      refine xB.next oX11_net (s := (44, [some (.ref 0), some (.int (zI wh))], [], [zH s0 zL0 0, r1, r2, zH y1.1 zL3 0, r4, r5, r6, r7, zH y1.2 (zLb ks) 0, r9])) (xsw_at rfl (by rw [zsw g3 0 _ (by decide), if_neg (show ¬ wh = ((0 : Nat) : Int) from h4)]; rw [zsw g3 1 _ (by decide), if_pos (show wh = ((1 : Nat) : Int) from h7)])) ?_
      refine xB.run oX11_net 2 (s := (48, [some (.ref 0), some (.int (zI wh))], [.ref 3072], [zH s0 zL0 0, r1, r2, zH y1.1 zL3 0, r4, r5, r6, r7, zH y1.2 (zLb ks) 0, r9])) rfl ?_
      obtain ⟨y8, e9, H⟩ := zbd H
      refine xB.call oX11_net (M2 := MX4_moves) rfl rfl ((t_X4_moves (zH s0 zL0 0) r1 r2 y1.1 r4 r5 r6 r7 (zH y1.2 (zLb ks) 0) r9  e9).deep (by decide : 0 ≤ 4)) ?_
      show xBody MX11_net 5 51 [some (.ref 0), some (.int (zI wh))] [.int (zI y8)] ([zH s0 zL0 0, r1, r2, zH y1.1 zL3 0, r4, r5, r6, r7, zH y1.2 (zLb ks) 0, r9]) _ _
      obtain rfl := Option.some.inj H
      exact xB.ret oX11_net (r1 := some (.int (zI y8))) rfl rfl rfl
    · have H := H.2 h7
      have H := zif H
      by_cases h10 : wh = 2
      · have H := H.1 h10
        refine xB.next oX11_net (s := (52, [some (.ref 0), some (.int (zI wh))], [], [zH s0 zL0 0, r1, r2, zH y1.1 zL3 0, r4, r5, r6, r7, zH y1.2 (zLb ks) 0, r9])) (xsw_at rfl (by rw [zsw g3 0 _ (by decide), if_neg (show ¬ wh = ((0 : Nat) : Int) from h4)]; rw [zsw g3 1 _ (by decide), if_neg (show ¬ wh = ((1 : Nat) : Int) from h7)]; rw [zsw g3 2 _ (by decide), if_pos (show wh = ((2 : Nat) : Int) from h10)])) ?_
        refine xB.run oX11_net 2 (s := (56, [some (.ref 0), some (.int (zI wh))], [.ref 3072], [zH s0 zL0 0, r1, r2, zH y1.1 zL3 0, r4, r5, r6, r7, zH y1.2 (zLb ks) 0, r9])) rfl ?_
        obtain ⟨y11, e12, H⟩ := zbd H
        refine xB.call oX11_net (M2 := MX4_loose) rfl rfl ((t_X4_loose (zH s0 zL0 0) r1 r2 y1.1 r4 r5 r6 r7 (zH y1.2 (zLb ks) 0) r9  e12).deep (by decide : 0 ≤ 4)) ?_
        show xBody MX11_net 5 59 [some (.ref 0), some (.int (zI wh))] [.int (zI y11)] ([zH s0 zL0 0, r1, r2, zH y1.1 zL3 0, r4, r5, r6, r7, zH y1.2 (zLb ks) 0, r9]) _ _
        obtain rfl := Option.some.inj H
        exact xB.ret oX11_net (r1 := some (.int (zI y11))) rfl rfl rfl
      · have H := H.2 h10
        refine xB.next oX11_net (s := (60, [some (.ref 0), some (.int (zI wh))], [], [zH s0 zL0 0, r1, r2, zH y1.1 zL3 0, r4, r5, r6, r7, zH y1.2 (zLb ks) 0, r9])) (xsw_at rfl (by rw [zsw g3 0 _ (by decide), if_neg (show ¬ wh = ((0 : Nat) : Int) from h4)]; rw [zsw g3 1 _ (by decide), if_neg (show ¬ wh = ((1 : Nat) : Int) from h7)]; rw [zsw g3 2 _ (by decide), if_neg (show ¬ wh = ((2 : Nat) : Int) from h10)]; rfl)) ?_
        refine xB.run oX11_net 1 (s := (62, [some (.ref 0), some (.int (zI wh))], [.int (zI (-2))], [zH s0 zL0 0, r1, r2, zH y1.1 zL3 0, r4, r5, r6, r7, zH y1.2 (zLb ks) 0, r9])) rfl ?_
        obtain rfl := Option.some.inj H
        exact xB.ret oX11_net (r1 := some (.int (zI (-2)))) rfl rfl rfl
def d_X11_move (s0 : zZ) (s3 : zZ) (s8 : zZ) (ks : List Int) (jt : Int) (way : Int) : Option (Int × zZ × zZ) := (d_X4_isJoint s3 jt).bind fun y1 => if (zr y1) then (if y1 = 0 then some ((-9223372036854775808), s3, s8) else (if (zr way) then (if way < 0 then some ((-9223372036854775808), s3, s8) else (if (zr way) then (if way ≤ 1 then ((d_X4_reckon s3 s8 ks).bind fun y6 => (d_X4_isFree y6.1 jt).bind fun y8 => if (zr y8) then (if y8 = 0 then some ((-9223372036854775808), y6.1, y6.2) else ((d_X4_moves y6.1).bind fun y11 => if (zr y11) then (if y11 = 1 then ((d_X4_moveOf y6.1 y6.2 ks jt way).bind fun y14 => some (y14.1, y14.2, y6.2)) else some ((-9223372036854775808), y6.1, y6.2)) else none)) else none) else some ((-9223372036854775808), s3, s8)) else none)) else none)) else none
set_option maxRecDepth 20000 in
theorem t_X11_move (s0 : zZ) (r1 : List va_E) (r2 : List va_E) (s3 : zZ) (r4 : List va_E) (r5 : List va_E) (r6 : List va_E) (r7 : List va_E) (s8 : zZ) (r9 : List va_E) (ks : List Int) (jt : Int) (way : Int) {rr : Int × zZ × zZ} (H : d_X11_move s0 s3 s8 ks jt way = some rr) : xC MX11_move 5 [.ref 0, .int (zI jt), .int (zI way)] ([zH s0 zL0 0, r1, r2, zH s3 zL3 0, r4, r5, r6, r7, zH s8 (zLb ks) 0, r9]) (some (.long (zJ rr.1))) ([zH s0 zL0 0, r1, r2, zH rr.2.1 zL3 0, r4, r5, r6, r7, zH rr.2.2 (zLb ks) 0, r9]) := by
  refine ⟨Nat.le_of_ble_eq_true rfl, ?_⟩
  show xBody MX11_move 5 0 [some (.ref 0), some (.int (zI jt)), some (.int (zI way))] [] ([zH s0 zL0 0, r1, r2, zH s3 zL3 0, r4, r5, r6, r7, zH s8 (zLb ks) 0, r9]) _ _
  unfold d_X11_move at H
  refine xB.run oX11_move 3 (s := (5, [some (.ref 0), some (.int (zI jt)), some (.int (zI way))], [.int (zI jt), .ref 3072], [zH s0 zL0 0, r1, r2, zH s3 zL3 0, r4, r5, r6, r7, zH s8 (zLb ks) 0, r9])) rfl ?_
  obtain ⟨y1, e2, H⟩ := zbd H
  refine xB.call oX11_move (M2 := MX4_isJoint) rfl rfl ((t_X4_isJoint (zH s0 zL0 0) r1 r2 s3 r4 r5 r6 r7 (zH s8 (zLb ks) 0) r9 jt e2).deep (by decide : 0 ≤ 4)) ?_
  show xBody MX11_move 5 8 [some (.ref 0), some (.int (zI jt)), some (.int (zI way))] [.int (zI y1)] ([zH s0 zL0 0, r1, r2, zH s3 zL3 0, r4, r5, r6, r7, zH s8 (zLb ks) 0, r9]) _ _
  obtain ⟨g20, H⟩ := zgd H
  have H := zif H
  refine xB.brE oX11_move (P := y1 = 0) rfl (zc_eq (a := y1) (b := 0) ⟨g20, by decide⟩) (fun h3 => ?_) (fun h3 => ?_)
  · have H := H.1 h3
    refine xB.run oX11_move 1 (s := (23, [some (.ref 0), some (.int (zI jt)), some (.int (zI way))], [.long (zJ (-9223372036854775808))], [zH s0 zL0 0, r1, r2, zH s3 zL3 0, r4, r5, r6, r7, zH s8 (zLb ks) 0, r9])) rfl ?_
    obtain rfl := Option.some.inj H
    exact xB.ret oX11_move (r1 := some (.long (zJ (-9223372036854775808)))) rfl rfl rfl
  · have H := H.2 h3
    refine xB.run oX11_move 1 (s := (12, [some (.ref 0), some (.int (zI jt)), some (.int (zI way))], [.int (zI way)], [zH s0 zL0 0, r1, r2, zH s3 zL3 0, r4, r5, r6, r7, zH s8 (zLb ks) 0, r9])) rfl ?_
    obtain ⟨g19, H⟩ := zgd H
    have H := zif H
    refine xB.brE oX11_move (P := way < 0) rfl (zc_lt (a := way) (b := 0) ⟨g19, by decide⟩) (fun h4 => ?_) (fun h4 => ?_)
    · have H := H.1 h4
      refine xB.run oX11_move 1 (s := (23, [some (.ref 0), some (.int (zI jt)), some (.int (zI way))], [.long (zJ (-9223372036854775808))], [zH s0 zL0 0, r1, r2, zH s3 zL3 0, r4, r5, r6, r7, zH s8 (zLb ks) 0, r9])) rfl ?_
      obtain rfl := Option.some.inj H
      exact xB.ret oX11_move (r1 := some (.long (zJ (-9223372036854775808)))) rfl rfl rfl
    · have H := H.2 h4
      refine xB.run oX11_move 2 (s := (17, [some (.ref 0), some (.int (zI jt)), some (.int (zI way))], [.int (zI 1), .int (zI way)], [zH s0 zL0 0, r1, r2, zH s3 zL3 0, r4, r5, r6, r7, zH s8 (zLb ks) 0, r9])) rfl ?_
      obtain ⟨g18, H⟩ := zgd H
      have H := zif H
      refine xB.brE oX11_move (P := way ≤ 1) rfl (zc_le (a := way) (b := 1) ⟨g18, by decide⟩) (fun h5 => ?_) (fun h5 => ?_)
      · have H := H.1 h5
        refine xB.run oX11_move 2 (s := (28, [some (.ref 0), some (.int (zI jt)), some (.int (zI way))], [.ref 3072], [zH s0 zL0 0, r1, r2, zH s3 zL3 0, r4, r5, r6, r7, zH s8 (zLb ks) 0, r9])) rfl ?_
        obtain ⟨y6, e7, H⟩ := zbd H
        refine xB.call oX11_move (M2 := MX4_reckon) rfl rfl ((t_X4_reckon (zH s0 zL0 0) r1 r2 s3 r4 r5 r6 r7 s8 r9 ks  e7).deep (by decide : 4 ≤ 4)) ?_
        show xBody MX11_move 5 31 [some (.ref 0), some (.int (zI jt)), some (.int (zI way))] [] ([zH s0 zL0 0, r1, r2, zH y6.1 zL3 0, r4, r5, r6, r7, zH y6.2 (zLb ks) 0, r9]) _ _
        refine xB.run oX11_move 3 (s := (36, [some (.ref 0), some (.int (zI jt)), some (.int (zI way))], [.int (zI jt), .ref 3072], [zH s0 zL0 0, r1, r2, zH y6.1 zL3 0, r4, r5, r6, r7, zH y6.2 (zLb ks) 0, r9])) rfl ?_
        obtain ⟨y8, e9, H⟩ := zbd H
        refine xB.call oX11_move (M2 := MX4_isFree) rfl rfl ((t_X4_isFree (zH s0 zL0 0) r1 r2 y6.1 r4 r5 r6 r7 (zH y6.2 (zLb ks) 0) r9 jt e9).deep (by decide : 1 ≤ 4)) ?_
        show xBody MX11_move 5 39 [some (.ref 0), some (.int (zI jt)), some (.int (zI way))] [.int (zI y8)] ([zH s0 zL0 0, r1, r2, zH y6.1 zL3 0, r4, r5, r6, r7, zH y6.2 (zLb ks) 0, r9]) _ _
        obtain ⟨g17, H⟩ := zgd H
        have H := zif H
        refine xB.brE oX11_move (P := y8 = 0) rfl (zc_eq (a := y8) (b := 0) ⟨g17, by decide⟩) (fun h10 => ?_) (fun h10 => ?_)
        · have H := H.1 h10
          refine xB.run oX11_move 1 (s := (56, [some (.ref 0), some (.int (zI jt)), some (.int (zI way))], [.long (zJ (-9223372036854775808))], [zH s0 zL0 0, r1, r2, zH y6.1 zL3 0, r4, r5, r6, r7, zH y6.2 (zLb ks) 0, r9])) rfl ?_
          obtain rfl := Option.some.inj H
          exact xB.ret oX11_move (r1 := some (.long (zJ (-9223372036854775808)))) rfl rfl rfl
        · have H := H.2 h10
          refine xB.run oX11_move 2 (s := (46, [some (.ref 0), some (.int (zI jt)), some (.int (zI way))], [.ref 3072], [zH s0 zL0 0, r1, r2, zH y6.1 zL3 0, r4, r5, r6, r7, zH y6.2 (zLb ks) 0, r9])) rfl ?_
          obtain ⟨y11, e12, H⟩ := zbd H
          refine xB.call oX11_move (M2 := MX4_moves) rfl rfl ((t_X4_moves (zH s0 zL0 0) r1 r2 y6.1 r4 r5 r6 r7 (zH y6.2 (zLb ks) 0) r9  e12).deep (by decide : 0 ≤ 4)) ?_
          show xBody MX11_move 5 49 [some (.ref 0), some (.int (zI jt)), some (.int (zI way))] [.int (zI y11)] ([zH s0 zL0 0, r1, r2, zH y6.1 zL3 0, r4, r5, r6, r7, zH y6.2 (zLb ks) 0, r9]) _ _
          refine xB.run oX11_move 1 (s := (50, [some (.ref 0), some (.int (zI jt)), some (.int (zI way))], [.int (zI 1), .int (zI y11)], [zH s0 zL0 0, r1, r2, zH y6.1 zL3 0, r4, r5, r6, r7, zH y6.2 (zLb ks) 0, r9])) rfl ?_
          obtain ⟨g16, H⟩ := zgd H
          have H := zif H
          refine xB.brE oX11_move (P := y11 = 1) rfl (zc_eq (a := y11) (b := 1) ⟨g16, by decide⟩) (fun h13 => ?_) (fun h13 => ?_)
          · have H := H.1 h13
            refine xB.run oX11_move 4 (s := (63, [some (.ref 0), some (.int (zI jt)), some (.int (zI way))], [.int (zI way), .int (zI jt), .ref 3072], [zH s0 zL0 0, r1, r2, zH y6.1 zL3 0, r4, r5, r6, r7, zH y6.2 (zLb ks) 0, r9])) rfl ?_
            obtain ⟨y14, e15, H⟩ := zbd H
            refine xB.call oX11_move (M2 := MX4_moveOf) rfl rfl ((t_X4_moveOf (zH s0 zL0 0) r1 r2 y6.1 r4 r5 r6 r7 y6.2 r9 ks jt way e15).deep (by decide : 4 ≤ 4)) ?_
            show xBody MX11_move 5 66 [some (.ref 0), some (.int (zI jt)), some (.int (zI way))] [.long (zJ y14.1)] ([zH s0 zL0 0, r1, r2, zH y14.2 zL3 0, r4, r5, r6, r7, zH y6.2 (zLb ks) 0, r9]) _ _
            obtain rfl := Option.some.inj H
            exact xB.ret oX11_move (r1 := some (.long (zJ y14.1))) rfl rfl rfl
          · have H := H.2 h13
            refine xB.run oX11_move 1 (s := (56, [some (.ref 0), some (.int (zI jt)), some (.int (zI way))], [.long (zJ (-9223372036854775808))], [zH s0 zL0 0, r1, r2, zH y6.1 zL3 0, r4, r5, r6, r7, zH y6.2 (zLb ks) 0, r9])) rfl ?_
            obtain rfl := Option.some.inj H
            exact xB.ret oX11_move (r1 := some (.long (zJ (-9223372036854775808)))) rfl rfl rfl
      · have H := H.2 h5
        refine xB.run oX11_move 1 (s := (23, [some (.ref 0), some (.int (zI jt)), some (.int (zI way))], [.long (zJ (-9223372036854775808))], [zH s0 zL0 0, r1, r2, zH s3 zL3 0, r4, r5, r6, r7, zH s8 (zLb ks) 0, r9])) rfl ?_
        obtain rfl := Option.some.inj H
        exact xB.ret oX11_move (r1 := some (.long (zJ (-9223372036854775808)))) rfl rfl rfl
def d_X11_stands (s0 : zZ) (s3 : zZ) (s8 : zZ) (ks : List Int) (c : Int) : Option (Int × zZ × zZ) := (d_X4_isCase c).bind fun y1 => if (zr y1) then (if y1 ≠ 0 then ((d_X4_reckon s3 s8 ks).bind fun y4 => (d_X4_carries y4.1 c).bind fun y6 => if (zr y6) then (if y6 = 0 then some (0, y4.1, y4.2) else some (1, y4.1, y4.2)) else none) else some ((-1), s3, s8)) else none
set_option maxRecDepth 20000 in
theorem t_X11_stands (s0 : zZ) (r1 : List va_E) (r2 : List va_E) (s3 : zZ) (r4 : List va_E) (r5 : List va_E) (r6 : List va_E) (r7 : List va_E) (s8 : zZ) (r9 : List va_E) (ks : List Int) (c : Int) {rr : Int × zZ × zZ} (H : d_X11_stands s0 s3 s8 ks c = some rr) : xC MX11_stands 5 [.ref 0, .int (zI c)] ([zH s0 zL0 0, r1, r2, zH s3 zL3 0, r4, r5, r6, r7, zH s8 (zLb ks) 0, r9]) (some (.int (zI rr.1))) ([zH s0 zL0 0, r1, r2, zH rr.2.1 zL3 0, r4, r5, r6, r7, zH rr.2.2 (zLb ks) 0, r9]) := by
  refine ⟨Nat.le_of_ble_eq_true rfl, ?_⟩
  show xBody MX11_stands 5 0 [some (.ref 0), some (.int (zI c))] [] ([zH s0 zL0 0, r1, r2, zH s3 zL3 0, r4, r5, r6, r7, zH s8 (zLb ks) 0, r9]) _ _
  unfold d_X11_stands at H
  refine xB.run oX11_stands 1 (s := (1, [some (.ref 0), some (.int (zI c))], [.int (zI c)], [zH s0 zL0 0, r1, r2, zH s3 zL3 0, r4, r5, r6, r7, zH s8 (zLb ks) 0, r9])) rfl ?_
  obtain ⟨y1, e2, H⟩ := zbd H
  refine xB.call oX11_stands (M2 := MX4_isCase) rfl rfl ((t_X4_isCase (zH s0 zL0 0) r1 r2 (zH s3 zL3 0) r4 r5 r6 r7 (zH s8 (zLb ks) 0) r9 c e2).deep (by decide : 0 ≤ 4)) ?_
  show xBody MX11_stands 5 4 [some (.ref 0), some (.int (zI c))] [.int (zI y1)] ([zH s0 zL0 0, r1, r2, zH s3 zL3 0, r4, r5, r6, r7, zH s8 (zLb ks) 0, r9]) _ _
  obtain ⟨g10, H⟩ := zgd H
  have H := zif H
  refine xB.brE oX11_stands (P := y1 ≠ 0) rfl (zc_ne (a := y1) (b := 0) ⟨g10, by decide⟩) (fun h3 => ?_) (fun h3 => ?_)
  · have H := H.1 h3
    refine xB.run oX11_stands 2 (s := (13, [some (.ref 0), some (.int (zI c))], [.ref 3072], [zH s0 zL0 0, r1, r2, zH s3 zL3 0, r4, r5, r6, r7, zH s8 (zLb ks) 0, r9])) rfl ?_
    obtain ⟨y4, e5, H⟩ := zbd H
    refine xB.call oX11_stands (M2 := MX4_reckon) rfl rfl ((t_X4_reckon (zH s0 zL0 0) r1 r2 s3 r4 r5 r6 r7 s8 r9 ks  e5).deep (by decide : 4 ≤ 4)) ?_
    show xBody MX11_stands 5 16 [some (.ref 0), some (.int (zI c))] [] ([zH s0 zL0 0, r1, r2, zH y4.1 zL3 0, r4, r5, r6, r7, zH y4.2 (zLb ks) 0, r9]) _ _
    refine xB.run oX11_stands 3 (s := (21, [some (.ref 0), some (.int (zI c))], [.int (zI c), .ref 3072], [zH s0 zL0 0, r1, r2, zH y4.1 zL3 0, r4, r5, r6, r7, zH y4.2 (zLb ks) 0, r9])) rfl ?_
    obtain ⟨y6, e7, H⟩ := zbd H
    refine xB.call oX11_stands (M2 := MX4_carries) rfl rfl ((t_X4_carries (zH s0 zL0 0) r1 r2 y4.1 r4 r5 r6 r7 (zH y4.2 (zLb ks) 0) r9 c e7).deep (by decide : 2 ≤ 4)) ?_
    show xBody MX11_stands 5 24 [some (.ref 0), some (.int (zI c))] [.int (zI y6)] ([zH s0 zL0 0, r1, r2, zH y4.1 zL3 0, r4, r5, r6, r7, zH y4.2 (zLb ks) 0, r9]) _ _
    obtain ⟨g9, H⟩ := zgd H
    have H := zif H
    refine xB.brE oX11_stands (P := y6 = 0) rfl (zc_eq (a := y6) (b := 0) ⟨g9, by decide⟩) (fun h8 => ?_) (fun h8 => ?_)
    · have H := H.1 h8
      refine xB.run oX11_stands 1 (s := (32, [some (.ref 0), some (.int (zI c))], [.int (zI 0)], [zH s0 zL0 0, r1, r2, zH y4.1 zL3 0, r4, r5, r6, r7, zH y4.2 (zLb ks) 0, r9])) rfl ?_
      obtain rfl := Option.some.inj H
      exact xB.ret oX11_stands (r1 := some (.int (zI 0))) rfl rfl rfl
    · have H := H.2 h8
      refine xB.run oX11_stands 2 (s := (32, [some (.ref 0), some (.int (zI c))], [.int (zI 1)], [zH s0 zL0 0, r1, r2, zH y4.1 zL3 0, r4, r5, r6, r7, zH y4.2 (zLb ks) 0, r9])) rfl ?_
      obtain rfl := Option.some.inj H
      exact xB.ret oX11_stands (r1 := some (.int (zI 1))) rfl rfl rfl
  · have H := H.2 h3
    refine xB.run oX11_stands 1 (s := (8, [some (.ref 0), some (.int (zI c))], [.int (zI (-1))], [zH s0 zL0 0, r1, r2, zH s3 zL3 0, r4, r5, r6, r7, zH s8 (zLb ks) 0, r9])) rfl ?_
    obtain rfl := Option.some.inj H
    exact xB.ret oX11_stands (r1 := some (.int (zI (-1)))) rfl rfl rfl
def d_X11_push (s0 : zZ) (s3 : zZ) (s8 : zZ) (ks : List Int) (c : Int) (b : Int) (wh : Int) : Option (Int × zZ × zZ) := (d_X4_barOf s3 b).bind fun y1 => if y1 < 0 then ((d_X4_reckon s3 s8 ks).bind fun y4 => (d_X4_isCase c).bind fun y6 => if (zr y6) then (if y6 = 0 then some ((-9223372036854775808), y4.1, y4.2) else some ((-9223372036854775808), y4.1, y4.2)) else none) else ((d_X4_reckon s3 s8 ks).bind fun y10 => (d_X4_isCase c).bind fun y12 => if (zr y12) then (if y12 = 0 then some ((-9223372036854775808), y10.1, y10.2) else ((d_X11_isHalf wh).bind fun y15 => if (zr y15) then (if y15 = 0 then some ((-9223372036854775808), y10.1, y10.2) else ((d_X4_isTold y10.1 c).bind fun y18 => if (zr y18) then (if y18 ≠ 0 then ((d_X4_upperPush y10.1 y10.2 ks c y1).bind fun y21 => (d_X4_lowerPush y10.1).bind fun y23 => (d_X11_inLeastTerms y21 y23 wh).bind fun y25 => some (y25, y10.1, y10.2)) else some ((-9223372036854775808), y10.1, y10.2)) else none)) else none)) else none)
set_option maxRecDepth 20000 in
theorem t_X11_push (s0 : zZ) (r1 : List va_E) (r2 : List va_E) (s3 : zZ) (r4 : List va_E) (r5 : List va_E) (r6 : List va_E) (r7 : List va_E) (s8 : zZ) (r9 : List va_E) (ks : List Int) (c : Int) (b : Int) (wh : Int) {rr : Int × zZ × zZ} (H : d_X11_push s0 s3 s8 ks c b wh = some rr) : xC MX11_push 5 [.ref 0, .int (zI c), .int (zI b), .int (zI wh)] ([zH s0 zL0 0, r1, r2, zH s3 zL3 0, r4, r5, r6, r7, zH s8 (zLb ks) 0, r9]) (some (.long (zJ rr.1))) ([zH s0 zL0 0, r1, r2, zH rr.2.1 zL3 0, r4, r5, r6, r7, zH rr.2.2 (zLb ks) 0, r9]) := by
  refine ⟨Nat.le_of_ble_eq_true rfl, ?_⟩
  show xBody MX11_push 5 0 [some (.ref 0), some (.int (zI c)), some (.int (zI b)), some (.int (zI wh)), none] [] ([zH s0 zL0 0, r1, r2, zH s3 zL3 0, r4, r5, r6, r7, zH s8 (zLb ks) 0, r9]) _ _
  unfold d_X11_push at H
  refine xB.run oX11_push 3 (s := (5, [some (.ref 0), some (.int (zI c)), some (.int (zI b)), some (.int (zI wh)), none], [.int (zI b), .ref 3072], [zH s0 zL0 0, r1, r2, zH s3 zL3 0, r4, r5, r6, r7, zH s8 (zLb ks) 0, r9])) rfl ?_
  obtain ⟨y1, e2, H⟩ := zbd H
  refine xB.call oX11_push (M2 := MX4_barOf) rfl rfl ((t_X4_barOf (zH s0 zL0 0) r1 r2 s3 r4 r5 r6 r7 (zH s8 (zLb ks) 0) r9 b e2).deep (by decide : 0 ≤ 4)) ?_
  show xBody MX11_push 5 8 [some (.ref 0), some (.int (zI c)), some (.int (zI b)), some (.int (zI wh)), none] [zref y1] ([zH s0 zL0 0, r1, r2, zH s3 zL3 0, r4, r5, r6, r7, zH s8 (zLb ks) 0, r9]) _ _
  have H := zif H
  by_cases h3 : y1 < 0
  · have H := H.1 h3
    rw [zref_neg h3]
    refine xB.run oX11_push 3 (s := (14, [some (.ref 0), some (.int (zI c)), some (.int (zI b)), some (.int (zI wh)), some (.null)], [.ref 3072], [zH s0 zL0 0, r1, r2, zH s3 zL3 0, r4, r5, r6, r7, zH s8 (zLb ks) 0, r9])) rfl ?_
    obtain ⟨y4, e5, H⟩ := zbd H
    refine xB.call oX11_push (M2 := MX4_reckon) rfl rfl ((t_X4_reckon (zH s0 zL0 0) r1 r2 s3 r4 r5 r6 r7 s8 r9 ks  e5).deep (by decide : 4 ≤ 4)) ?_
    show xBody MX11_push 5 17 [some (.ref 0), some (.int (zI c)), some (.int (zI b)), some (.int (zI wh)), some (.null)] [] ([zH s0 zL0 0, r1, r2, zH y4.1 zL3 0, r4, r5, r6, r7, zH y4.2 (zLb ks) 0, r9]) _ _
    refine xB.run oX11_push 1 (s := (18, [some (.ref 0), some (.int (zI c)), some (.int (zI b)), some (.int (zI wh)), some (.null)], [.int (zI c)], [zH s0 zL0 0, r1, r2, zH y4.1 zL3 0, r4, r5, r6, r7, zH y4.2 (zLb ks) 0, r9])) rfl ?_
    obtain ⟨y6, e7, H⟩ := zbd H
    refine xB.call oX11_push (M2 := MX4_isCase) rfl rfl ((t_X4_isCase (zH s0 zL0 0) r1 r2 (zH y4.1 zL3 0) r4 r5 r6 r7 (zH y4.2 (zLb ks) 0) r9 c e7).deep (by decide : 0 ≤ 4)) ?_
    show xBody MX11_push 5 21 [some (.ref 0), some (.int (zI c)), some (.int (zI b)), some (.int (zI wh)), some (.null)] [.int (zI y6)] ([zH s0 zL0 0, r1, r2, zH y4.1 zL3 0, r4, r5, r6, r7, zH y4.2 (zLb ks) 0, r9]) _ _
    obtain ⟨g9, H⟩ := zgd H
    have H := zif H
    refine xB.brE oX11_push (P := y6 = 0) rfl (zc_eq (a := y6) (b := 0) ⟨g9, by decide⟩) (fun h8 => ?_) (fun h8 => ?_)
    · have H := H.1 h8
      refine xB.run oX11_push 1 (s := (50, [some (.ref 0), some (.int (zI c)), some (.int (zI b)), some (.int (zI wh)), some (.null)], [.long (zJ (-9223372036854775808))], [zH s0 zL0 0, r1, r2, zH y4.1 zL3 0, r4, r5, r6, r7, zH y4.2 (zLb ks) 0, r9])) rfl ?_
      obtain rfl := Option.some.inj H
      exact xB.ret oX11_push (r1 := some (.long (zJ (-9223372036854775808)))) rfl rfl rfl
    · have H := H.2 h8
      refine xB.run oX11_push 3 (s := (50, [some (.ref 0), some (.int (zI c)), some (.int (zI b)), some (.int (zI wh)), some (.null)], [.long (zJ (-9223372036854775808))], [zH s0 zL0 0, r1, r2, zH y4.1 zL3 0, r4, r5, r6, r7, zH y4.2 (zLb ks) 0, r9])) rfl ?_
      obtain rfl := Option.some.inj H
      exact xB.ret oX11_push (r1 := some (.long (zJ (-9223372036854775808)))) rfl rfl rfl
  · have H := H.2 h3
    rw [zref_pos h3]
    refine xB.run oX11_push 3 (s := (14, [some (.ref 0), some (.int (zI c)), some (.int (zI b)), some (.int (zI wh)), some (.ref (1024 * 8 + y1.toNat))], [.ref 3072], [zH s0 zL0 0, r1, r2, zH s3 zL3 0, r4, r5, r6, r7, zH s8 (zLb ks) 0, r9])) rfl ?_
    obtain ⟨y10, e11, H⟩ := zbd H
    refine xB.call oX11_push (M2 := MX4_reckon) rfl rfl ((t_X4_reckon (zH s0 zL0 0) r1 r2 s3 r4 r5 r6 r7 s8 r9 ks  e11).deep (by decide : 4 ≤ 4)) ?_
    show xBody MX11_push 5 17 [some (.ref 0), some (.int (zI c)), some (.int (zI b)), some (.int (zI wh)), some (.ref (1024 * 8 + y1.toNat))] [] ([zH s0 zL0 0, r1, r2, zH y10.1 zL3 0, r4, r5, r6, r7, zH y10.2 (zLb ks) 0, r9]) _ _
    refine xB.run oX11_push 1 (s := (18, [some (.ref 0), some (.int (zI c)), some (.int (zI b)), some (.int (zI wh)), some (.ref (1024 * 8 + y1.toNat))], [.int (zI c)], [zH s0 zL0 0, r1, r2, zH y10.1 zL3 0, r4, r5, r6, r7, zH y10.2 (zLb ks) 0, r9])) rfl ?_
    obtain ⟨y12, e13, H⟩ := zbd H
    refine xB.call oX11_push (M2 := MX4_isCase) rfl rfl ((t_X4_isCase (zH s0 zL0 0) r1 r2 (zH y10.1 zL3 0) r4 r5 r6 r7 (zH y10.2 (zLb ks) 0) r9 c e13).deep (by decide : 0 ≤ 4)) ?_
    show xBody MX11_push 5 21 [some (.ref 0), some (.int (zI c)), some (.int (zI b)), some (.int (zI wh)), some (.ref (1024 * 8 + y1.toNat))] [.int (zI y12)] ([zH s0 zL0 0, r1, r2, zH y10.1 zL3 0, r4, r5, r6, r7, zH y10.2 (zLb ks) 0, r9]) _ _
    obtain ⟨g29, H⟩ := zgd H
    have H := zif H
    refine xB.brE oX11_push (P := y12 = 0) rfl (zc_eq (a := y12) (b := 0) ⟨g29, by decide⟩) (fun h14 => ?_) (fun h14 => ?_)
    · have H := H.1 h14
      refine xB.run oX11_push 1 (s := (50, [some (.ref 0), some (.int (zI c)), some (.int (zI b)), some (.int (zI wh)), some (.ref (1024 * 8 + y1.toNat))], [.long (zJ (-9223372036854775808))], [zH s0 zL0 0, r1, r2, zH y10.1 zL3 0, r4, r5, r6, r7, zH y10.2 (zLb ks) 0, r9])) rfl ?_
      obtain rfl := Option.some.inj H
      exact xB.ret oX11_push (r1 := some (.long (zJ (-9223372036854775808)))) rfl rfl rfl
    · have H := H.2 h14
      refine xB.run oX11_push 3 (s := (30, [some (.ref 0), some (.int (zI c)), some (.int (zI b)), some (.int (zI wh)), some (.ref (1024 * 8 + y1.toNat))], [.int (zI wh)], [zH s0 zL0 0, r1, r2, zH y10.1 zL3 0, r4, r5, r6, r7, zH y10.2 (zLb ks) 0, r9])) rfl ?_
      obtain ⟨y15, e16, H⟩ := zbd H
      refine xB.call oX11_push (M2 := MX11_isHalf) rfl rfl ((t_X11_isHalf (zH s0 zL0 0) r1 r2 (zH y10.1 zL3 0) r4 r5 r6 r7 (zH y10.2 (zLb ks) 0) r9 wh e16).deep (by decide : 0 ≤ 4)) ?_
      show xBody MX11_push 5 33 [some (.ref 0), some (.int (zI c)), some (.int (zI b)), some (.int (zI wh)), some (.ref (1024 * 8 + y1.toNat))] [.int (zI y15)] ([zH s0 zL0 0, r1, r2, zH y10.1 zL3 0, r4, r5, r6, r7, zH y10.2 (zLb ks) 0, r9]) _ _
      obtain ⟨g28, H⟩ := zgd H
      have H := zif H
      refine xB.brE oX11_push (P := y15 = 0) rfl (zc_eq (a := y15) (b := 0) ⟨g28, by decide⟩) (fun h17 => ?_) (fun h17 => ?_)
      · have H := H.1 h17
        refine xB.run oX11_push 1 (s := (50, [some (.ref 0), some (.int (zI c)), some (.int (zI b)), some (.int (zI wh)), some (.ref (1024 * 8 + y1.toNat))], [.long (zJ (-9223372036854775808))], [zH s0 zL0 0, r1, r2, zH y10.1 zL3 0, r4, r5, r6, r7, zH y10.2 (zLb ks) 0, r9])) rfl ?_
        obtain rfl := Option.some.inj H
        exact xB.ret oX11_push (r1 := some (.long (zJ (-9223372036854775808)))) rfl rfl rfl
      · have H := H.2 h17
        refine xB.run oX11_push 3 (s := (41, [some (.ref 0), some (.int (zI c)), some (.int (zI b)), some (.int (zI wh)), some (.ref (1024 * 8 + y1.toNat))], [.int (zI c), .ref 3072], [zH s0 zL0 0, r1, r2, zH y10.1 zL3 0, r4, r5, r6, r7, zH y10.2 (zLb ks) 0, r9])) rfl ?_
        obtain ⟨y18, e19, H⟩ := zbd H
        refine xB.call oX11_push (M2 := MX4_isTold) rfl rfl ((t_X4_isTold (zH s0 zL0 0) r1 r2 y10.1 r4 r5 r6 r7 (zH y10.2 (zLb ks) 0) r9 c e19).deep (by decide : 3 ≤ 4)) ?_
        show xBody MX11_push 5 44 [some (.ref 0), some (.int (zI c)), some (.int (zI b)), some (.int (zI wh)), some (.ref (1024 * 8 + y1.toNat))] [.int (zI y18)] ([zH s0 zL0 0, r1, r2, zH y10.1 zL3 0, r4, r5, r6, r7, zH y10.2 (zLb ks) 0, r9]) _ _
        obtain ⟨g27, H⟩ := zgd H
        have H := zif H
        refine xB.brE oX11_push (P := y18 ≠ 0) rfl (zc_ne (a := y18) (b := 0) ⟨g27, by decide⟩) (fun h20 => ?_) (fun h20 => ?_)
        · have H := H.1 h20
          refine xB.run oX11_push 4 (s := (58, [some (.ref 0), some (.int (zI c)), some (.int (zI b)), some (.int (zI wh)), some (.ref (1024 * 8 + y1.toNat))], [.ref (1024 * 8 + y1.toNat), .int (zI c), .ref 3072], [zH s0 zL0 0, r1, r2, zH y10.1 zL3 0, r4, r5, r6, r7, zH y10.2 (zLb ks) 0, r9])) rfl ?_
          obtain ⟨y21, e22, H⟩ := zbd H
          refine xB.call oX11_push (M2 := MX4_upperPush) rfl rfl ((t_X4_upperPush (zH s0 zL0 0) r1 r2 y10.1 r4 r5 r6 r7 y10.2 r9 ks c y1 e22).deep (by decide : 2 ≤ 4)) ?_
          show xBody MX11_push 5 61 [some (.ref 0), some (.int (zI c)), some (.int (zI b)), some (.int (zI wh)), some (.ref (1024 * 8 + y1.toNat))] [.long (zJ y21)] ([zH s0 zL0 0, r1, r2, zH y10.1 zL3 0, r4, r5, r6, r7, zH y10.2 (zLb ks) 0, r9]) _ _
          refine xB.run oX11_push 2 (s := (65, [some (.ref 0), some (.int (zI c)), some (.int (zI b)), some (.int (zI wh)), some (.ref (1024 * 8 + y1.toNat))], [.ref 3072, .long (zJ y21)], [zH s0 zL0 0, r1, r2, zH y10.1 zL3 0, r4, r5, r6, r7, zH y10.2 (zLb ks) 0, r9])) rfl ?_
          obtain ⟨y23, e24, H⟩ := zbd H
          refine xB.call oX11_push (M2 := MX4_lowerPush) rfl rfl ((t_X4_lowerPush (zH s0 zL0 0) r1 r2 y10.1 r4 r5 r6 r7 (zH y10.2 (zLb ks) 0) r9  e24).deep (by decide : 0 ≤ 4)) ?_
          show xBody MX11_push 5 68 [some (.ref 0), some (.int (zI c)), some (.int (zI b)), some (.int (zI wh)), some (.ref (1024 * 8 + y1.toNat))] [.long (zJ y23), .long (zJ y21)] ([zH s0 zL0 0, r1, r2, zH y10.1 zL3 0, r4, r5, r6, r7, zH y10.2 (zLb ks) 0, r9]) _ _
          refine xB.run oX11_push 1 (s := (69, [some (.ref 0), some (.int (zI c)), some (.int (zI b)), some (.int (zI wh)), some (.ref (1024 * 8 + y1.toNat))], [.int (zI wh), .long (zJ y23), .long (zJ y21)], [zH s0 zL0 0, r1, r2, zH y10.1 zL3 0, r4, r5, r6, r7, zH y10.2 (zLb ks) 0, r9])) rfl ?_
          obtain ⟨y25, e26, H⟩ := zbd H
          refine xB.call oX11_push (M2 := MX11_inLeastTerms) rfl rfl ((t_X11_inLeastTerms (zH s0 zL0 0) r1 r2 (zH y10.1 zL3 0) r4 r5 r6 r7 (zH y10.2 (zLb ks) 0) r9 y21 y23 wh e26).deep (by decide : 2 ≤ 4)) ?_
          show xBody MX11_push 5 72 [some (.ref 0), some (.int (zI c)), some (.int (zI b)), some (.int (zI wh)), some (.ref (1024 * 8 + y1.toNat))] [.long (zJ y25)] ([zH s0 zL0 0, r1, r2, zH y10.1 zL3 0, r4, r5, r6, r7, zH y10.2 (zLb ks) 0, r9]) _ _
          obtain rfl := Option.some.inj H
          exact xB.ret oX11_push (r1 := some (.long (zJ y25))) rfl rfl rfl
        · have H := H.2 h20
          refine xB.run oX11_push 1 (s := (50, [some (.ref 0), some (.int (zI c)), some (.int (zI b)), some (.int (zI wh)), some (.ref (1024 * 8 + y1.toNat))], [.long (zJ (-9223372036854775808))], [zH s0 zL0 0, r1, r2, zH y10.1 zL3 0, r4, r5, r6, r7, zH y10.2 (zLb ks) 0, r9])) rfl ?_
          obtain rfl := Option.some.inj H
          exact xB.ret oX11_push (r1 := some (.long (zJ (-9223372036854775808)))) rfl rfl rfl
def d_X11_limit (s0 : zZ) (s3 : zZ) (s8 : zZ) (ks : List Int) (c : Int) (wh : Int) : Option (Int × zZ × zZ) := (d_X4_reckon s3 s8 ks).bind fun y1 => (d_X4_isCase c).bind fun y3 => if (zr y3) then (if y3 = 0 then some ((-9223372036854775808), y1.1, y1.2) else (if (zr wh) then (if wh < 0 then some ((-9223372036854775808), y1.1, y1.2) else (if (zr wh) then (if (2 : Int) < wh then some ((-9223372036854775808), y1.1, y1.2) else ((d_X4_isTold y1.1 c).bind fun y8 => if (zr y8) then (if y8 ≠ 0 then ((d_X4_limitOf y1.1 y1.2 ks c wh).bind fun y11 => some (y11, y1.1, y1.2)) else some ((-9223372036854775808), y1.1, y1.2)) else none)) else none)) else none)) else none
set_option maxRecDepth 20000 in
theorem t_X11_limit (s0 : zZ) (r1 : List va_E) (r2 : List va_E) (s3 : zZ) (r4 : List va_E) (r5 : List va_E) (r6 : List va_E) (r7 : List va_E) (s8 : zZ) (r9 : List va_E) (ks : List Int) (c : Int) (wh : Int) {rr : Int × zZ × zZ} (H : d_X11_limit s0 s3 s8 ks c wh = some rr) : xC MX11_limit 5 [.ref 0, .int (zI c), .int (zI wh)] ([zH s0 zL0 0, r1, r2, zH s3 zL3 0, r4, r5, r6, r7, zH s8 (zLb ks) 0, r9]) (some (.long (zJ rr.1))) ([zH s0 zL0 0, r1, r2, zH rr.2.1 zL3 0, r4, r5, r6, r7, zH rr.2.2 (zLb ks) 0, r9]) := by
  refine ⟨Nat.le_of_ble_eq_true rfl, ?_⟩
  show xBody MX11_limit 5 0 [some (.ref 0), some (.int (zI c)), some (.int (zI wh))] [] ([zH s0 zL0 0, r1, r2, zH s3 zL3 0, r4, r5, r6, r7, zH s8 (zLb ks) 0, r9]) _ _
  unfold d_X11_limit at H
  refine xB.run oX11_limit 2 (s := (4, [some (.ref 0), some (.int (zI c)), some (.int (zI wh))], [.ref 3072], [zH s0 zL0 0, r1, r2, zH s3 zL3 0, r4, r5, r6, r7, zH s8 (zLb ks) 0, r9])) rfl ?_
  obtain ⟨y1, e2, H⟩ := zbd H
  refine xB.call oX11_limit (M2 := MX4_reckon) rfl rfl ((t_X4_reckon (zH s0 zL0 0) r1 r2 s3 r4 r5 r6 r7 s8 r9 ks  e2).deep (by decide : 4 ≤ 4)) ?_
  show xBody MX11_limit 5 7 [some (.ref 0), some (.int (zI c)), some (.int (zI wh))] [] ([zH s0 zL0 0, r1, r2, zH y1.1 zL3 0, r4, r5, r6, r7, zH y1.2 (zLb ks) 0, r9]) _ _
  refine xB.run oX11_limit 1 (s := (8, [some (.ref 0), some (.int (zI c)), some (.int (zI wh))], [.int (zI c)], [zH s0 zL0 0, r1, r2, zH y1.1 zL3 0, r4, r5, r6, r7, zH y1.2 (zLb ks) 0, r9])) rfl ?_
  obtain ⟨y3, e4, H⟩ := zbd H
  refine xB.call oX11_limit (M2 := MX4_isCase) rfl rfl ((t_X4_isCase (zH s0 zL0 0) r1 r2 (zH y1.1 zL3 0) r4 r5 r6 r7 (zH y1.2 (zLb ks) 0) r9 c e4).deep (by decide : 0 ≤ 4)) ?_
  show xBody MX11_limit 5 11 [some (.ref 0), some (.int (zI c)), some (.int (zI wh))] [.int (zI y3)] ([zH s0 zL0 0, r1, r2, zH y1.1 zL3 0, r4, r5, r6, r7, zH y1.2 (zLb ks) 0, r9]) _ _
  obtain ⟨g16, H⟩ := zgd H
  have H := zif H
  refine xB.brE oX11_limit (P := y3 = 0) rfl (zc_eq (a := y3) (b := 0) ⟨g16, by decide⟩) (fun h5 => ?_) (fun h5 => ?_)
  · have H := H.1 h5
    refine xB.run oX11_limit 1 (s := (37, [some (.ref 0), some (.int (zI c)), some (.int (zI wh))], [.long (zJ (-9223372036854775808))], [zH s0 zL0 0, r1, r2, zH y1.1 zL3 0, r4, r5, r6, r7, zH y1.2 (zLb ks) 0, r9])) rfl ?_
    obtain rfl := Option.some.inj H
    exact xB.ret oX11_limit (r1 := some (.long (zJ (-9223372036854775808)))) rfl rfl rfl
  · have H := H.2 h5
    refine xB.run oX11_limit 1 (s := (15, [some (.ref 0), some (.int (zI c)), some (.int (zI wh))], [.int (zI wh)], [zH s0 zL0 0, r1, r2, zH y1.1 zL3 0, r4, r5, r6, r7, zH y1.2 (zLb ks) 0, r9])) rfl ?_
    obtain ⟨g15, H⟩ := zgd H
    have H := zif H
    refine xB.brE oX11_limit (P := wh < 0) rfl (zc_lt (a := wh) (b := 0) ⟨g15, by decide⟩) (fun h6 => ?_) (fun h6 => ?_)
    · have H := H.1 h6
      refine xB.run oX11_limit 1 (s := (37, [some (.ref 0), some (.int (zI c)), some (.int (zI wh))], [.long (zJ (-9223372036854775808))], [zH s0 zL0 0, r1, r2, zH y1.1 zL3 0, r4, r5, r6, r7, zH y1.2 (zLb ks) 0, r9])) rfl ?_
      obtain rfl := Option.some.inj H
      exact xB.ret oX11_limit (r1 := some (.long (zJ (-9223372036854775808)))) rfl rfl rfl
    · have H := H.2 h6
      refine xB.run oX11_limit 2 (s := (20, [some (.ref 0), some (.int (zI c)), some (.int (zI wh))], [.int (zI 2), .int (zI wh)], [zH s0 zL0 0, r1, r2, zH y1.1 zL3 0, r4, r5, r6, r7, zH y1.2 (zLb ks) 0, r9])) rfl ?_
      obtain ⟨g14, H⟩ := zgd H
      have H := zif H
      refine xB.brE oX11_limit (P := (2 : Int) < wh) rfl (zc_gt (a := wh) (b := 2) ⟨g14, by decide⟩) (fun h7 => ?_) (fun h7 => ?_)
      · have H := H.1 h7
        refine xB.run oX11_limit 1 (s := (37, [some (.ref 0), some (.int (zI c)), some (.int (zI wh))], [.long (zJ (-9223372036854775808))], [zH s0 zL0 0, r1, r2, zH y1.1 zL3 0, r4, r5, r6, r7, zH y1.2 (zLb ks) 0, r9])) rfl ?_
        obtain rfl := Option.some.inj H
        exact xB.ret oX11_limit (r1 := some (.long (zJ (-9223372036854775808)))) rfl rfl rfl
      · have H := H.2 h7
        refine xB.run oX11_limit 3 (s := (28, [some (.ref 0), some (.int (zI c)), some (.int (zI wh))], [.int (zI c), .ref 3072], [zH s0 zL0 0, r1, r2, zH y1.1 zL3 0, r4, r5, r6, r7, zH y1.2 (zLb ks) 0, r9])) rfl ?_
        obtain ⟨y8, e9, H⟩ := zbd H
        refine xB.call oX11_limit (M2 := MX4_isTold) rfl rfl ((t_X4_isTold (zH s0 zL0 0) r1 r2 y1.1 r4 r5 r6 r7 (zH y1.2 (zLb ks) 0) r9 c e9).deep (by decide : 3 ≤ 4)) ?_
        show xBody MX11_limit 5 31 [some (.ref 0), some (.int (zI c)), some (.int (zI wh))] [.int (zI y8)] ([zH s0 zL0 0, r1, r2, zH y1.1 zL3 0, r4, r5, r6, r7, zH y1.2 (zLb ks) 0, r9]) _ _
        obtain ⟨g13, H⟩ := zgd H
        have H := zif H
        refine xB.brE oX11_limit (P := y8 ≠ 0) rfl (zc_ne (a := y8) (b := 0) ⟨g13, by decide⟩) (fun h10 => ?_) (fun h10 => ?_)
        · have H := H.1 h10
          refine xB.run oX11_limit 4 (s := (44, [some (.ref 0), some (.int (zI c)), some (.int (zI wh))], [.int (zI wh), .int (zI c), .ref 3072], [zH s0 zL0 0, r1, r2, zH y1.1 zL3 0, r4, r5, r6, r7, zH y1.2 (zLb ks) 0, r9])) rfl ?_
          obtain ⟨y11, e12, H⟩ := zbd H
          refine xB.call oX11_limit (M2 := MX4_limitOf) rfl rfl ((t_X4_limitOf (zH s0 zL0 0) r1 r2 y1.1 r4 r5 r6 r7 y1.2 r9 ks c wh e12).deep (by decide : 3 ≤ 4)) ?_
          show xBody MX11_limit 5 47 [some (.ref 0), some (.int (zI c)), some (.int (zI wh))] [.long (zJ y11)] ([zH s0 zL0 0, r1, r2, zH y1.1 zL3 0, r4, r5, r6, r7, zH y1.2 (zLb ks) 0, r9]) _ _
          obtain rfl := Option.some.inj H
          exact xB.ret oX11_limit (r1 := some (.long (zJ y11))) rfl rfl rfl
        · have H := H.2 h10
          refine xB.run oX11_limit 1 (s := (37, [some (.ref 0), some (.int (zI c)), some (.int (zI wh))], [.long (zJ (-9223372036854775808))], [zH s0 zL0 0, r1, r2, zH y1.1 zL3 0, r4, r5, r6, r7, zH y1.2 (zLb ks) 0, r9])) rfl ?_
          obtain rfl := Option.some.inj H
          exact xB.ret oX11_limit (r1 := some (.long (zJ (-9223372036854775808)))) rfl rfl rfl
def d_X11_needs (s0 : zZ) (s3 : zZ) (s8 : zZ) (ks : List Int) (c : Int) : Option (Int × zZ × zZ) := (d_X4_isCase c).bind fun y1 => if (zr y1) then (if y1 ≠ 0 then ((d_X4_reckon s3 s8 ks).bind fun y4 => (d_X4_carries y4.1 c).bind fun y6 => if (zr y6) then (if y6 ≠ 0 then ((d_X4_neededBars y4.1 y4.2 ks c).bind fun y9 => some (y9, y4.1, y4.2)) else some ((-3), y4.1, y4.2)) else none) else some ((-1), s3, s8)) else none
set_option maxRecDepth 20000 in
theorem t_X11_needs (s0 : zZ) (r1 : List va_E) (r2 : List va_E) (s3 : zZ) (r4 : List va_E) (r5 : List va_E) (r6 : List va_E) (r7 : List va_E) (s8 : zZ) (r9 : List va_E) (ks : List Int) (c : Int) {rr : Int × zZ × zZ} (H : d_X11_needs s0 s3 s8 ks c = some rr) : xC MX11_needs 5 [.ref 0, .int (zI c)] ([zH s0 zL0 0, r1, r2, zH s3 zL3 0, r4, r5, r6, r7, zH s8 (zLb ks) 0, r9]) (some (.int (zI rr.1))) ([zH s0 zL0 0, r1, r2, zH rr.2.1 zL3 0, r4, r5, r6, r7, zH rr.2.2 (zLb ks) 0, r9]) := by
  refine ⟨Nat.le_of_ble_eq_true rfl, ?_⟩
  show xBody MX11_needs 5 0 [some (.ref 0), some (.int (zI c))] [] ([zH s0 zL0 0, r1, r2, zH s3 zL3 0, r4, r5, r6, r7, zH s8 (zLb ks) 0, r9]) _ _
  unfold d_X11_needs at H
  refine xB.run oX11_needs 1 (s := (1, [some (.ref 0), some (.int (zI c))], [.int (zI c)], [zH s0 zL0 0, r1, r2, zH s3 zL3 0, r4, r5, r6, r7, zH s8 (zLb ks) 0, r9])) rfl ?_
  obtain ⟨y1, e2, H⟩ := zbd H
  refine xB.call oX11_needs (M2 := MX4_isCase) rfl rfl ((t_X4_isCase (zH s0 zL0 0) r1 r2 (zH s3 zL3 0) r4 r5 r6 r7 (zH s8 (zLb ks) 0) r9 c e2).deep (by decide : 0 ≤ 4)) ?_
  show xBody MX11_needs 5 4 [some (.ref 0), some (.int (zI c))] [.int (zI y1)] ([zH s0 zL0 0, r1, r2, zH s3 zL3 0, r4, r5, r6, r7, zH s8 (zLb ks) 0, r9]) _ _
  obtain ⟨g12, H⟩ := zgd H
  have H := zif H
  refine xB.brE oX11_needs (P := y1 ≠ 0) rfl (zc_ne (a := y1) (b := 0) ⟨g12, by decide⟩) (fun h3 => ?_) (fun h3 => ?_)
  · have H := H.1 h3
    refine xB.run oX11_needs 2 (s := (13, [some (.ref 0), some (.int (zI c))], [.ref 3072], [zH s0 zL0 0, r1, r2, zH s3 zL3 0, r4, r5, r6, r7, zH s8 (zLb ks) 0, r9])) rfl ?_
    obtain ⟨y4, e5, H⟩ := zbd H
    refine xB.call oX11_needs (M2 := MX4_reckon) rfl rfl ((t_X4_reckon (zH s0 zL0 0) r1 r2 s3 r4 r5 r6 r7 s8 r9 ks  e5).deep (by decide : 4 ≤ 4)) ?_
    show xBody MX11_needs 5 16 [some (.ref 0), some (.int (zI c))] [] ([zH s0 zL0 0, r1, r2, zH y4.1 zL3 0, r4, r5, r6, r7, zH y4.2 (zLb ks) 0, r9]) _ _
    refine xB.run oX11_needs 3 (s := (21, [some (.ref 0), some (.int (zI c))], [.int (zI c), .ref 3072], [zH s0 zL0 0, r1, r2, zH y4.1 zL3 0, r4, r5, r6, r7, zH y4.2 (zLb ks) 0, r9])) rfl ?_
    obtain ⟨y6, e7, H⟩ := zbd H
    refine xB.call oX11_needs (M2 := MX4_carries) rfl rfl ((t_X4_carries (zH s0 zL0 0) r1 r2 y4.1 r4 r5 r6 r7 (zH y4.2 (zLb ks) 0) r9 c e7).deep (by decide : 2 ≤ 4)) ?_
    show xBody MX11_needs 5 24 [some (.ref 0), some (.int (zI c))] [.int (zI y6)] ([zH s0 zL0 0, r1, r2, zH y4.1 zL3 0, r4, r5, r6, r7, zH y4.2 (zLb ks) 0, r9]) _ _
    obtain ⟨g11, H⟩ := zgd H
    have H := zif H
    refine xB.brE oX11_needs (P := y6 ≠ 0) rfl (zc_ne (a := y6) (b := 0) ⟨g11, by decide⟩) (fun h8 => ?_) (fun h8 => ?_)
    · have H := H.1 h8
      refine xB.run oX11_needs 3 (s := (35, [some (.ref 0), some (.int (zI c))], [.int (zI c), .ref 3072], [zH s0 zL0 0, r1, r2, zH y4.1 zL3 0, r4, r5, r6, r7, zH y4.2 (zLb ks) 0, r9])) rfl ?_
      obtain ⟨y9, e10, H⟩ := zbd H
      refine xB.call oX11_needs (M2 := MX4_neededBars) rfl rfl ((t_X4_neededBars (zH s0 zL0 0) r1 r2 y4.1 r4 r5 r6 r7 y4.2 r9 ks c e10).deep (by decide : 3 ≤ 4)) ?_
      show xBody MX11_needs 5 38 [some (.ref 0), some (.int (zI c))] [.int (zI y9)] ([zH s0 zL0 0, r1, r2, zH y4.1 zL3 0, r4, r5, r6, r7, zH y4.2 (zLb ks) 0, r9]) _ _
      obtain rfl := Option.some.inj H
      exact xB.ret oX11_needs (r1 := some (.int (zI y9))) rfl rfl rfl
    · have H := H.2 h8
      refine xB.run oX11_needs 1 (s := (29, [some (.ref 0), some (.int (zI c))], [.int (zI (-3))], [zH s0 zL0 0, r1, r2, zH y4.1 zL3 0, r4, r5, r6, r7, zH y4.2 (zLb ks) 0, r9])) rfl ?_
      obtain rfl := Option.some.inj H
      exact xB.ret oX11_needs (r1 := some (.int (zI (-3)))) rfl rfl rfl
  · have H := H.2 h3
    refine xB.run oX11_needs 1 (s := (8, [some (.ref 0), some (.int (zI c))], [.int (zI (-1))], [zH s0 zL0 0, r1, r2, zH s3 zL3 0, r4, r5, r6, r7, zH s8 (zLb ks) 0, r9])) rfl ?_
    obtain rfl := Option.some.inj H
    exact xB.ret oX11_needs (r1 := some (.int (zI (-1)))) rfl rfl rfl
def d_X11_order (s0 : zZ) (s3 : zZ) (s8 : zZ) (ks : List Int) (set : Int) (i : Int) : Option (Int × zZ × zZ) := if (zr set) then (if set < 1 then some ((-2), s3, s8) else (if (zr set) then (if set < 64 then (if (zr i) then (if i < 0 then some ((-1), s3, s8) else ((d_J6_bitCount set).bind fun y4 => if (zr i ∧ zr y4) then (if i < y4 then ((d_X4_reckon s3 s8 ks).bind fun y7 => (d_X4_areTold y7.1 set).bind fun y9 => if (zr y9) then (if y9 ≠ 0 then ((d_X4_orderedCase y7.1 y7.2 ks set i).bind fun y12 => some (y12.1, y12.2, y7.2)) else some ((-3), y7.1, y7.2)) else none) else some ((-1), s3, s8)) else none)) else none) else some ((-2), s3, s8)) else none)) else none
set_option maxRecDepth 20000 in
theorem t_X11_order (s0 : zZ) (r1 : List va_E) (r2 : List va_E) (s3 : zZ) (r4 : List va_E) (r5 : List va_E) (r6 : List va_E) (r7 : List va_E) (s8 : zZ) (r9 : List va_E) (ks : List Int) (set : Int) (i : Int) {rr : Int × zZ × zZ} (H : d_X11_order s0 s3 s8 ks set i = some rr) : xC MX11_order 5 [.ref 0, .int (zI set), .int (zI i)] ([zH s0 zL0 0, r1, r2, zH s3 zL3 0, r4, r5, r6, r7, zH s8 (zLb ks) 0, r9]) (some (.int (zI rr.1))) ([zH s0 zL0 0, r1, r2, zH rr.2.1 zL3 0, r4, r5, r6, r7, zH rr.2.2 (zLb ks) 0, r9]) := by
  refine ⟨Nat.le_of_ble_eq_true rfl, ?_⟩
  show xBody MX11_order 5 0 [some (.ref 0), some (.int (zI set)), some (.int (zI i))] [] ([zH s0 zL0 0, r1, r2, zH s3 zL3 0, r4, r5, r6, r7, zH s8 (zLb ks) 0, r9]) _ _
  unfold d_X11_order at H
  refine xB.run oX11_order 2 (s := (2, [some (.ref 0), some (.int (zI set)), some (.int (zI i))], [.int (zI 1), .int (zI set)], [zH s0 zL0 0, r1, r2, zH s3 zL3 0, r4, r5, r6, r7, zH s8 (zLb ks) 0, r9])) rfl ?_
  obtain ⟨g18, H⟩ := zgd H
  have H := zif H
  refine xB.brE oX11_order (P := set < 1) rfl (zc_lt (a := set) (b := 1) ⟨g18, by decide⟩) (fun h1 => ?_) (fun h1 => ?_)
  · have H := H.1 h1
    refine xB.run oX11_order 1 (s := (13, [some (.ref 0), some (.int (zI set)), some (.int (zI i))], [.int (zI (-2))], [zH s0 zL0 0, r1, r2, zH s3 zL3 0, r4, r5, r6, r7, zH s8 (zLb ks) 0, r9])) rfl ?_
    obtain rfl := Option.some.inj H
    exact xB.ret oX11_order (r1 := some (.int (zI (-2)))) rfl rfl rfl
  · have H := H.2 h1
    refine xB.run oX11_order 2 (s := (8, [some (.ref 0), some (.int (zI set)), some (.int (zI i))], [.int (zI 64), .int (zI set)], [zH s0 zL0 0, r1, r2, zH s3 zL3 0, r4, r5, r6, r7, zH s8 (zLb ks) 0, r9])) rfl ?_
    obtain ⟨g17, H⟩ := zgd H
    have H := zif H
    refine xB.brE oX11_order (P := set < 64) rfl (zc_lt (a := set) (b := 64) ⟨g17, by decide⟩) (fun h2 => ?_) (fun h2 => ?_)
    · have H := H.1 h2
      refine xB.run oX11_order 1 (s := (15, [some (.ref 0), some (.int (zI set)), some (.int (zI i))], [.int (zI i)], [zH s0 zL0 0, r1, r2, zH s3 zL3 0, r4, r5, r6, r7, zH s8 (zLb ks) 0, r9])) rfl ?_
      obtain ⟨g16, H⟩ := zgd H
      have H := zif H
      refine xB.brE oX11_order (P := i < 0) rfl (zc_lt (a := i) (b := 0) ⟨g16, by decide⟩) (fun h3 => ?_) (fun h3 => ?_)
      · have H := H.1 h3
        refine xB.run oX11_order 1 (s := (27, [some (.ref 0), some (.int (zI set)), some (.int (zI i))], [.int (zI (-1))], [zH s0 zL0 0, r1, r2, zH s3 zL3 0, r4, r5, r6, r7, zH s8 (zLb ks) 0, r9])) rfl ?_
        obtain rfl := Option.some.inj H
        exact xB.ret oX11_order (r1 := some (.int (zI (-1)))) rfl rfl rfl
      · have H := H.2 h3
        refine xB.run oX11_order 2 (s := (20, [some (.ref 0), some (.int (zI set)), some (.int (zI i))], [.int (zI set), .int (zI i)], [zH s0 zL0 0, r1, r2, zH s3 zL3 0, r4, r5, r6, r7, zH s8 (zLb ks) 0, r9])) rfl ?_
        obtain ⟨y4, e5, H⟩ := zbd H
        refine xB.call oX11_order (M2 := MJ6_bitCount_0f7a4) rfl rfl ((t_J6_bitCount (zH s0 zL0 0) r1 r2 (zH s3 zL3 0) r4 r5 r6 r7 (zH s8 (zLb ks) 0) r9 set e5).deep (by decide : 0 ≤ 4)) ?_
        show xBody MX11_order 5 23 [some (.ref 0), some (.int (zI set)), some (.int (zI i))] [.int (zI y4), .int (zI i)] ([zH s0 zL0 0, r1, r2, zH s3 zL3 0, r4, r5, r6, r7, zH s8 (zLb ks) 0, r9]) _ _
        obtain ⟨g15, H⟩ := zgd H
        have H := zif H
        refine xB.brE oX11_order (P := i < y4) rfl (zc_lt (a := i) (b := y4) g15) (fun h6 => ?_) (fun h6 => ?_)
        · have H := H.1 h6
          refine xB.run oX11_order 2 (s := (32, [some (.ref 0), some (.int (zI set)), some (.int (zI i))], [.ref 3072], [zH s0 zL0 0, r1, r2, zH s3 zL3 0, r4, r5, r6, r7, zH s8 (zLb ks) 0, r9])) rfl ?_
          obtain ⟨y7, e8, H⟩ := zbd H
          refine xB.call oX11_order (M2 := MX4_reckon) rfl rfl ((t_X4_reckon (zH s0 zL0 0) r1 r2 s3 r4 r5 r6 r7 s8 r9 ks  e8).deep (by decide : 4 ≤ 4)) ?_
          show xBody MX11_order 5 35 [some (.ref 0), some (.int (zI set)), some (.int (zI i))] [] ([zH s0 zL0 0, r1, r2, zH y7.1 zL3 0, r4, r5, r6, r7, zH y7.2 (zLb ks) 0, r9]) _ _
          refine xB.run oX11_order 3 (s := (40, [some (.ref 0), some (.int (zI set)), some (.int (zI i))], [.int (zI set), .ref 3072], [zH s0 zL0 0, r1, r2, zH y7.1 zL3 0, r4, r5, r6, r7, zH y7.2 (zLb ks) 0, r9])) rfl ?_
          obtain ⟨y9, e10, H⟩ := zbd H
          refine xB.call oX11_order (M2 := MX4_areTold) rfl rfl ((t_X4_areTold (zH s0 zL0 0) r1 r2 y7.1 r4 r5 r6 r7 (zH y7.2 (zLb ks) 0) r9 set e10).deep (by decide : 4 ≤ 4)) ?_
          show xBody MX11_order 5 43 [some (.ref 0), some (.int (zI set)), some (.int (zI i))] [.int (zI y9)] ([zH s0 zL0 0, r1, r2, zH y7.1 zL3 0, r4, r5, r6, r7, zH y7.2 (zLb ks) 0, r9]) _ _
          obtain ⟨g14, H⟩ := zgd H
          have H := zif H
          refine xB.brE oX11_order (P := y9 ≠ 0) rfl (zc_ne (a := y9) (b := 0) ⟨g14, by decide⟩) (fun h11 => ?_) (fun h11 => ?_)
          · have H := H.1 h11
            refine xB.run oX11_order 4 (s := (55, [some (.ref 0), some (.int (zI set)), some (.int (zI i))], [.int (zI i), .int (zI set), .ref 3072], [zH s0 zL0 0, r1, r2, zH y7.1 zL3 0, r4, r5, r6, r7, zH y7.2 (zLb ks) 0, r9])) rfl ?_
            obtain ⟨y12, e13, H⟩ := zbd H
            refine xB.call oX11_order (M2 := MX4_orderedCase) rfl rfl ((t_X4_orderedCase (zH s0 zL0 0) r1 r2 y7.1 r4 r5 r6 r7 y7.2 r9 ks set i e13).deep (by decide : 4 ≤ 4)) ?_
            show xBody MX11_order 5 58 [some (.ref 0), some (.int (zI set)), some (.int (zI i))] [.int (zI y12.1)] ([zH s0 zL0 0, r1, r2, zH y12.2 zL3 0, r4, r5, r6, r7, zH y7.2 (zLb ks) 0, r9]) _ _
            obtain rfl := Option.some.inj H
            exact xB.ret oX11_order (r1 := some (.int (zI y12.1))) rfl rfl rfl
          · have H := H.2 h11
            refine xB.run oX11_order 1 (s := (48, [some (.ref 0), some (.int (zI set)), some (.int (zI i))], [.int (zI (-3))], [zH s0 zL0 0, r1, r2, zH y7.1 zL3 0, r4, r5, r6, r7, zH y7.2 (zLb ks) 0, r9])) rfl ?_
            obtain rfl := Option.some.inj H
            exact xB.ret oX11_order (r1 := some (.int (zI (-3)))) rfl rfl rfl
        · have H := H.2 h6
          refine xB.run oX11_order 1 (s := (27, [some (.ref 0), some (.int (zI set)), some (.int (zI i))], [.int (zI (-1))], [zH s0 zL0 0, r1, r2, zH s3 zL3 0, r4, r5, r6, r7, zH s8 (zLb ks) 0, r9])) rfl ?_
          obtain rfl := Option.some.inj H
          exact xB.ret oX11_order (r1 := some (.int (zI (-1)))) rfl rfl rfl
    · have H := H.2 h2
      refine xB.run oX11_order 1 (s := (13, [some (.ref 0), some (.int (zI set)), some (.int (zI i))], [.int (zI (-2))], [zH s0 zL0 0, r1, r2, zH s3 zL3 0, r4, r5, r6, r7, zH s8 (zLb ks) 0, r9])) rfl ?_
      obtain rfl := Option.some.inj H
      exact xB.ret oX11_order (r1 := some (.int (zI (-2)))) rfl rfl rfl
def d_X11_tell (s0 : zZ) (s3 : zZ) (s8 : zZ) (ks : List Int) (b : Int) : Option (Int × zZ) := (d_X4_barOf s3 b).bind fun y1 => if y1 < 0 then some ((-1), s3) else (if (y1.toNat < ks.length ∧ y1.toNat < 1024) then (if ks.getD y1.toNat 0 = 1 then ((d_X3_telling s3 s8 ks y1).bind fun y7 => some (y7.1, y7.2)) else (if ks.getD y1.toNat 0 = 2 then ((d_X1_telling s3 s8 ks y1).bind fun y9 => some (y9.1, y9.2)) else ((d_X0_telling s3 s8 ks y1).bind fun y11 => some (y11.1, y11.2)))) else none)
set_option maxRecDepth 20000 in
theorem t_X11_tell (s0 : zZ) (r1 : List va_E) (r2 : List va_E) (s3 : zZ) (r4 : List va_E) (r5 : List va_E) (r6 : List va_E) (r7 : List va_E) (s8 : zZ) (r9 : List va_E) (ks : List Int) (b : Int) {rr : Int × zZ} (H : d_X11_tell s0 s3 s8 ks b = some rr) : xC MX11_tell 4 [.ref 0, .int (zI b)] ([zH s0 zL0 0, r1, r2, zH s3 zL3 0, r4, r5, r6, r7, zH s8 (zLb ks) 0, r9]) (some (.int (zI rr.1))) ([zH s0 zL0 0, r1, r2, zH rr.2 zL3 0, r4, r5, r6, r7, zH s8 (zLb ks) 0, r9]) := by
  refine ⟨Nat.le_of_ble_eq_true rfl, ?_⟩
  show xBody MX11_tell 4 0 [some (.ref 0), some (.int (zI b)), none] [] ([zH s0 zL0 0, r1, r2, zH s3 zL3 0, r4, r5, r6, r7, zH s8 (zLb ks) 0, r9]) _ _
  unfold d_X11_tell at H
  refine xB.run oX11_tell 3 (s := (5, [some (.ref 0), some (.int (zI b)), none], [.int (zI b), .ref 3072], [zH s0 zL0 0, r1, r2, zH s3 zL3 0, r4, r5, r6, r7, zH s8 (zLb ks) 0, r9])) rfl ?_
  obtain ⟨y1, e2, H⟩ := zbd H
  refine xB.call oX11_tell (M2 := MX4_barOf) rfl rfl ((t_X4_barOf (zH s0 zL0 0) r1 r2 s3 r4 r5 r6 r7 (zH s8 (zLb ks) 0) r9 b e2).deep (by decide : 0 ≤ 3)) ?_
  show xBody MX11_tell 4 8 [some (.ref 0), some (.int (zI b)), none] [zref y1] ([zH s0 zL0 0, r1, r2, zH s3 zL3 0, r4, r5, r6, r7, zH s8 (zLb ks) 0, r9]) _ _
  have H := zif H
  by_cases h3 : y1 < 0
  · have H := H.1 h3
    rw [zref_neg h3]
    refine xB.run oX11_tell 4 (s := (14, [some (.ref 0), some (.int (zI b)), some (.null)], [.int (zI (-1))], [zH s0 zL0 0, r1, r2, zH s3 zL3 0, r4, r5, r6, r7, zH s8 (zLb ks) 0, r9])) rfl ?_
    obtain rfl := Option.some.inj H
    exact xB.ret oX11_tell (r1 := some (.int (zI (-1)))) rfl rfl rfl
  · have H := H.2 h3
    rw [zref_pos h3]
    refine xB.run oX11_tell 7 (s := (23, [some (.ref 0), some (.int (zI b)), some (.ref (1024 * 8 + y1.toNat))], [.ref 3073, .ref (1024 * 8 + y1.toNat)], [zH s0 zL0 0, r1, r2, zH s3 zL3 0, r4, r5, r6, r7, zH s8 (zLb ks) 0, r9])) rfl ?_
    obtain ⟨g4, H⟩ := zgd H
    have H := zif H
    by_cases h5 : ks.getD y1.toNat 0 = 1
    · have H := H.1 h5
      obtain ⟨y7, e8, H⟩ := zbd H
      refine zB.callv oX11_tell (M2 := MX3_telling) (n := 1) (p := y1.toNat) rfl rfl rfl (by omega) rfl (zLb_at _ g4.1) (by unfold zclass; rw [if_pos h5]; rfl) (Nat.le_of_ble_eq_true rfl) rfl ((t_X3_telling (zH s0 zL0 0) r1 r2 s3 r4 r5 r6 r7 s8 r9 ks y1 e8).deep (by decide : 2 ≤ 3)) ?_
      show xBody MX11_tell 4 26 [some (.ref 0), some (.int (zI b)), some (.ref (1024 * 8 + y1.toNat))] [.int (zI y7.1)] ([zH s0 zL0 0, r1, r2, zH y7.2 zL3 0, r4, r5, r6, r7, zH s8 (zLb ks) 0, r9]) _ _
      obtain rfl := Option.some.inj H
      exact xB.ret oX11_tell (r1 := some (.int (zI y7.1))) rfl rfl rfl
    · have H := zif (H.2 h5)
      by_cases h6 : ks.getD y1.toNat 0 = 2
      · have H := H.1 h6
        obtain ⟨y9, e10, H⟩ := zbd H
        refine zB.callv oX11_tell (M2 := MX1_telling) (n := 1) (p := y1.toNat) rfl rfl rfl (by omega) rfl (zLb_at _ g4.1) (by unfold zclass; rw [if_neg h5, if_pos h6]; rfl) (Nat.le_of_ble_eq_true rfl) rfl ((t_X1_telling (zH s0 zL0 0) r1 r2 s3 r4 r5 r6 r7 s8 r9 ks y1 e10).deep (by decide : 3 ≤ 3)) ?_
        show xBody MX11_tell 4 26 [some (.ref 0), some (.int (zI b)), some (.ref (1024 * 8 + y1.toNat))] [.int (zI y9.1)] ([zH s0 zL0 0, r1, r2, zH y9.2 zL3 0, r4, r5, r6, r7, zH s8 (zLb ks) 0, r9]) _ _
        obtain rfl := Option.some.inj H
        exact xB.ret oX11_tell (r1 := some (.int (zI y9.1))) rfl rfl rfl
      · have H := H.2 h6
        obtain ⟨y11, e12, H⟩ := zbd H
        refine zB.callv oX11_tell (M2 := MX0_telling) (n := 1) (p := y1.toNat) rfl rfl rfl (by omega) rfl (zLb_at _ g4.1) (by unfold zclass; rw [if_neg h5, if_neg h6]; rfl) (Nat.le_of_ble_eq_true rfl) rfl ((t_X0_telling (zH s0 zL0 0) r1 r2 s3 r4 r5 r6 r7 s8 r9 ks y1 e12).deep (by decide : 2 ≤ 3)) ?_
        show xBody MX11_tell 4 26 [some (.ref 0), some (.int (zI b)), some (.ref (1024 * 8 + y1.toNat))] [.int (zI y11.1)] ([zH s0 zL0 0, r1, r2, zH y11.2 zL3 0, r4, r5, r6, r7, zH s8 (zLb ks) 0, r9]) _ _
        obtain rfl := Option.some.inj H
        exact xB.ret oX11_tell (r1 := some (.int (zI y11.1))) rfl rfl rfl
def d_X11_sign (s0 : zZ) (s3 : zZ) (s8 : zZ) (ks : List Int) (b : Int) : Option (Int × zZ) := (d_X4_barOf s3 b).bind fun y1 => if y1 < 0 then some ((-1), s3) else (if (y1.toNat < ks.length ∧ y1.toNat < 1024) then (if ks.getD y1.toNat 0 = 1 then ((d_X0_signing s3 s8 ks y1).bind fun y7 => some (y7.1, y7.2)) else (if ks.getD y1.toNat 0 = 2 then ((d_X1_signing s3 s8 ks y1).bind fun y9 => some (y9.1, y9.2)) else ((d_X0_signing s3 s8 ks y1).bind fun y11 => some (y11.1, y11.2)))) else none)
set_option maxRecDepth 20000 in
theorem t_X11_sign (s0 : zZ) (r1 : List va_E) (r2 : List va_E) (s3 : zZ) (r4 : List va_E) (r5 : List va_E) (r6 : List va_E) (r7 : List va_E) (s8 : zZ) (r9 : List va_E) (ks : List Int) (b : Int) {rr : Int × zZ} (H : d_X11_sign s0 s3 s8 ks b = some rr) : xC MX11_sign 2 [.ref 0, .int (zI b)] ([zH s0 zL0 0, r1, r2, zH s3 zL3 0, r4, r5, r6, r7, zH s8 (zLb ks) 0, r9]) (some (.int (zI rr.1))) ([zH s0 zL0 0, r1, r2, zH rr.2 zL3 0, r4, r5, r6, r7, zH s8 (zLb ks) 0, r9]) := by
  refine ⟨Nat.le_of_ble_eq_true rfl, ?_⟩
  show xBody MX11_sign 2 0 [some (.ref 0), some (.int (zI b)), none] [] ([zH s0 zL0 0, r1, r2, zH s3 zL3 0, r4, r5, r6, r7, zH s8 (zLb ks) 0, r9]) _ _
  unfold d_X11_sign at H
  refine xB.run oX11_sign 3 (s := (5, [some (.ref 0), some (.int (zI b)), none], [.int (zI b), .ref 3072], [zH s0 zL0 0, r1, r2, zH s3 zL3 0, r4, r5, r6, r7, zH s8 (zLb ks) 0, r9])) rfl ?_
  obtain ⟨y1, e2, H⟩ := zbd H
  refine xB.call oX11_sign (M2 := MX4_barOf) rfl rfl ((t_X4_barOf (zH s0 zL0 0) r1 r2 s3 r4 r5 r6 r7 (zH s8 (zLb ks) 0) r9 b e2).deep (by decide : 0 ≤ 1)) ?_
  show xBody MX11_sign 2 8 [some (.ref 0), some (.int (zI b)), none] [zref y1] ([zH s0 zL0 0, r1, r2, zH s3 zL3 0, r4, r5, r6, r7, zH s8 (zLb ks) 0, r9]) _ _
  have H := zif H
  by_cases h3 : y1 < 0
  · have H := H.1 h3
    rw [zref_neg h3]
    refine xB.run oX11_sign 4 (s := (14, [some (.ref 0), some (.int (zI b)), some (.null)], [.int (zI (-1))], [zH s0 zL0 0, r1, r2, zH s3 zL3 0, r4, r5, r6, r7, zH s8 (zLb ks) 0, r9])) rfl ?_
    obtain rfl := Option.some.inj H
    exact xB.ret oX11_sign (r1 := some (.int (zI (-1)))) rfl rfl rfl
  · have H := H.2 h3
    rw [zref_pos h3]
    refine xB.run oX11_sign 7 (s := (23, [some (.ref 0), some (.int (zI b)), some (.ref (1024 * 8 + y1.toNat))], [.ref 3073, .ref (1024 * 8 + y1.toNat)], [zH s0 zL0 0, r1, r2, zH s3 zL3 0, r4, r5, r6, r7, zH s8 (zLb ks) 0, r9])) rfl ?_
    obtain ⟨g4, H⟩ := zgd H
    have H := zif H
    by_cases h5 : ks.getD y1.toNat 0 = 1
    · have H := H.1 h5
      obtain ⟨y7, e8, H⟩ := zbd H
      refine zB.callv oX11_sign (M2 := MX0_signing) (n := 1) (p := y1.toNat) rfl rfl rfl (by omega) rfl (zLb_at _ g4.1) (by unfold zclass; rw [if_pos h5]; rfl) (Nat.le_of_ble_eq_true rfl) rfl ((t_X0_signing (zH s0 zL0 0) r1 r2 s3 r4 r5 r6 r7 s8 r9 ks y1 e8).deep (by decide : 1 ≤ 1)) ?_
      show xBody MX11_sign 2 26 [some (.ref 0), some (.int (zI b)), some (.ref (1024 * 8 + y1.toNat))] [.int (zI y7.1)] ([zH s0 zL0 0, r1, r2, zH y7.2 zL3 0, r4, r5, r6, r7, zH s8 (zLb ks) 0, r9]) _ _
      obtain rfl := Option.some.inj H
      exact xB.ret oX11_sign (r1 := some (.int (zI y7.1))) rfl rfl rfl
    · have H := zif (H.2 h5)
      by_cases h6 : ks.getD y1.toNat 0 = 2
      · have H := H.1 h6
        obtain ⟨y9, e10, H⟩ := zbd H
        refine zB.callv oX11_sign (M2 := MX1_signing) (n := 1) (p := y1.toNat) rfl rfl rfl (by omega) rfl (zLb_at _ g4.1) (by unfold zclass; rw [if_neg h5, if_pos h6]; rfl) (Nat.le_of_ble_eq_true rfl) rfl ((t_X1_signing (zH s0 zL0 0) r1 r2 s3 r4 r5 r6 r7 s8 r9 ks y1 e10).deep (by decide : 1 ≤ 1)) ?_
        show xBody MX11_sign 2 26 [some (.ref 0), some (.int (zI b)), some (.ref (1024 * 8 + y1.toNat))] [.int (zI y9.1)] ([zH s0 zL0 0, r1, r2, zH y9.2 zL3 0, r4, r5, r6, r7, zH s8 (zLb ks) 0, r9]) _ _
        obtain rfl := Option.some.inj H
        exact xB.ret oX11_sign (r1 := some (.int (zI y9.1))) rfl rfl rfl
      · have H := H.2 h6
        obtain ⟨y11, e12, H⟩ := zbd H
        refine zB.callv oX11_sign (M2 := MX0_signing) (n := 1) (p := y1.toNat) rfl rfl rfl (by omega) rfl (zLb_at _ g4.1) (by unfold zclass; rw [if_neg h5, if_neg h6]; rfl) (Nat.le_of_ble_eq_true rfl) rfl ((t_X0_signing (zH s0 zL0 0) r1 r2 s3 r4 r5 r6 r7 s8 r9 ks y1 e12).deep (by decide : 1 ≤ 1)) ?_
        show xBody MX11_sign 2 26 [some (.ref 0), some (.int (zI b)), some (.ref (1024 * 8 + y1.toNat))] [.int (zI y11.1)] ([zH s0 zL0 0, r1, r2, zH y11.2 zL3 0, r4, r5, r6, r7, zH s8 (zLb ks) 0, r9]) _ _
        obtain rfl := Option.some.inj H
        exact xB.ret oX11_sign (r1 := some (.int (zI y11.1))) rfl rfl rfl
def d_X11_as (s0 : zZ) (s3 : zZ) (s8 : zZ) (ks : List Int) (b : Int) (kind : Int) : Option (Int × zZ) := (d_X4_barOf s3 b).bind fun y1 => if y1 < 0 then some ((-1), upz s0 0 6 0) else ((d_X4_isKind kind).bind fun y4 => if (zr y4) then (if y4 ≠ 0 then (if (zr kind) then (if kind ≠ 1 then (if (zr kind) then (if kind ≠ 2 then some (1, upz s0 0 6 0) else (if (y1.toNat < ks.length ∧ y1.toNat < 1024) then (if ks.getD y1.toNat 0 = 1 then ((d_X11_faultAnswer (upz s0 0 6 0) 2).bind fun y12 => some (y12.1, y12.2)) else (if ks.getD y1.toNat 0 = 2 then some (1, upz s0 0 6 0) else ((d_X11_faultAnswer (upz s0 0 6 0) 2).bind fun y14 => some (y14.1, y14.2)))) else none)) else none) else (if (y1.toNat < ks.length ∧ y1.toNat < 1024) then (if ks.getD y1.toNat 0 = 1 then (if (zr kind) then (if kind ≠ 2 then some (1, upz s0 0 6 0) else (if (y1.toNat < ks.length ∧ y1.toNat < 1024) then (if ks.getD y1.toNat 0 = 1 then ((d_X11_faultAnswer (upz s0 0 6 0) 2).bind fun y24 => some (y24.1, y24.2)) else (if ks.getD y1.toNat 0 = 2 then some (1, upz s0 0 6 0) else ((d_X11_faultAnswer (upz s0 0 6 0) 2).bind fun y26 => some (y26.1, y26.2)))) else none)) else none) else (if ks.getD y1.toNat 0 = 2 then (if (zr kind) then (if kind ≠ 2 then some (1, upz s0 0 6 0) else (if (y1.toNat < ks.length ∧ y1.toNat < 1024) then (if ks.getD y1.toNat 0 = 1 then ((d_X11_faultAnswer (upz s0 0 6 0) 2).bind fun y33 => some (y33.1, y33.2)) else (if ks.getD y1.toNat 0 = 2 then some (1, upz s0 0 6 0) else ((d_X11_faultAnswer (upz s0 0 6 0) 2).bind fun y35 => some (y35.1, y35.2)))) else none)) else none) else ((d_X11_faultAnswer (upz s0 0 6 0) 2).bind fun y38 => some (y38.1, y38.2)))) else none)) else none) else some ((-2), upz s0 0 6 0)) else none)
set_option maxRecDepth 20000 in
theorem t_X11_as (s0 : zZ) (r1 : List va_E) (r2 : List va_E) (s3 : zZ) (r4 : List va_E) (r5 : List va_E) (r6 : List va_E) (r7 : List va_E) (s8 : zZ) (r9 : List va_E) (ks : List Int) (b : Int) (kind : Int) {rr : Int × zZ} (H : d_X11_as s0 s3 s8 ks b kind = some rr) : xC MX11_as 1 [.ref 0, .int (zI b), .int (zI kind)] ([zH s0 zL0 0, r1, r2, zH s3 zL3 0, r4, r5, r6, r7, zH s8 (zLb ks) 0, r9]) (some (.int (zI rr.1))) ([zH rr.2 zL0 0, r1, r2, zH s3 zL3 0, r4, r5, r6, r7, zH s8 (zLb ks) 0, r9]) := by
  refine ⟨Nat.le_of_ble_eq_true rfl, ?_⟩
  show xBody MX11_as 1 0 [some (.ref 0), some (.int (zI b)), some (.int (zI kind)), none] [] ([zH s0 zL0 0, r1, r2, zH s3 zL3 0, r4, r5, r6, r7, zH s8 (zLb ks) 0, r9]) _ _
  unfold d_X11_as at H
  refine xB.run oX11_as 2 (s := (2, [some (.ref 0), some (.int (zI b)), some (.int (zI kind)), none], [.int (zI 0), .ref 0], [zH s0 zL0 0, r1, r2, zH s3 zL3 0, r4, r5, r6, r7, zH s8 (zLb ks) 0, r9])) rfl ?_
  refine zB.putI oX11_as (g := 0) (p := 0) (c := 11) (k := 6) (y := 0) (hp1 := [zH (upz s0 0 6 0) zL0 0, r1, r2, zH s3 zL3 0, r4, r5, r6, r7, zH s8 (zLb ks) 0, r9]) rfl rfl (by decide) (by decide) rfl rfl rfl rfl rfl rfl ?_
  refine xB.run oX11_as 3 (s := (10, [some (.ref 0), some (.int (zI b)), some (.int (zI kind)), none], [.int (zI b), .ref 3072], [zH (upz s0 0 6 0) zL0 0, r1, r2, zH s3 zL3 0, r4, r5, r6, r7, zH s8 (zLb ks) 0, r9])) rfl ?_
  obtain ⟨y1, e2, H⟩ := zbd H
  refine xB.call oX11_as (M2 := MX4_barOf) rfl rfl ((t_X4_barOf (zH (upz s0 0 6 0) zL0 0) r1 r2 s3 r4 r5 r6 r7 (zH s8 (zLb ks) 0) r9 b e2).deep (by decide : 0 ≤ 0)) ?_
  show xBody MX11_as 1 13 [some (.ref 0), some (.int (zI b)), some (.int (zI kind)), none] [zref y1] ([zH (upz s0 0 6 0) zL0 0, r1, r2, zH s3 zL3 0, r4, r5, r6, r7, zH s8 (zLb ks) 0, r9]) _ _
  have H := zif H
  by_cases h3 : y1 < 0
  · have H := H.1 h3
    rw [zref_neg h3]
    refine xB.run oX11_as 4 (s := (19, [some (.ref 0), some (.int (zI b)), some (.int (zI kind)), some (.null)], [.int (zI (-1))], [zH (upz s0 0 6 0) zL0 0, r1, r2, zH s3 zL3 0, r4, r5, r6, r7, zH s8 (zLb ks) 0, r9])) rfl ?_
    obtain rfl := Option.some.inj H
    exact xB.ret oX11_as (r1 := some (.int (zI (-1)))) rfl rfl rfl
  · have H := H.2 h3
    rw [zref_pos h3]
    refine xB.run oX11_as 4 (s := (21, [some (.ref 0), some (.int (zI b)), some (.int (zI kind)), some (.ref (1024 * 8 + y1.toNat))], [.int (zI kind)], [zH (upz s0 0 6 0) zL0 0, r1, r2, zH s3 zL3 0, r4, r5, r6, r7, zH s8 (zLb ks) 0, r9])) rfl ?_
    obtain ⟨y4, e5, H⟩ := zbd H
    refine xB.call oX11_as (M2 := MX4_isKind) rfl rfl ((t_X4_isKind (zH (upz s0 0 6 0) zL0 0) r1 r2 (zH s3 zL3 0) r4 r5 r6 r7 (zH s8 (zLb ks) 0) r9 kind e5).deep (by decide : 0 ≤ 0)) ?_
    show xBody MX11_as 1 24 [some (.ref 0), some (.int (zI b)), some (.int (zI kind)), some (.ref (1024 * 8 + y1.toNat))] [.int (zI y4)] ([zH (upz s0 0 6 0) zL0 0, r1, r2, zH s3 zL3 0, r4, r5, r6, r7, zH s8 (zLb ks) 0, r9]) _ _
    obtain ⟨g41, H⟩ := zgd H
    have H := zif H
    refine xB.brE oX11_as (P := y4 ≠ 0) rfl (zc_ne (a := y4) (b := 0) ⟨g41, by decide⟩) (fun h6 => ?_) (fun h6 => ?_)
    · have H := H.1 h6
      refine xB.run oX11_as 2 (s := (32, [some (.ref 0), some (.int (zI b)), some (.int (zI kind)), some (.ref (1024 * 8 + y1.toNat))], [.int (zI 1), .int (zI kind)], [zH (upz s0 0 6 0) zL0 0, r1, r2, zH s3 zL3 0, r4, r5, r6, r7, zH s8 (zLb ks) 0, r9])) rfl ?_
      obtain ⟨g40, H⟩ := zgd H
      have H := zif H
      refine xB.brE oX11_as (P := kind ≠ 1) rfl (zc_ne (a := kind) (b := 1) ⟨g40, by decide⟩) (fun h7 => ?_) (fun h7 => ?_)
      · have H := H.1 h7
        refine xB.run oX11_as 2 (s := (44, [some (.ref 0), some (.int (zI b)), some (.int (zI kind)), some (.ref (1024 * 8 + y1.toNat))], [.int (zI 2), .int (zI kind)], [zH (upz s0 0 6 0) zL0 0, r1, r2, zH s3 zL3 0, r4, r5, r6, r7, zH s8 (zLb ks) 0, r9])) rfl ?_
        obtain ⟨g16, H⟩ := zgd H
        have H := zif H
        refine xB.brE oX11_as (P := kind ≠ 2) rfl (zc_ne (a := kind) (b := 2) ⟨g16, by decide⟩) (fun h8 => ?_) (fun h8 => ?_)
        · have H := H.1 h8
          refine xB.run oX11_as 1 (s := (61, [some (.ref 0), some (.int (zI b)), some (.int (zI kind)), some (.ref (1024 * 8 + y1.toNat))], [.int (zI 1)], [zH (upz s0 0 6 0) zL0 0, r1, r2, zH s3 zL3 0, r4, r5, r6, r7, zH s8 (zLb ks) 0, r9])) rfl ?_
          obtain rfl := Option.some.inj H
          exact xB.ret oX11_as (r1 := some (.int (zI 1))) rfl rfl rfl
        · have H := H.2 h8
          refine xB.run oX11_as 1 (s := (48, [some (.ref 0), some (.int (zI b)), some (.int (zI kind)), some (.ref (1024 * 8 + y1.toNat))], [.ref (1024 * 8 + y1.toNat)], [zH (upz s0 0 6 0) zL0 0, r1, r2, zH s3 zL3 0, r4, r5, r6, r7, zH s8 (zLb ks) 0, r9])) rfl ?_
          obtain ⟨g9, H⟩ := zgd H
          have H := zif H
          by_cases h10 : ks.getD y1.toNat 0 = 1
          · have H := H.1 h10
            refine zB.inst0 oX11_as (g := 8) (p := y1.toNat) rfl rfl (by omega) rfl (zLb_at _ g9.1) (by unfold zclass; rw [if_pos h10]; rfl) ?_
            refine xB.run oX11_as 3 (s := (56, [some (.ref 0), some (.int (zI b)), some (.int (zI kind)), some (.ref (1024 * 8 + y1.toNat))], [.int (zI 2), .ref 0], [zH (upz s0 0 6 0) zL0 0, r1, r2, zH s3 zL3 0, r4, r5, r6, r7, zH s8 (zLb ks) 0, r9])) rfl ?_
            obtain ⟨y12, e13, H⟩ := zbd H
            refine xB.call oX11_as (M2 := MX11_faultAnswer) rfl rfl ((t_X11_faultAnswer (upz s0 0 6 0) r1 r2 (zH s3 zL3 0) r4 r5 r6 r7 (zH s8 (zLb ks) 0) r9 2 e13).deep (by decide : 0 ≤ 0)) ?_
            show xBody MX11_as 1 59 [some (.ref 0), some (.int (zI b)), some (.int (zI kind)), some (.ref (1024 * 8 + y1.toNat))] [.int (zI y12.1)] ([zH y12.2 zL0 0, r1, r2, zH s3 zL3 0, r4, r5, r6, r7, zH s8 (zLb ks) 0, r9]) _ _
            obtain rfl := Option.some.inj H
            exact xB.ret oX11_as (r1 := some (.int (zI y12.1))) rfl rfl rfl
          · have H := zif (H.2 h10)
            by_cases h11 : ks.getD y1.toNat 0 = 2
            · have H := H.1 h11
              refine zB.inst1 oX11_as (g := 8) (p := y1.toNat) rfl rfl (by omega) rfl (zLb_at _ g9.1) (by unfold zclass; rw [if_neg h10, if_pos h11]; rfl) ?_
              refine xB.run oX11_as 2 (s := (61, [some (.ref 0), some (.int (zI b)), some (.int (zI kind)), some (.ref (1024 * 8 + y1.toNat))], [.int (zI 1)], [zH (upz s0 0 6 0) zL0 0, r1, r2, zH s3 zL3 0, r4, r5, r6, r7, zH s8 (zLb ks) 0, r9])) rfl ?_
              obtain rfl := Option.some.inj H
              exact xB.ret oX11_as (r1 := some (.int (zI 1))) rfl rfl rfl
            · have H := H.2 h11
              refine zB.inst0 oX11_as (g := 8) (p := y1.toNat) rfl rfl (by omega) rfl (zLb_at _ g9.1) (by unfold zclass; rw [if_neg h10, if_neg h11]; rfl) ?_
              refine xB.run oX11_as 3 (s := (56, [some (.ref 0), some (.int (zI b)), some (.int (zI kind)), some (.ref (1024 * 8 + y1.toNat))], [.int (zI 2), .ref 0], [zH (upz s0 0 6 0) zL0 0, r1, r2, zH s3 zL3 0, r4, r5, r6, r7, zH s8 (zLb ks) 0, r9])) rfl ?_
              obtain ⟨y14, e15, H⟩ := zbd H
              refine xB.call oX11_as (M2 := MX11_faultAnswer) rfl rfl ((t_X11_faultAnswer (upz s0 0 6 0) r1 r2 (zH s3 zL3 0) r4 r5 r6 r7 (zH s8 (zLb ks) 0) r9 2 e15).deep (by decide : 0 ≤ 0)) ?_
              show xBody MX11_as 1 59 [some (.ref 0), some (.int (zI b)), some (.int (zI kind)), some (.ref (1024 * 8 + y1.toNat))] [.int (zI y14.1)] ([zH y14.2 zL0 0, r1, r2, zH s3 zL3 0, r4, r5, r6, r7, zH s8 (zLb ks) 0, r9]) _ _
              obtain rfl := Option.some.inj H
              exact xB.ret oX11_as (r1 := some (.int (zI y14.1))) rfl rfl rfl
      · have H := H.2 h7
        refine xB.run oX11_as 1 (s := (36, [some (.ref 0), some (.int (zI b)), some (.int (zI kind)), some (.ref (1024 * 8 + y1.toNat))], [.ref (1024 * 8 + y1.toNat)], [zH (upz s0 0 6 0) zL0 0, r1, r2, zH s3 zL3 0, r4, r5, r6, r7, zH s8 (zLb ks) 0, r9])) rfl ?_
        obtain ⟨g17, H⟩ := zgd H
        have H := zif H
        by_cases h18 : ks.getD y1.toNat 0 = 1
        · have H := H.1 h18
          refine zB.inst1 oX11_as (g := 8) (p := y1.toNat) rfl rfl (by omega) rfl (zLb_at _ g17.1) (by unfold zclass; rw [if_pos h18]; rfl) ?_
          refine xB.run oX11_as 3 (s := (44, [some (.ref 0), some (.int (zI b)), some (.int (zI kind)), some (.ref (1024 * 8 + y1.toNat))], [.int (zI 2), .int (zI kind)], [zH (upz s0 0 6 0) zL0 0, r1, r2, zH s3 zL3 0, r4, r5, r6, r7, zH s8 (zLb ks) 0, r9])) rfl ?_
          obtain ⟨g28, H⟩ := zgd H
          have H := zif H
          refine xB.brE oX11_as (P := kind ≠ 2) rfl (zc_ne (a := kind) (b := 2) ⟨g28, by decide⟩) (fun h20 => ?_) (fun h20 => ?_)
          · have H := H.1 h20
            refine xB.run oX11_as 1 (s := (61, [some (.ref 0), some (.int (zI b)), some (.int (zI kind)), some (.ref (1024 * 8 + y1.toNat))], [.int (zI 1)], [zH (upz s0 0 6 0) zL0 0, r1, r2, zH s3 zL3 0, r4, r5, r6, r7, zH s8 (zLb ks) 0, r9])) rfl ?_
            obtain rfl := Option.some.inj H
            exact xB.ret oX11_as (r1 := some (.int (zI 1))) rfl rfl rfl
          · have H := H.2 h20
            refine xB.run oX11_as 1 (s := (48, [some (.ref 0), some (.int (zI b)), some (.int (zI kind)), some (.ref (1024 * 8 + y1.toNat))], [.ref (1024 * 8 + y1.toNat)], [zH (upz s0 0 6 0) zL0 0, r1, r2, zH s3 zL3 0, r4, r5, r6, r7, zH s8 (zLb ks) 0, r9])) rfl ?_
            obtain ⟨g21, H⟩ := zgd H
            have H := zif H
            by_cases h22 : ks.getD y1.toNat 0 = 1
            · have H := H.1 h22
              refine zB.inst0 oX11_as (g := 8) (p := y1.toNat) rfl rfl (by omega) rfl (zLb_at _ g21.1) (by unfold zclass; rw [if_pos h22]; rfl) ?_
              refine xB.run oX11_as 3 (s := (56, [some (.ref 0), some (.int (zI b)), some (.int (zI kind)), some (.ref (1024 * 8 + y1.toNat))], [.int (zI 2), .ref 0], [zH (upz s0 0 6 0) zL0 0, r1, r2, zH s3 zL3 0, r4, r5, r6, r7, zH s8 (zLb ks) 0, r9])) rfl ?_
              obtain ⟨y24, e25, H⟩ := zbd H
              refine xB.call oX11_as (M2 := MX11_faultAnswer) rfl rfl ((t_X11_faultAnswer (upz s0 0 6 0) r1 r2 (zH s3 zL3 0) r4 r5 r6 r7 (zH s8 (zLb ks) 0) r9 2 e25).deep (by decide : 0 ≤ 0)) ?_
              show xBody MX11_as 1 59 [some (.ref 0), some (.int (zI b)), some (.int (zI kind)), some (.ref (1024 * 8 + y1.toNat))] [.int (zI y24.1)] ([zH y24.2 zL0 0, r1, r2, zH s3 zL3 0, r4, r5, r6, r7, zH s8 (zLb ks) 0, r9]) _ _
              obtain rfl := Option.some.inj H
              exact xB.ret oX11_as (r1 := some (.int (zI y24.1))) rfl rfl rfl
            · have H := zif (H.2 h22)
              by_cases h23 : ks.getD y1.toNat 0 = 2
              · have H := H.1 h23
                refine zB.inst1 oX11_as (g := 8) (p := y1.toNat) rfl rfl (by omega) rfl (zLb_at _ g21.1) (by unfold zclass; rw [if_neg h22, if_pos h23]; rfl) ?_
                refine xB.run oX11_as 2 (s := (61, [some (.ref 0), some (.int (zI b)), some (.int (zI kind)), some (.ref (1024 * 8 + y1.toNat))], [.int (zI 1)], [zH (upz s0 0 6 0) zL0 0, r1, r2, zH s3 zL3 0, r4, r5, r6, r7, zH s8 (zLb ks) 0, r9])) rfl ?_
                obtain rfl := Option.some.inj H
                exact xB.ret oX11_as (r1 := some (.int (zI 1))) rfl rfl rfl
              · have H := H.2 h23
                refine zB.inst0 oX11_as (g := 8) (p := y1.toNat) rfl rfl (by omega) rfl (zLb_at _ g21.1) (by unfold zclass; rw [if_neg h22, if_neg h23]; rfl) ?_
                refine xB.run oX11_as 3 (s := (56, [some (.ref 0), some (.int (zI b)), some (.int (zI kind)), some (.ref (1024 * 8 + y1.toNat))], [.int (zI 2), .ref 0], [zH (upz s0 0 6 0) zL0 0, r1, r2, zH s3 zL3 0, r4, r5, r6, r7, zH s8 (zLb ks) 0, r9])) rfl ?_
                obtain ⟨y26, e27, H⟩ := zbd H
                refine xB.call oX11_as (M2 := MX11_faultAnswer) rfl rfl ((t_X11_faultAnswer (upz s0 0 6 0) r1 r2 (zH s3 zL3 0) r4 r5 r6 r7 (zH s8 (zLb ks) 0) r9 2 e27).deep (by decide : 0 ≤ 0)) ?_
                show xBody MX11_as 1 59 [some (.ref 0), some (.int (zI b)), some (.int (zI kind)), some (.ref (1024 * 8 + y1.toNat))] [.int (zI y26.1)] ([zH y26.2 zL0 0, r1, r2, zH s3 zL3 0, r4, r5, r6, r7, zH s8 (zLb ks) 0, r9]) _ _
                obtain rfl := Option.some.inj H
                exact xB.ret oX11_as (r1 := some (.int (zI y26.1))) rfl rfl rfl
        · have H := zif (H.2 h18)
          by_cases h19 : ks.getD y1.toNat 0 = 2
          · have H := H.1 h19
            refine zB.inst1 oX11_as (g := 8) (p := y1.toNat) rfl rfl (by omega) rfl (zLb_at _ g17.1) (by unfold zclass; rw [if_neg h18, if_pos h19]; rfl) ?_
            refine xB.run oX11_as 3 (s := (44, [some (.ref 0), some (.int (zI b)), some (.int (zI kind)), some (.ref (1024 * 8 + y1.toNat))], [.int (zI 2), .int (zI kind)], [zH (upz s0 0 6 0) zL0 0, r1, r2, zH s3 zL3 0, r4, r5, r6, r7, zH s8 (zLb ks) 0, r9])) rfl ?_
            obtain ⟨g37, H⟩ := zgd H
            have H := zif H
            refine xB.brE oX11_as (P := kind ≠ 2) rfl (zc_ne (a := kind) (b := 2) ⟨g37, by decide⟩) (fun h29 => ?_) (fun h29 => ?_)
            · have H := H.1 h29
              refine xB.run oX11_as 1 (s := (61, [some (.ref 0), some (.int (zI b)), some (.int (zI kind)), some (.ref (1024 * 8 + y1.toNat))], [.int (zI 1)], [zH (upz s0 0 6 0) zL0 0, r1, r2, zH s3 zL3 0, r4, r5, r6, r7, zH s8 (zLb ks) 0, r9])) rfl ?_
              obtain rfl := Option.some.inj H
              exact xB.ret oX11_as (r1 := some (.int (zI 1))) rfl rfl rfl
            · have H := H.2 h29
              refine xB.run oX11_as 1 (s := (48, [some (.ref 0), some (.int (zI b)), some (.int (zI kind)), some (.ref (1024 * 8 + y1.toNat))], [.ref (1024 * 8 + y1.toNat)], [zH (upz s0 0 6 0) zL0 0, r1, r2, zH s3 zL3 0, r4, r5, r6, r7, zH s8 (zLb ks) 0, r9])) rfl ?_
              obtain ⟨g30, H⟩ := zgd H
              have H := zif H
              by_cases h31 : ks.getD y1.toNat 0 = 1
              · have H := H.1 h31
                refine zB.inst0 oX11_as (g := 8) (p := y1.toNat) rfl rfl (by omega) rfl (zLb_at _ g30.1) (by unfold zclass; rw [if_pos h31]; rfl) ?_
                refine xB.run oX11_as 3 (s := (56, [some (.ref 0), some (.int (zI b)), some (.int (zI kind)), some (.ref (1024 * 8 + y1.toNat))], [.int (zI 2), .ref 0], [zH (upz s0 0 6 0) zL0 0, r1, r2, zH s3 zL3 0, r4, r5, r6, r7, zH s8 (zLb ks) 0, r9])) rfl ?_
                obtain ⟨y33, e34, H⟩ := zbd H
                refine xB.call oX11_as (M2 := MX11_faultAnswer) rfl rfl ((t_X11_faultAnswer (upz s0 0 6 0) r1 r2 (zH s3 zL3 0) r4 r5 r6 r7 (zH s8 (zLb ks) 0) r9 2 e34).deep (by decide : 0 ≤ 0)) ?_
                show xBody MX11_as 1 59 [some (.ref 0), some (.int (zI b)), some (.int (zI kind)), some (.ref (1024 * 8 + y1.toNat))] [.int (zI y33.1)] ([zH y33.2 zL0 0, r1, r2, zH s3 zL3 0, r4, r5, r6, r7, zH s8 (zLb ks) 0, r9]) _ _
                obtain rfl := Option.some.inj H
                exact xB.ret oX11_as (r1 := some (.int (zI y33.1))) rfl rfl rfl
              · have H := zif (H.2 h31)
                by_cases h32 : ks.getD y1.toNat 0 = 2
                · have H := H.1 h32
                  refine zB.inst1 oX11_as (g := 8) (p := y1.toNat) rfl rfl (by omega) rfl (zLb_at _ g30.1) (by unfold zclass; rw [if_neg h31, if_pos h32]; rfl) ?_
                  refine xB.run oX11_as 2 (s := (61, [some (.ref 0), some (.int (zI b)), some (.int (zI kind)), some (.ref (1024 * 8 + y1.toNat))], [.int (zI 1)], [zH (upz s0 0 6 0) zL0 0, r1, r2, zH s3 zL3 0, r4, r5, r6, r7, zH s8 (zLb ks) 0, r9])) rfl ?_
                  obtain rfl := Option.some.inj H
                  exact xB.ret oX11_as (r1 := some (.int (zI 1))) rfl rfl rfl
                · have H := H.2 h32
                  refine zB.inst0 oX11_as (g := 8) (p := y1.toNat) rfl rfl (by omega) rfl (zLb_at _ g30.1) (by unfold zclass; rw [if_neg h31, if_neg h32]; rfl) ?_
                  refine xB.run oX11_as 3 (s := (56, [some (.ref 0), some (.int (zI b)), some (.int (zI kind)), some (.ref (1024 * 8 + y1.toNat))], [.int (zI 2), .ref 0], [zH (upz s0 0 6 0) zL0 0, r1, r2, zH s3 zL3 0, r4, r5, r6, r7, zH s8 (zLb ks) 0, r9])) rfl ?_
                  obtain ⟨y35, e36, H⟩ := zbd H
                  refine xB.call oX11_as (M2 := MX11_faultAnswer) rfl rfl ((t_X11_faultAnswer (upz s0 0 6 0) r1 r2 (zH s3 zL3 0) r4 r5 r6 r7 (zH s8 (zLb ks) 0) r9 2 e36).deep (by decide : 0 ≤ 0)) ?_
                  show xBody MX11_as 1 59 [some (.ref 0), some (.int (zI b)), some (.int (zI kind)), some (.ref (1024 * 8 + y1.toNat))] [.int (zI y35.1)] ([zH y35.2 zL0 0, r1, r2, zH s3 zL3 0, r4, r5, r6, r7, zH s8 (zLb ks) 0, r9]) _ _
                  obtain rfl := Option.some.inj H
                  exact xB.ret oX11_as (r1 := some (.int (zI y35.1))) rfl rfl rfl
          · have H := H.2 h19
            refine zB.inst0 oX11_as (g := 8) (p := y1.toNat) rfl rfl (by omega) rfl (zLb_at _ g17.1) (by unfold zclass; rw [if_neg h18, if_neg h19]; rfl) ?_
            refine xB.run oX11_as 3 (s := (56, [some (.ref 0), some (.int (zI b)), some (.int (zI kind)), some (.ref (1024 * 8 + y1.toNat))], [.int (zI 2), .ref 0], [zH (upz s0 0 6 0) zL0 0, r1, r2, zH s3 zL3 0, r4, r5, r6, r7, zH s8 (zLb ks) 0, r9])) rfl ?_
            obtain ⟨y38, e39, H⟩ := zbd H
            refine xB.call oX11_as (M2 := MX11_faultAnswer) rfl rfl ((t_X11_faultAnswer (upz s0 0 6 0) r1 r2 (zH s3 zL3 0) r4 r5 r6 r7 (zH s8 (zLb ks) 0) r9 2 e39).deep (by decide : 0 ≤ 0)) ?_
            show xBody MX11_as 1 59 [some (.ref 0), some (.int (zI b)), some (.int (zI kind)), some (.ref (1024 * 8 + y1.toNat))] [.int (zI y38.1)] ([zH y38.2 zL0 0, r1, r2, zH s3 zL3 0, r4, r5, r6, r7, zH s8 (zLb ks) 0, r9]) _ _
            obtain rfl := Option.some.inj H
            exact xB.ret oX11_as (r1 := some (.int (zI y38.1))) rfl rfl rfl
    · have H := H.2 h6
      refine xB.run oX11_as 1 (s := (29, [some (.ref 0), some (.int (zI b)), some (.int (zI kind)), some (.ref (1024 * 8 + y1.toNat))], [.int (zI (-2))], [zH (upz s0 0 6 0) zL0 0, r1, r2, zH s3 zL3 0, r4, r5, r6, r7, zH s8 (zLb ks) 0, r9])) rfl ?_
      obtain rfl := Option.some.inj H
      exact xB.ret oX11_as (r1 := some (.int (zI (-2)))) rfl rfl rfl
def d_X11_trace (s0 : zZ) (s3 : zZ) : Option (Int) := some (s3 1 0)
set_option maxRecDepth 20000 in
theorem t_X11_trace (s0 : zZ) (r1 : List va_E) (r2 : List va_E) (s3 : zZ) (r4 : List va_E) (r5 : List va_E) (r6 : List va_E) (r7 : List va_E) (r8 : List va_E) (r9 : List va_E) {rr : Int} (H : d_X11_trace s0 s3 = some rr) : xC MX11_trace 0 [.ref 0] ([zH s0 zL0 0, r1, r2, zH s3 zL3 0, r4, r5, r6, r7, r8, r9]) (some (.int (zI rr))) ([zH s0 zL0 0, r1, r2, zH s3 zL3 0, r4, r5, r6, r7, r8, r9]) := by
  refine ⟨Nat.le_of_ble_eq_true rfl, ?_⟩
  show xBody MX11_trace 0 0 [some (.ref 0)] [] ([zH s0 zL0 0, r1, r2, zH s3 zL3 0, r4, r5, r6, r7, r8, r9]) _ _
  unfold d_X11_trace at H
  refine xB.run oX11_trace 4 (s := (10, [some (.ref 0)], [.int (zI (s3 1 0))], [zH s0 zL0 0, r1, r2, zH s3 zL3 0, r4, r5, r6, r7, r8, r9])) rfl ?_
  obtain rfl := Option.some.inj H
  exact xB.ret oX11_trace (r1 := some (.int (zI (s3 1 0)))) rfl rfl rfl
def d_X11_many (s0 : zZ) (s1 : zZ) (s2 : zZ) (s3 : zZ) (s5 : zZ) (s8 : zZ) (ks : List Int) (wh : Int) : Option (Int) := if zr wh then (if wh = 0 then ((d_X2_howMany s1).bind fun y3 => some y3) else (if wh = 1 then ((d_X5_howManyLinks s2).bind fun y6 => some y6) else (if wh = 2 then ((d_X4_howManyJoints s3).bind fun y9 => some y9) else (if wh = 3 then ((d_X4_howManyFree s3).bind fun y12 => some y12) else (if wh = 4 then ((d_X4_howManyBars s3).bind fun y15 => some y15) else (if wh = 5 then ((d_X4_howManyCut s3 s8 ks).bind fun y18 => some y18) else (if wh = 6 then ((d_X7_howMany s5).bind fun y21 => some y21) else some (-2)))))))) else none
set_option maxRecDepth 20000 in
theorem t_X11_many (s0 : zZ) (s1 : zZ) (s2 : zZ) (s3 : zZ) (r4 : List va_E) (s5 : zZ) (r6 : List va_E) (r7 : List va_E) (s8 : zZ) (r9 : List va_E) (ks : List Int) (wh : Int) {rr : Int} (H : d_X11_many s0 s1 s2 s3 s5 s8 ks wh = some rr) : xC MX11_many 1 [.ref 0, .int (zI wh)] ([zH s0 zL0 0, zH s1 zL1 0, zH s2 zL2 0, zH s3 zL3 0, r4, zH s5 zL5 0, r6, r7, zH s8 (zLb ks) 0, r9]) (some (.int (zI rr))) ([zH s0 zL0 0, zH s1 zL1 0, zH s2 zL2 0, zH s3 zL3 0, r4, zH s5 zL5 0, r6, r7, zH s8 (zLb ks) 0, r9]) := by
  refine ⟨Nat.le_of_ble_eq_true rfl, ?_⟩
  show xBody MX11_many 1 0 [some (.ref 0), some (.int (zI wh))] [] ([zH s0 zL0 0, zH s1 zL1 0, zH s2 zL2 0, zH s3 zL3 0, r4, zH s5 zL5 0, r6, r7, zH s8 (zLb ks) 0, r9]) _ _
  unfold d_X11_many at H
  refine xB.run oX11_many 1 (s := (1, [some (.ref 0), some (.int (zI wh))], [.int (zI wh)], [zH s0 zL0 0, zH s1 zL1 0, zH s2 zL2 0, zH s3 zL3 0, r4, zH s5 zL5 0, r6, r7, zH s8 (zLb ks) 0, r9])) rfl ?_
  obtain ⟨g1, H⟩ := zgd H
  have H := zif H
  by_cases h2 : wh = 0
  · have H := H.1 h2
    refine xB.next oX11_many (s := (44, [some (.ref 0), some (.int (zI wh))], [], [zH s0 zL0 0, zH s1 zL1 0, zH s2 zL2 0, zH s3 zL3 0, r4, zH s5 zL5 0, r6, r7, zH s8 (zLb ks) 0, r9])) (xsw_at rfl (by rw [zsw g1 0 _ (by decide), if_pos (show wh = ((0 : Nat) : Int) from h2)])) ?_
    refine xB.run oX11_many 2 (s := (48, [some (.ref 0), some (.int (zI wh))], [.ref 1024], [zH s0 zL0 0, zH s1 zL1 0, zH s2 zL2 0, zH s3 zL3 0, r4, zH s5 zL5 0, r6, r7, zH s8 (zLb ks) 0, r9])) rfl ?_
    obtain ⟨y3, e4, H⟩ := zbd H
    refine xB.call oX11_many (M2 := MX2_howMany) rfl rfl ((t_X2_howMany (zH s0 zL0 0) s1 (zH s2 zL2 0) (zH s3 zL3 0) r4 (zH s5 zL5 0) r6 r7 (zH s8 (zLb ks) 0) r9  e4).deep (by decide : 0 ≤ 0)) ?_
    show xBody MX11_many 1 51 [some (.ref 0), some (.int (zI wh))] [.int (zI y3)] ([zH s0 zL0 0, zH s1 zL1 0, zH s2 zL2 0, zH s3 zL3 0, r4, zH s5 zL5 0, r6, r7, zH s8 (zLb ks) 0, r9]) _ _
    obtain rfl := Option.some.inj H
    exact xB.ret oX11_many (r1 := some (.int (zI y3))) rfl rfl rfl
  · have H := H.2 h2
    have H := zif H
    by_cases h5 : wh = 1
    · have H := H.1 h5
      refine xB.next oX11_many (s := (52, [some (.ref 0), some (.int (zI wh))], [], [zH s0 zL0 0, zH s1 zL1 0, zH s2 zL2 0, zH s3 zL3 0, r4, zH s5 zL5 0, r6, r7, zH s8 (zLb ks) 0, r9])) (xsw_at rfl (by rw [zsw g1 0 _ (by decide), if_neg (show ¬ wh = ((0 : Nat) : Int) from h2)]; rw [zsw g1 1 _ (by decide), if_pos (show wh = ((1 : Nat) : Int) from h5)])) ?_
      refine xB.run oX11_many 2 (s := (56, [some (.ref 0), some (.int (zI wh))], [.ref 2048], [zH s0 zL0 0, zH s1 zL1 0, zH s2 zL2 0, zH s3 zL3 0, r4, zH s5 zL5 0, r6, r7, zH s8 (zLb ks) 0, r9])) rfl ?_
      obtain ⟨y6, e7, H⟩ := zbd H
      refine xB.call oX11_many (M2 := MX5_howManyLinks) rfl rfl ((t_X5_howManyLinks (zH s0 zL0 0) (zH s1 zL1 0) s2 (zH s3 zL3 0) r4 (zH s5 zL5 0) r6 r7 (zH s8 (zLb ks) 0) r9  e7).deep (by decide : 0 ≤ 0)) ?_
      show xBody MX11_many 1 59 [some (.ref 0), some (.int (zI wh))] [.int (zI y6)] ([zH s0 zL0 0, zH s1 zL1 0, zH s2 zL2 0, zH s3 zL3 0, r4, zH s5 zL5 0, r6, r7, zH s8 (zLb ks) 0, r9]) _ _
      obtain rfl := Option.some.inj H
      exact xB.ret oX11_many (r1 := some (.int (zI y6))) rfl rfl rfl
    · have H := H.2 h5
      have H := zif H
      by_cases h8 : wh = 2
      · have H := H.1 h8
        refine xB.next oX11_many (s := (60, [some (.ref 0), some (.int (zI wh))], [], [zH s0 zL0 0, zH s1 zL1 0, zH s2 zL2 0, zH s3 zL3 0, r4, zH s5 zL5 0, r6, r7, zH s8 (zLb ks) 0, r9])) (xsw_at rfl (by rw [zsw g1 0 _ (by decide), if_neg (show ¬ wh = ((0 : Nat) : Int) from h2)]; rw [zsw g1 1 _ (by decide), if_neg (show ¬ wh = ((1 : Nat) : Int) from h5)]; rw [zsw g1 2 _ (by decide), if_pos (show wh = ((2 : Nat) : Int) from h8)])) ?_
        refine xB.run oX11_many 2 (s := (64, [some (.ref 0), some (.int (zI wh))], [.ref 3072], [zH s0 zL0 0, zH s1 zL1 0, zH s2 zL2 0, zH s3 zL3 0, r4, zH s5 zL5 0, r6, r7, zH s8 (zLb ks) 0, r9])) rfl ?_
        obtain ⟨y9, e10, H⟩ := zbd H
        refine xB.call oX11_many (M2 := MX4_howManyJoints) rfl rfl ((t_X4_howManyJoints (zH s0 zL0 0) (zH s1 zL1 0) (zH s2 zL2 0) s3 r4 (zH s5 zL5 0) r6 r7 (zH s8 (zLb ks) 0) r9  e10).deep (by decide : 0 ≤ 0)) ?_
        show xBody MX11_many 1 67 [some (.ref 0), some (.int (zI wh))] [.int (zI y9)] ([zH s0 zL0 0, zH s1 zL1 0, zH s2 zL2 0, zH s3 zL3 0, r4, zH s5 zL5 0, r6, r7, zH s8 (zLb ks) 0, r9]) _ _
        obtain rfl := Option.some.inj H
        exact xB.ret oX11_many (r1 := some (.int (zI y9))) rfl rfl rfl
      · have H := H.2 h8
        have H := zif H
        by_cases h11 : wh = 3
        · have H := H.1 h11
          refine xB.next oX11_many (s := (68, [some (.ref 0), some (.int (zI wh))], [], [zH s0 zL0 0, zH s1 zL1 0, zH s2 zL2 0, zH s3 zL3 0, r4, zH s5 zL5 0, r6, r7, zH s8 (zLb ks) 0, r9])) (xsw_at rfl (by rw [zsw g1 0 _ (by decide), if_neg (show ¬ wh = ((0 : Nat) : Int) from h2)]; rw [zsw g1 1 _ (by decide), if_neg (show ¬ wh = ((1 : Nat) : Int) from h5)]; rw [zsw g1 2 _ (by decide), if_neg (show ¬ wh = ((2 : Nat) : Int) from h8)]; rw [zsw g1 3 _ (by decide), if_pos (show wh = ((3 : Nat) : Int) from h11)])) ?_
          refine xB.run oX11_many 2 (s := (72, [some (.ref 0), some (.int (zI wh))], [.ref 3072], [zH s0 zL0 0, zH s1 zL1 0, zH s2 zL2 0, zH s3 zL3 0, r4, zH s5 zL5 0, r6, r7, zH s8 (zLb ks) 0, r9])) rfl ?_
          obtain ⟨y12, e13, H⟩ := zbd H
          refine xB.call oX11_many (M2 := MX4_howManyFree) rfl rfl ((t_X4_howManyFree (zH s0 zL0 0) (zH s1 zL1 0) (zH s2 zL2 0) s3 r4 (zH s5 zL5 0) r6 r7 (zH s8 (zLb ks) 0) r9  e13).deep (by decide : 0 ≤ 0)) ?_
          show xBody MX11_many 1 75 [some (.ref 0), some (.int (zI wh))] [.int (zI y12)] ([zH s0 zL0 0, zH s1 zL1 0, zH s2 zL2 0, zH s3 zL3 0, r4, zH s5 zL5 0, r6, r7, zH s8 (zLb ks) 0, r9]) _ _
          obtain rfl := Option.some.inj H
          exact xB.ret oX11_many (r1 := some (.int (zI y12))) rfl rfl rfl
        · have H := H.2 h11
          have H := zif H
          by_cases h14 : wh = 4
          · have H := H.1 h14
            refine xB.next oX11_many (s := (76, [some (.ref 0), some (.int (zI wh))], [], [zH s0 zL0 0, zH s1 zL1 0, zH s2 zL2 0, zH s3 zL3 0, r4, zH s5 zL5 0, r6, r7, zH s8 (zLb ks) 0, r9])) (xsw_at rfl (by rw [zsw g1 0 _ (by decide), if_neg (show ¬ wh = ((0 : Nat) : Int) from h2)]; rw [zsw g1 1 _ (by decide), if_neg (show ¬ wh = ((1 : Nat) : Int) from h5)]; rw [zsw g1 2 _ (by decide), if_neg (show ¬ wh = ((2 : Nat) : Int) from h8)]; rw [zsw g1 3 _ (by decide), if_neg (show ¬ wh = ((3 : Nat) : Int) from h11)]; rw [zsw g1 4 _ (by decide), if_pos (show wh = ((4 : Nat) : Int) from h14)])) ?_
            refine xB.run oX11_many 2 (s := (80, [some (.ref 0), some (.int (zI wh))], [.ref 3072], [zH s0 zL0 0, zH s1 zL1 0, zH s2 zL2 0, zH s3 zL3 0, r4, zH s5 zL5 0, r6, r7, zH s8 (zLb ks) 0, r9])) rfl ?_
            obtain ⟨y15, e16, H⟩ := zbd H
            refine xB.call oX11_many (M2 := MX4_howManyBars) rfl rfl ((t_X4_howManyBars (zH s0 zL0 0) (zH s1 zL1 0) (zH s2 zL2 0) s3 r4 (zH s5 zL5 0) r6 r7 (zH s8 (zLb ks) 0) r9  e16).deep (by decide : 0 ≤ 0)) ?_
            show xBody MX11_many 1 83 [some (.ref 0), some (.int (zI wh))] [.int (zI y15)] ([zH s0 zL0 0, zH s1 zL1 0, zH s2 zL2 0, zH s3 zL3 0, r4, zH s5 zL5 0, r6, r7, zH s8 (zLb ks) 0, r9]) _ _
            obtain rfl := Option.some.inj H
            exact xB.ret oX11_many (r1 := some (.int (zI y15))) rfl rfl rfl
          · have H := H.2 h14
            have H := zif H
            by_cases h17 : wh = 5
            · have H := H.1 h17
              refine xB.next oX11_many (s := (84, [some (.ref 0), some (.int (zI wh))], [], [zH s0 zL0 0, zH s1 zL1 0, zH s2 zL2 0, zH s3 zL3 0, r4, zH s5 zL5 0, r6, r7, zH s8 (zLb ks) 0, r9])) (xsw_at rfl (by rw [zsw g1 0 _ (by decide), if_neg (show ¬ wh = ((0 : Nat) : Int) from h2)]; rw [zsw g1 1 _ (by decide), if_neg (show ¬ wh = ((1 : Nat) : Int) from h5)]; rw [zsw g1 2 _ (by decide), if_neg (show ¬ wh = ((2 : Nat) : Int) from h8)]; rw [zsw g1 3 _ (by decide), if_neg (show ¬ wh = ((3 : Nat) : Int) from h11)]; rw [zsw g1 4 _ (by decide), if_neg (show ¬ wh = ((4 : Nat) : Int) from h14)]; rw [zsw g1 5 _ (by decide), if_pos (show wh = ((5 : Nat) : Int) from h17)])) ?_
              refine xB.run oX11_many 2 (s := (88, [some (.ref 0), some (.int (zI wh))], [.ref 3072], [zH s0 zL0 0, zH s1 zL1 0, zH s2 zL2 0, zH s3 zL3 0, r4, zH s5 zL5 0, r6, r7, zH s8 (zLb ks) 0, r9])) rfl ?_
              obtain ⟨y18, e19, H⟩ := zbd H
              refine xB.call oX11_many (M2 := MX4_howManyCut) rfl rfl ((t_X4_howManyCut (zH s0 zL0 0) (zH s1 zL1 0) (zH s2 zL2 0) s3 r4 (zH s5 zL5 0) r6 r7 s8 r9 ks  e19).deep (by decide : 0 ≤ 0)) ?_
              show xBody MX11_many 1 91 [some (.ref 0), some (.int (zI wh))] [.int (zI y18)] ([zH s0 zL0 0, zH s1 zL1 0, zH s2 zL2 0, zH s3 zL3 0, r4, zH s5 zL5 0, r6, r7, zH s8 (zLb ks) 0, r9]) _ _
              obtain rfl := Option.some.inj H
              exact xB.ret oX11_many (r1 := some (.int (zI y18))) rfl rfl rfl
            · have H := H.2 h17
              have H := zif H
              by_cases h20 : wh = 6
              · have H := H.1 h20
                refine xB.next oX11_many (s := (92, [some (.ref 0), some (.int (zI wh))], [], [zH s0 zL0 0, zH s1 zL1 0, zH s2 zL2 0, zH s3 zL3 0, r4, zH s5 zL5 0, r6, r7, zH s8 (zLb ks) 0, r9])) (xsw_at rfl (by rw [zsw g1 0 _ (by decide), if_neg (show ¬ wh = ((0 : Nat) : Int) from h2)]; rw [zsw g1 1 _ (by decide), if_neg (show ¬ wh = ((1 : Nat) : Int) from h5)]; rw [zsw g1 2 _ (by decide), if_neg (show ¬ wh = ((2 : Nat) : Int) from h8)]; rw [zsw g1 3 _ (by decide), if_neg (show ¬ wh = ((3 : Nat) : Int) from h11)]; rw [zsw g1 4 _ (by decide), if_neg (show ¬ wh = ((4 : Nat) : Int) from h14)]; rw [zsw g1 5 _ (by decide), if_neg (show ¬ wh = ((5 : Nat) : Int) from h17)]; rw [zsw g1 6 _ (by decide), if_pos (show wh = ((6 : Nat) : Int) from h20)])) ?_
                refine xB.run oX11_many 2 (s := (96, [some (.ref 0), some (.int (zI wh))], [.ref 5120], [zH s0 zL0 0, zH s1 zL1 0, zH s2 zL2 0, zH s3 zL3 0, r4, zH s5 zL5 0, r6, r7, zH s8 (zLb ks) 0, r9])) rfl ?_
                obtain ⟨y21, e22, H⟩ := zbd H
                refine xB.call oX11_many (M2 := MX7_howMany) rfl rfl ((t_X7_howMany (zH s0 zL0 0) (zH s1 zL1 0) (zH s2 zL2 0) (zH s3 zL3 0) r4 s5 r6 r7 (zH s8 (zLb ks) 0) r9  e22).deep (by decide : 0 ≤ 0)) ?_
                show xBody MX11_many 1 99 [some (.ref 0), some (.int (zI wh))] [.int (zI y21)] ([zH s0 zL0 0, zH s1 zL1 0, zH s2 zL2 0, zH s3 zL3 0, r4, zH s5 zL5 0, r6, r7, zH s8 (zLb ks) 0, r9]) _ _
                obtain rfl := Option.some.inj H
                exact xB.ret oX11_many (r1 := some (.int (zI y21))) rfl rfl rfl
              · have H := H.2 h20
                refine xB.next oX11_many (s := (100, [some (.ref 0), some (.int (zI wh))], [], [zH s0 zL0 0, zH s1 zL1 0, zH s2 zL2 0, zH s3 zL3 0, r4, zH s5 zL5 0, r6, r7, zH s8 (zLb ks) 0, r9])) (xsw_at rfl (by rw [zsw g1 0 _ (by decide), if_neg (show ¬ wh = ((0 : Nat) : Int) from h2)]; rw [zsw g1 1 _ (by decide), if_neg (show ¬ wh = ((1 : Nat) : Int) from h5)]; rw [zsw g1 2 _ (by decide), if_neg (show ¬ wh = ((2 : Nat) : Int) from h8)]; rw [zsw g1 3 _ (by decide), if_neg (show ¬ wh = ((3 : Nat) : Int) from h11)]; rw [zsw g1 4 _ (by decide), if_neg (show ¬ wh = ((4 : Nat) : Int) from h14)]; rw [zsw g1 5 _ (by decide), if_neg (show ¬ wh = ((5 : Nat) : Int) from h17)]; rw [zsw g1 6 _ (by decide), if_neg (show ¬ wh = ((6 : Nat) : Int) from h20)]; rfl)) ?_
                refine xB.run oX11_many 1 (s := (102, [some (.ref 0), some (.int (zI wh))], [.int (zI (-2))], [zH s0 zL0 0, zH s1 zL1 0, zH s2 zL2 0, zH s3 zL3 0, r4, zH s5 zL5 0, r6, r7, zH s8 (zLb ks) 0, r9])) rfl ?_
                obtain rfl := Option.some.inj H
                exact xB.ret oX11_many (r1 := some (.int (zI (-2)))) rfl rfl rfl
