/-! 32.zd -/
def d_X2_howMany (s1 : zZ) : Option (Int) := some (s1 0 3)
set_option maxRecDepth 20000 in
theorem t_X2_howMany (r0 : List va_E) (s1 : zZ) (r2 : List va_E) (r3 : List va_E) (r4 : List va_E) (r5 : List va_E) (r6 : List va_E) (r7 : List va_E) (r8 : List va_E) (r9 : List va_E) {rr : Int} (H : d_X2_howMany s1 = some rr) : xC MX2_howMany 0 [.ref 1024] ([r0, zH s1 zL1 0, r2, r3, r4, r5, r6, r7, r8, r9]) (some (.int (zI rr))) ([r0, zH s1 zL1 0, r2, r3, r4, r5, r6, r7, r8, r9]) := by
  refine ⟨Nat.le_of_ble_eq_true rfl, ?_⟩
  show xBody MX2_howMany 0 0 [some (.ref 1024)] [] ([r0, zH s1 zL1 0, r2, r3, r4, r5, r6, r7, r8, r9]) _ _
  unfold d_X2_howMany at H
  refine xB.run oX2_howMany 2 (s := (4, [some (.ref 1024)], [.int (zI (s1 0 3))], [r0, zH s1 zL1 0, r2, r3, r4, r5, r6, r7, r8, r9])) rfl ?_
  obtain rfl := Option.some.inj H
  exact xB.ret oX2_howMany (r1 := some (.int (zI (s1 0 3)))) rfl rfl rfl
def d_X2_isPanel (s1 : zZ) (p : Int) : Option (Int) := if (zr p) then (if p < 0 then some 0 else (if (zr p ∧ zr (s1 0 3)) then (if (s1 0 3) ≤ p then some 0 else some 1) else none)) else none
set_option maxRecDepth 20000 in
theorem t_X2_isPanel (r0 : List va_E) (s1 : zZ) (r2 : List va_E) (r3 : List va_E) (r4 : List va_E) (r5 : List va_E) (r6 : List va_E) (r7 : List va_E) (r8 : List va_E) (r9 : List va_E) (p : Int) {rr : Int} (H : d_X2_isPanel s1 p = some rr) : xC MX2_isPanel 0 [.ref 1024, .int (zI p)] ([r0, zH s1 zL1 0, r2, r3, r4, r5, r6, r7, r8, r9]) (some (.int (zI rr))) ([r0, zH s1 zL1 0, r2, r3, r4, r5, r6, r7, r8, r9]) := by
  refine ⟨Nat.le_of_ble_eq_true rfl, ?_⟩
  show xBody MX2_isPanel 0 0 [some (.ref 1024), some (.int (zI p))] [] ([r0, zH s1 zL1 0, r2, r3, r4, r5, r6, r7, r8, r9]) _ _
  unfold d_X2_isPanel at H
  refine xB.run oX2_isPanel 1 (s := (1, [some (.ref 1024), some (.int (zI p))], [.int (zI p)], [r0, zH s1 zL1 0, r2, r3, r4, r5, r6, r7, r8, r9])) rfl ?_
  obtain ⟨g4, H⟩ := zgd H
  have H := zif H
  refine xB.brE oX2_isPanel (P := p < 0) rfl (zc_lt (a := p) (b := 0) ⟨g4, by decide⟩) (fun h1 => ?_) (fun h1 => ?_)
  · have H := H.1 h1
    refine xB.run oX2_isPanel 1 (s := (17, [some (.ref 1024), some (.int (zI p))], [.int (zI 0)], [r0, zH s1 zL1 0, r2, r3, r4, r5, r6, r7, r8, r9])) rfl ?_
    obtain rfl := Option.some.inj H
    exact xB.ret oX2_isPanel (r1 := some (.int (zI 0))) rfl rfl rfl
  · have H := H.2 h1
    refine xB.run oX2_isPanel 3 (s := (9, [some (.ref 1024), some (.int (zI p))], [.int (zI (s1 0 3)), .int (zI p)], [r0, zH s1 zL1 0, r2, r3, r4, r5, r6, r7, r8, r9])) rfl ?_
    obtain ⟨g3, H⟩ := zgd H
    have H := zif H
    refine xB.brE oX2_isPanel (P := (s1 0 3) ≤ p) rfl (zc_ge (a := p) (b := s1 0 3) g3) (fun h2 => ?_) (fun h2 => ?_)
    · have H := H.1 h2
      refine xB.run oX2_isPanel 1 (s := (17, [some (.ref 1024), some (.int (zI p))], [.int (zI 0)], [r0, zH s1 zL1 0, r2, r3, r4, r5, r6, r7, r8, r9])) rfl ?_
      obtain rfl := Option.some.inj H
      exact xB.ret oX2_isPanel (r1 := some (.int (zI 0))) rfl rfl rfl
    · have H := H.2 h2
      refine xB.run oX2_isPanel 2 (s := (17, [some (.ref 1024), some (.int (zI p))], [.int (zI 1)], [r0, zH s1 zL1 0, r2, r3, r4, r5, r6, r7, r8, r9])) rfl ?_
      obtain rfl := Option.some.inj H
      exact xB.ret oX2_isPanel (r1 := some (.int (zI 1))) rfl rfl rfl
def d_X2_takeCode (s1 : zZ) (pl : Int) (code : Int) : Option (zZ) := if (zr pl) then (if pl < 0 then some s1 else (if (zr pl) then (if (60 : Int) ≤ pl then some s1 else (if (0 ≤ pl ∧ pl < 60) then some (upz s1 4 pl.toNat code) else none)) else none)) else none
set_option maxRecDepth 20000 in
theorem t_X2_takeCode (r0 : List va_E) (s1 : zZ) (r2 : List va_E) (r3 : List va_E) (r4 : List va_E) (r5 : List va_E) (r6 : List va_E) (r7 : List va_E) (r8 : List va_E) (r9 : List va_E) (pl : Int) (code : Int) {rr : zZ} (H : d_X2_takeCode s1 pl code = some rr) : xC MX2_takeCode 0 [.ref 1024, .int (zI pl), .int (zI code)] ([r0, zH s1 zL1 0, r2, r3, r4, r5, r6, r7, r8, r9]) (none) ([r0, zH rr zL1 0, r2, r3, r4, r5, r6, r7, r8, r9]) := by
  refine ⟨Nat.le_of_ble_eq_true rfl, ?_⟩
  show xBody MX2_takeCode 0 0 [some (.ref 1024), some (.int (zI pl)), some (.int (zI code))] [] ([r0, zH s1 zL1 0, r2, r3, r4, r5, r6, r7, r8, r9]) _ _
  unfold d_X2_takeCode at H
  refine xB.run oX2_takeCode 1 (s := (1, [some (.ref 1024), some (.int (zI pl)), some (.int (zI code))], [.int (zI pl)], [r0, zH s1 zL1 0, r2, r3, r4, r5, r6, r7, r8, r9])) rfl ?_
  obtain ⟨g5, H⟩ := zgd H
  have H := zif H
  refine xB.brE oX2_takeCode (P := pl < 0) rfl (zc_lt (a := pl) (b := 0) ⟨g5, by decide⟩) (fun h1 => ?_) (fun h1 => ?_)
  · have H := H.1 h1
    obtain rfl := Option.some.inj H
    exact xB.ret oX2_takeCode (r1 := none) rfl rfl rfl
  · have H := H.2 h1
    refine xB.run oX2_takeCode 2 (s := (7, [some (.ref 1024), some (.int (zI pl)), some (.int (zI code))], [.int (zI 60), .int (zI pl)], [r0, zH s1 zL1 0, r2, r3, r4, r5, r6, r7, r8, r9])) rfl ?_
    obtain ⟨g4, H⟩ := zgd H
    have H := zif H
    refine xB.brE oX2_takeCode (P := (60 : Int) ≤ pl) rfl (zc_ge (a := pl) (b := 60) ⟨g4, by decide⟩) (fun h2 => ?_) (fun h2 => ?_)
    · have H := H.1 h2
      obtain rfl := Option.some.inj H
      exact xB.ret oX2_takeCode (r1 := none) rfl rfl rfl
    · have H := H.2 h2
      refine xB.run oX2_takeCode 4 (s := (16, [some (.ref 1024), some (.int (zI pl)), some (.int (zI code))], [.int (zI code), .int (zI pl), .ref 1028], [r0, zH s1 zL1 0, r2, r3, r4, r5, r6, r7, r8, r9])) rfl ?_
      obtain ⟨g3, H⟩ := zgd H
      refine zB.iast oX2_takeCode (g := 1) (p := 4) (N := 60) (i := pl) (hp1 := [r0, zH (upz s1 4 pl.toNat code) zL1 0, r2, r3, r4, r5, r6, r7, r8, r9]) rfl rfl (by decide) (by decide) rfl rfl (by decide) g3 rfl ?_
      obtain rfl := Option.some.inj H
      exact xB.ret oX2_takeCode (r1 := none) rfl rfl rfl
def d_X2_wrongAt (s1 : zZ) (pl : Int) : Option (zZ) := if (zr (s1 0 10)) then (if (s1 0 10) ≠ (-1) then some s1 else some (upz s1 0 10 pl)) else none
set_option maxRecDepth 20000 in
theorem t_X2_wrongAt (r0 : List va_E) (s1 : zZ) (r2 : List va_E) (r3 : List va_E) (r4 : List va_E) (r5 : List va_E) (r6 : List va_E) (r7 : List va_E) (r8 : List va_E) (r9 : List va_E) (pl : Int) {rr : zZ} (H : d_X2_wrongAt s1 pl = some rr) : xC MX2_wrongAt 0 [.ref 1024, .int (zI pl)] ([r0, zH s1 zL1 0, r2, r3, r4, r5, r6, r7, r8, r9]) (none) ([r0, zH rr zL1 0, r2, r3, r4, r5, r6, r7, r8, r9]) := by
  refine ⟨Nat.le_of_ble_eq_true rfl, ?_⟩
  show xBody MX2_wrongAt 0 0 [some (.ref 1024), some (.int (zI pl))] [] ([r0, zH s1 zL1 0, r2, r3, r4, r5, r6, r7, r8, r9]) _ _
  unfold d_X2_wrongAt at H
  refine xB.run oX2_wrongAt 3 (s := (5, [some (.ref 1024), some (.int (zI pl))], [.int (zI (-1)), .int (zI (s1 0 10))], [r0, zH s1 zL1 0, r2, r3, r4, r5, r6, r7, r8, r9])) rfl ?_
  obtain ⟨g2, H⟩ := zgd H
  have H := zif H
  refine xB.brE oX2_wrongAt (P := (s1 0 10) ≠ (-1)) rfl (zc_ne (a := s1 0 10) (b := (-1)) ⟨g2, by decide⟩) (fun h1 => ?_) (fun h1 => ?_)
  · have H := H.1 h1
    obtain rfl := Option.some.inj H
    exact xB.ret oX2_wrongAt (r1 := none) rfl rfl rfl
  · have H := H.2 h1
    refine xB.run oX2_wrongAt 2 (s := (10, [some (.ref 1024), some (.int (zI pl))], [.int (zI pl), .ref 1024], [r0, zH s1 zL1 0, r2, r3, r4, r5, r6, r7, r8, r9])) rfl ?_
    refine zB.putI oX2_wrongAt (g := 1) (p := 0) (c := 2) (k := 10) (y := 0) (hp1 := [r0, zH (upz s1 0 10 pl) zL1 0, r2, r3, r4, r5, r6, r7, r8, r9]) rfl rfl (by decide) (by decide) rfl rfl rfl rfl rfl rfl ?_
    obtain rfl := Option.some.inj H
    exact xB.ret oX2_wrongAt (r1 := none) rfl rfl rfl
def d_X2_stepOver (s1 : zZ) (code : Int) : Option (Int × zZ) := if (zr (s1 0 9)) then (if (s1 0 9) < 0 then some (0, s1) else (if (zr (s1 0 9) ∧ zr (s1 0 8)) then (if (s1 0 8) ≤ (s1 0 9) then some (0, s1) else (if (0 ≤ (s1 0 9) ∧ (s1 0 9) < 60) then (if (zr (s1 4 (s1 0 9).toNat) ∧ zr code) then (if (s1 4 (s1 0 9).toNat) = code then some (1, upz s1 0 9 ((s1 0 9) + 1)) else some (0, s1)) else none) else none)) else none)) else none
set_option maxRecDepth 20000 in
theorem t_X2_stepOver (r0 : List va_E) (s1 : zZ) (r2 : List va_E) (r3 : List va_E) (r4 : List va_E) (r5 : List va_E) (r6 : List va_E) (r7 : List va_E) (r8 : List va_E) (r9 : List va_E) (code : Int) {rr : Int × zZ} (H : d_X2_stepOver s1 code = some rr) : xC MX2_stepOver 0 [.ref 1024, .int (zI code)] ([r0, zH s1 zL1 0, r2, r3, r4, r5, r6, r7, r8, r9]) (some (.int (zI rr.1))) ([r0, zH rr.2 zL1 0, r2, r3, r4, r5, r6, r7, r8, r9]) := by
  refine ⟨Nat.le_of_ble_eq_true rfl, ?_⟩
  show xBody MX2_stepOver 0 0 [some (.ref 1024), some (.int (zI code))] [] ([r0, zH s1 zL1 0, r2, r3, r4, r5, r6, r7, r8, r9]) _ _
  unfold d_X2_stepOver at H
  refine xB.run oX2_stepOver 2 (s := (4, [some (.ref 1024), some (.int (zI code))], [.int (zI (s1 0 9))], [r0, zH s1 zL1 0, r2, r3, r4, r5, r6, r7, r8, r9])) rfl ?_
  obtain ⟨g7, H⟩ := zgd H
  have H := zif H
  refine xB.brE oX2_stepOver (P := (s1 0 9) < 0) rfl (zc_lt (a := s1 0 9) (b := 0) ⟨g7, by decide⟩) (fun h1 => ?_) (fun h1 => ?_)
  · have H := H.1 h1
    refine xB.run oX2_stepOver 1 (s := (32, [some (.ref 1024), some (.int (zI code))], [.int (zI 0)], [r0, zH s1 zL1 0, r2, r3, r4, r5, r6, r7, r8, r9])) rfl ?_
    obtain rfl := Option.some.inj H
    exact xB.ret oX2_stepOver (r1 := some (.int (zI 0))) rfl rfl rfl
  · have H := H.2 h1
    refine xB.run oX2_stepOver 4 (s := (15, [some (.ref 1024), some (.int (zI code))], [.int (zI (s1 0 8)), .int (zI (s1 0 9))], [r0, zH s1 zL1 0, r2, r3, r4, r5, r6, r7, r8, r9])) rfl ?_
    obtain ⟨g6, H⟩ := zgd H
    have H := zif H
    refine xB.brE oX2_stepOver (P := (s1 0 8) ≤ (s1 0 9)) rfl (zc_ge (a := s1 0 9) (b := s1 0 8) g6) (fun h2 => ?_) (fun h2 => ?_)
    · have H := H.1 h2
      refine xB.run oX2_stepOver 1 (s := (32, [some (.ref 1024), some (.int (zI code))], [.int (zI 0)], [r0, zH s1 zL1 0, r2, r3, r4, r5, r6, r7, r8, r9])) rfl ?_
      obtain rfl := Option.some.inj H
      exact xB.ret oX2_stepOver (r1 := some (.int (zI 0))) rfl rfl rfl
    · have H := H.2 h2
      refine xB.run oX2_stepOver 4 (s := (26, [some (.ref 1024), some (.int (zI code))], [.int (zI (s1 0 9)), .ref 1028], [r0, zH s1 zL1 0, r2, r3, r4, r5, r6, r7, r8, r9])) rfl ?_
      obtain ⟨g5, H⟩ := zgd H
      refine zB.iald oX2_stepOver (g := 1) (p := 4) (N := 60) (i := s1 0 9) rfl rfl (by decide) rfl rfl (by decide) g5 ?_
      refine xB.run oX2_stepOver 1 (s := (28, [some (.ref 1024), some (.int (zI code))], [.int (zI code), .int (zI (s1 4 (s1 0 9).toNat))], [r0, zH s1 zL1 0, r2, r3, r4, r5, r6, r7, r8, r9])) rfl ?_
      obtain ⟨g4, H⟩ := zgd H
      have H := zif H
      refine xB.brE oX2_stepOver (P := (s1 4 (s1 0 9).toNat) = code) rfl (zc_eq (a := s1 4 (s1 0 9).toNat) (b := code) g4) (fun h3 => ?_) (fun h3 => ?_)
      · have H := H.1 h3
        refine xB.run oX2_stepOver 4 (s := (39, [some (.ref 1024), some (.int (zI code))], [.int (zI 1), .int (zI (s1 0 9)), .ref 1024], [r0, zH s1 zL1 0, r2, r3, r4, r5, r6, r7, r8, r9])) rfl ?_
        refine zB.opi oX2_stepOver rfl (zi_add (s1 0 9) 1) ?_
        refine zB.putI oX2_stepOver (g := 1) (p := 0) (c := 2) (k := 9) (y := 0) (hp1 := [r0, zH (upz s1 0 9 ((s1 0 9) + 1)) zL1 0, r2, r3, r4, r5, r6, r7, r8, r9]) rfl rfl (by decide) (by decide) rfl rfl rfl rfl rfl rfl ?_
        refine xB.run oX2_stepOver 1 (s := (44, [some (.ref 1024), some (.int (zI code))], [.int (zI 1)], [r0, zH (upz s1 0 9 ((s1 0 9) + 1)) zL1 0, r2, r3, r4, r5, r6, r7, r8, r9])) rfl ?_
        obtain rfl := Option.some.inj H
        exact xB.ret oX2_stepOver (r1 := some (.int (zI 1))) rfl rfl rfl
      · have H := H.2 h3
        refine xB.run oX2_stepOver 1 (s := (32, [some (.ref 1024), some (.int (zI code))], [.int (zI 0)], [r0, zH s1 zL1 0, r2, r3, r4, r5, r6, r7, r8, r9])) rfl ?_
        obtain rfl := Option.some.inj H
        exact xB.ret oX2_stepOver (r1 := some (.int (zI 0))) rfl rfl rfl
def d_X2_need (s1 : zZ) (code : Int) : Option (zZ) := if (zr (s1 0 10)) then (if (s1 0 10) ≠ (-1) then some s1 else ((d_X2_stepOver s1 code).bind fun y2 => if (zr y2.1) then (if y2.1 ≠ 0 then some y2.2 else ((d_X2_wrongAt y2.2 (y2.2 0 9)).bind fun y5 => some y5)) else none)) else none
set_option maxRecDepth 20000 in
theorem t_X2_need (r0 : List va_E) (s1 : zZ) (r2 : List va_E) (r3 : List va_E) (r4 : List va_E) (r5 : List va_E) (r6 : List va_E) (r7 : List va_E) (r8 : List va_E) (r9 : List va_E) (code : Int) {rr : zZ} (H : d_X2_need s1 code = some rr) : xC MX2_need 1 [.ref 1024, .int (zI code)] ([r0, zH s1 zL1 0, r2, r3, r4, r5, r6, r7, r8, r9]) (none) ([r0, zH rr zL1 0, r2, r3, r4, r5, r6, r7, r8, r9]) := by
  refine ⟨Nat.le_of_ble_eq_true rfl, ?_⟩
  show xBody MX2_need 1 0 [some (.ref 1024), some (.int (zI code))] [] ([r0, zH s1 zL1 0, r2, r3, r4, r5, r6, r7, r8, r9]) _ _
  unfold d_X2_need at H
  refine xB.run oX2_need 3 (s := (5, [some (.ref 1024), some (.int (zI code))], [.int (zI (-1)), .int (zI (s1 0 10))], [r0, zH s1 zL1 0, r2, r3, r4, r5, r6, r7, r8, r9])) rfl ?_
  obtain ⟨g8, H⟩ := zgd H
  have H := zif H
  refine xB.brE oX2_need (P := (s1 0 10) ≠ (-1)) rfl (zc_ne (a := s1 0 10) (b := (-1)) ⟨g8, by decide⟩) (fun h1 => ?_) (fun h1 => ?_)
  · have H := H.1 h1
    obtain rfl := Option.some.inj H
    exact xB.ret oX2_need (r1 := none) rfl rfl rfl
  · have H := H.2 h1
    refine xB.run oX2_need 2 (s := (10, [some (.ref 1024), some (.int (zI code))], [.int (zI code), .ref 1024], [r0, zH s1 zL1 0, r2, r3, r4, r5, r6, r7, r8, r9])) rfl ?_
    obtain ⟨y2, e3, H⟩ := zbd H
    refine xB.call oX2_need (M2 := MX2_stepOver) rfl rfl ((t_X2_stepOver r0 s1 r2 r3 r4 r5 r6 r7 r8 r9 code e3).deep (by decide : 0 ≤ 0)) ?_
    show xBody MX2_need 1 13 [some (.ref 1024), some (.int (zI code))] [.int (zI y2.1)] ([r0, zH y2.2 zL1 0, r2, r3, r4, r5, r6, r7, r8, r9]) _ _
    obtain ⟨g7, H⟩ := zgd H
    have H := zif H
    refine xB.brE oX2_need (P := y2.1 ≠ 0) rfl (zc_ne (a := y2.1) (b := 0) ⟨g7, by decide⟩) (fun h4 => ?_) (fun h4 => ?_)
    · have H := H.1 h4
      obtain rfl := Option.some.inj H
      exact xB.ret oX2_need (r1 := none) rfl rfl rfl
    · have H := H.2 h4
      refine xB.run oX2_need 3 (s := (21, [some (.ref 1024), some (.int (zI code))], [.int (zI (y2.2 0 9)), .ref 1024], [r0, zH y2.2 zL1 0, r2, r3, r4, r5, r6, r7, r8, r9])) rfl ?_
      obtain ⟨y5, e6, H⟩ := zbd H
      refine xB.call oX2_need (M2 := MX2_wrongAt) rfl rfl ((t_X2_wrongAt r0 y2.2 r2 r3 r4 r5 r6 r7 r8 r9 (y2.2 0 9) e6).deep (by decide : 0 ≤ 0)) ?_
      show xBody MX2_need 1 24 [some (.ref 1024), some (.int (zI code))] [] ([r0, zH y5 zL1 0, r2, r3, r4, r5, r6, r7, r8, r9]) _ _
      obtain rfl := Option.some.inj H
      exact xB.ret oX2_need (r1 := none) rfl rfl rfl
def d_X2_readNumber_8 (lo : Int) (hi : Int) (st : Int) : Nat → Int → zZ → Option (Int × zZ)
  | 0, _, _ => none
  | uN + 1, x, s1 => if (zr (s1 0 9) ∧ zr (s1 0 8)) then (if (s1 0 8) ≤ (s1 0 9) then some (x, s1) else (if (zr (s1 0 9) ∧ zr (st + 3)) then (if (st + 3) ≤ (s1 0 9) then some (x, s1) else (if (0 ≤ (s1 0 9) ∧ (s1 0 9) < 60) then (if (zr (s1 4 (s1 0 9).toNat)) then (if (s1 4 (s1 0 9).toNat) < 48 then some (x, s1) else (if (0 ≤ (s1 0 9) ∧ (s1 0 9) < 60) then (if (zr (s1 4 (s1 0 9).toNat)) then (if (57 : Int) < (s1 4 (s1 0 9).toNat) then some (x, s1) else (if (0 ≤ (s1 0 9) ∧ (s1 0 9) < 60) then (d_X2_readNumber_8 lo hi st uN (((10 * x) + (s1 4 (s1 0 9).toNat)) - 48) (upz s1 0 9 ((s1 0 9) + 1))) else none)) else none) else none)) else none) else none)) else none)) else none
def d_X2_readNumber (s1 : zZ) (lo : Int) (hi : Int) : Option (Int × zZ) := (d_X2_readNumber_8 lo hi (s1 0 9) zF 0 s1).bind fun y12 => if (zr (y12.2 0 9) ∧ zr (s1 0 9)) then (if (y12.2 0 9) = (s1 0 9) then ((d_X2_wrongAt y12.2 (s1 0 9)).bind fun y15 => some (y12.1, y15)) else (if (zr y12.1 ∧ zr lo) then (if y12.1 < lo then ((d_X2_wrongAt y12.2 (s1 0 9)).bind fun y18 => some (y12.1, y18)) else (if (zr y12.1 ∧ zr hi) then (if y12.1 ≤ hi then some (y12.1, y12.2) else ((d_X2_wrongAt y12.2 (s1 0 9)).bind fun y21 => some (y12.1, y21))) else none)) else none)) else none
set_option maxRecDepth 20000 in
theorem l_X2_readNumber_8 (r0 : List va_E) (r2 : List va_E) (r3 : List va_E) (r4 : List va_E) (r5 : List va_E) (r6 : List va_E) (r7 : List va_E) (r8 : List va_E) (r9 : List va_E) (lo : Int) (hi : Int) (st : Int) {r : Option Value} {hp1 : xH} : ∀ (uN : Nat) (x : Int) (s1 : zZ) {uX : Int × zZ}, d_X2_readNumber_8 lo hi st uN x s1 = some uX → (xBody MX2_readNumber 1 90 [some (.ref 1024), some (.int (zI lo)), some (.int (zI hi)), some (.int (zI st)), some (.int (zI uX.1))] [] ([r0, zH uX.2 zL1 0, r2, r3, r4, r5, r6, r7, r8, r9]) r hp1) → xBody MX2_readNumber 1 8 [some (.ref 1024), some (.int (zI lo)), some (.int (zI hi)), some (.int (zI st)), some (.int (zI x))] [] ([r0, zH s1 zL1 0, r2, r3, r4, r5, r6, r7, r8, r9]) r hp1 := by
  intro uN
  induction uN with
  | zero => intro x s1 uX H K; cases H
  | succ uN ih =>
    intro x s1 uX H K
    unfold d_X2_readNumber_8 at H
    refine xB.run oX2_readNumber 4 (s := (16, [some (.ref 1024), some (.int (zI lo)), some (.int (zI hi)), some (.int (zI st)), some (.int (zI x))], [.int (zI (s1 0 8)), .int (zI (s1 0 9))], [r0, zH s1 zL1 0, r2, r3, r4, r5, r6, r7, r8, r9])) rfl ?_
    obtain ⟨g11, H⟩ := zgd H
    have H := zif H
    refine xB.brE oX2_readNumber (P := (s1 0 8) ≤ (s1 0 9)) rfl (zc_ge (a := s1 0 9) (b := s1 0 8) g11) (fun h1 => ?_) (fun h1 => ?_)
    · have H := H.1 h1
      obtain rfl := Option.some.inj H
      exact K
    · have H := H.2 h1
      refine xB.run oX2_readNumber 4 (s := (25, [some (.ref 1024), some (.int (zI lo)), some (.int (zI hi)), some (.int (zI st)), some (.int (zI x))], [.int (zI 3), .int (zI st), .int (zI (s1 0 9))], [r0, zH s1 zL1 0, r2, r3, r4, r5, r6, r7, r8, r9])) rfl ?_
      refine zB.opi oX2_readNumber rfl (zi_add st 3) ?_
      obtain ⟨g10, H⟩ := zgd H
      have H := zif H
      refine xB.brE oX2_readNumber (P := (st + 3) ≤ (s1 0 9)) rfl (zc_ge (a := s1 0 9) (b := st + 3) g10) (fun h2 => ?_) (fun h2 => ?_)
      · have H := H.1 h2
        obtain rfl := Option.some.inj H
        exact K
      · have H := H.2 h2
        refine xB.run oX2_readNumber 4 (s := (37, [some (.ref 1024), some (.int (zI lo)), some (.int (zI hi)), some (.int (zI st)), some (.int (zI x))], [.int (zI (s1 0 9)), .ref 1028], [r0, zH s1 zL1 0, r2, r3, r4, r5, r6, r7, r8, r9])) rfl ?_
        obtain ⟨g9, H⟩ := zgd H
        refine zB.iald oX2_readNumber (g := 1) (p := 4) (N := 60) (i := s1 0 9) rfl rfl (by decide) rfl rfl (by decide) g9 ?_
        refine xB.run oX2_readNumber 1 (s := (40, [some (.ref 1024), some (.int (zI lo)), some (.int (zI hi)), some (.int (zI st)), some (.int (zI x))], [.int (zI 48), .int (zI (s1 4 (s1 0 9).toNat))], [r0, zH s1 zL1 0, r2, r3, r4, r5, r6, r7, r8, r9])) rfl ?_
        obtain ⟨g8, H⟩ := zgd H
        have H := zif H
        refine xB.brE oX2_readNumber (P := (s1 4 (s1 0 9).toNat) < 48) rfl (zc_lt (a := s1 4 (s1 0 9).toNat) (b := 48) ⟨g8, by decide⟩) (fun h3 => ?_) (fun h3 => ?_)
        · have H := H.1 h3
          obtain rfl := Option.some.inj H
          exact K
        · have H := H.2 h3
          refine xB.run oX2_readNumber 4 (s := (51, [some (.ref 1024), some (.int (zI lo)), some (.int (zI hi)), some (.int (zI st)), some (.int (zI x))], [.int (zI (s1 0 9)), .ref 1028], [r0, zH s1 zL1 0, r2, r3, r4, r5, r6, r7, r8, r9])) rfl ?_
          obtain ⟨g7, H⟩ := zgd H
          refine zB.iald oX2_readNumber (g := 1) (p := 4) (N := 60) (i := s1 0 9) rfl rfl (by decide) rfl rfl (by decide) g7 ?_
          refine xB.run oX2_readNumber 1 (s := (54, [some (.ref 1024), some (.int (zI lo)), some (.int (zI hi)), some (.int (zI st)), some (.int (zI x))], [.int (zI 57), .int (zI (s1 4 (s1 0 9).toNat))], [r0, zH s1 zL1 0, r2, r3, r4, r5, r6, r7, r8, r9])) rfl ?_
          obtain ⟨g6, H⟩ := zgd H
          have H := zif H
          refine xB.brE oX2_readNumber (P := (57 : Int) < (s1 4 (s1 0 9).toNat)) rfl (zc_gt (a := s1 4 (s1 0 9).toNat) (b := 57) ⟨g6, by decide⟩) (fun h4 => ?_) (fun h4 => ?_)
          · have H := H.1 h4
            obtain rfl := Option.some.inj H
            exact K
          · have H := H.2 h4
            refine xB.run oX2_readNumber 2 (s := (61, [some (.ref 1024), some (.int (zI lo)), some (.int (zI hi)), some (.int (zI st)), some (.int (zI x))], [.int (zI x), .int (zI 10)], [r0, zH s1 zL1 0, r2, r3, r4, r5, r6, r7, r8, r9])) rfl ?_
            refine zB.opi oX2_readNumber rfl (zi_mul 10 x) ?_
            refine xB.run oX2_readNumber 4 (s := (70, [some (.ref 1024), some (.int (zI lo)), some (.int (zI hi)), some (.int (zI st)), some (.int (zI x))], [.int (zI (s1 0 9)), .ref 1028, .int (zI (10 * x))], [r0, zH s1 zL1 0, r2, r3, r4, r5, r6, r7, r8, r9])) rfl ?_
            obtain ⟨g5, H⟩ := zgd H
            refine zB.iald oX2_readNumber (g := 1) (p := 4) (N := 60) (i := s1 0 9) rfl rfl (by decide) rfl rfl (by decide) g5 ?_
            refine zB.opi oX2_readNumber rfl (zi_add (10 * x) (s1 4 (s1 0 9).toNat)) ?_
            refine xB.run oX2_readNumber 1 (s := (74, [some (.ref 1024), some (.int (zI lo)), some (.int (zI hi)), some (.int (zI st)), some (.int (zI x))], [.int (zI 48), .int (zI ((10 * x) + (s1 4 (s1 0 9).toNat)))], [r0, zH s1 zL1 0, r2, r3, r4, r5, r6, r7, r8, r9])) rfl ?_
            refine zB.opi oX2_readNumber rfl (zi_sub ((10 * x) + (s1 4 (s1 0 9).toNat)) 48) ?_
            refine xB.run oX2_readNumber 5 (s := (83, [some (.ref 1024), some (.int (zI lo)), some (.int (zI hi)), some (.int (zI st)), some (.int (zI (((10 * x) + (s1 4 (s1 0 9).toNat)) - 48)))], [.int (zI 1), .int (zI (s1 0 9)), .ref 1024], [r0, zH s1 zL1 0, r2, r3, r4, r5, r6, r7, r8, r9])) rfl ?_
            refine zB.opi oX2_readNumber rfl (zi_add (s1 0 9) 1) ?_
            refine zB.putI oX2_readNumber (g := 1) (p := 0) (c := 2) (k := 9) (y := 0) (hp1 := [r0, zH (upz s1 0 9 ((s1 0 9) + 1)) zL1 0, r2, r3, r4, r5, r6, r7, r8, r9]) rfl rfl (by decide) (by decide) rfl rfl rfl rfl rfl rfl ?_
            refine xB.run oX2_readNumber 1 (s := (8, [some (.ref 1024), some (.int (zI lo)), some (.int (zI hi)), some (.int (zI st)), some (.int (zI (((10 * x) + (s1 4 (s1 0 9).toNat)) - 48)))], [], [r0, zH (upz s1 0 9 ((s1 0 9) + 1)) zL1 0, r2, r3, r4, r5, r6, r7, r8, r9])) rfl ?_
            exact ih (((10 * x) + (s1 4 (s1 0 9).toNat)) - 48) (upz s1 0 9 ((s1 0 9) + 1)) H K
set_option maxRecDepth 20000 in
theorem t_X2_readNumber (r0 : List va_E) (s1 : zZ) (r2 : List va_E) (r3 : List va_E) (r4 : List va_E) (r5 : List va_E) (r6 : List va_E) (r7 : List va_E) (r8 : List va_E) (r9 : List va_E) (lo : Int) (hi : Int) {rr : Int × zZ} (H : d_X2_readNumber s1 lo hi = some rr) : xC MX2_readNumber 1 [.ref 1024, .int (zI lo), .int (zI hi)] ([r0, zH s1 zL1 0, r2, r3, r4, r5, r6, r7, r8, r9]) (some (.int (zI rr.1))) ([r0, zH rr.2 zL1 0, r2, r3, r4, r5, r6, r7, r8, r9]) := by
  refine ⟨Nat.le_of_ble_eq_true rfl, ?_⟩
  show xBody MX2_readNumber 1 0 [some (.ref 1024), some (.int (zI lo)), some (.int (zI hi)), none, none] [] ([r0, zH s1 zL1 0, r2, r3, r4, r5, r6, r7, r8, r9]) _ _
  unfold d_X2_readNumber at H
  refine xB.run oX2_readNumber 5 (s := (8, [some (.ref 1024), some (.int (zI lo)), some (.int (zI hi)), some (.int (zI (s1 0 9))), some (.int (zI 0))], [], [r0, zH s1 zL1 0, r2, r3, r4, r5, r6, r7, r8, r9])) rfl ?_
  obtain ⟨y12, e13, H⟩ := zbd H
  refine l_X2_readNumber_8 r0 r2 r3 r4 r5 r6 r7 r8 r9 lo hi (s1 0 9) _ 0 s1 e13 ?_
  refine xB.run oX2_readNumber 3 (s := (95, [some (.ref 1024), some (.int (zI lo)), some (.int (zI hi)), some (.int (zI (s1 0 9))), some (.int (zI y12.1))], [.int (zI (s1 0 9)), .int (zI (y12.2 0 9))], [r0, zH y12.2 zL1 0, r2, r3, r4, r5, r6, r7, r8, r9])) rfl ?_
  obtain ⟨g25, H⟩ := zgd H
  have H := zif H
  refine xB.brE oX2_readNumber (P := (y12.2 0 9) = (s1 0 9)) rfl (zc_eq (a := y12.2 0 9) (b := s1 0 9) g25) (fun h14 => ?_) (fun h14 => ?_)
  · have H := H.1 h14
    refine xB.run oX2_readNumber 2 (s := (112, [some (.ref 1024), some (.int (zI lo)), some (.int (zI hi)), some (.int (zI (s1 0 9))), some (.int (zI y12.1))], [.int (zI (s1 0 9)), .ref 1024], [r0, zH y12.2 zL1 0, r2, r3, r4, r5, r6, r7, r8, r9])) rfl ?_
    obtain ⟨y15, e16, H⟩ := zbd H
    refine xB.call oX2_readNumber (M2 := MX2_wrongAt) rfl rfl ((t_X2_wrongAt r0 y12.2 r2 r3 r4 r5 r6 r7 r8 r9 (s1 0 9) e16).deep (by decide : 0 ≤ 0)) ?_
    show xBody MX2_readNumber 1 115 [some (.ref 1024), some (.int (zI lo)), some (.int (zI hi)), some (.int (zI (s1 0 9))), some (.int (zI y12.1))] [] ([r0, zH y15 zL1 0, r2, r3, r4, r5, r6, r7, r8, r9]) _ _
    refine xB.run oX2_readNumber 1 (s := (117, [some (.ref 1024), some (.int (zI lo)), some (.int (zI hi)), some (.int (zI (s1 0 9))), some (.int (zI y12.1))], [.int (zI y12.1)], [r0, zH y15 zL1 0, r2, r3, r4, r5, r6, r7, r8, r9])) rfl ?_
    obtain rfl := Option.some.inj H
    exact xB.ret oX2_readNumber (r1 := some (.int (zI y12.1))) rfl rfl rfl
  · have H := H.2 h14
    refine xB.run oX2_readNumber 2 (s := (101, [some (.ref 1024), some (.int (zI lo)), some (.int (zI hi)), some (.int (zI (s1 0 9))), some (.int (zI y12.1))], [.int (zI lo), .int (zI y12.1)], [r0, zH y12.2 zL1 0, r2, r3, r4, r5, r6, r7, r8, r9])) rfl ?_
    obtain ⟨g24, H⟩ := zgd H
    have H := zif H
    refine xB.brE oX2_readNumber (P := y12.1 < lo) rfl (zc_lt (a := y12.1) (b := lo) g24) (fun h17 => ?_) (fun h17 => ?_)
    · have H := H.1 h17
      refine xB.run oX2_readNumber 2 (s := (112, [some (.ref 1024), some (.int (zI lo)), some (.int (zI hi)), some (.int (zI (s1 0 9))), some (.int (zI y12.1))], [.int (zI (s1 0 9)), .ref 1024], [r0, zH y12.2 zL1 0, r2, r3, r4, r5, r6, r7, r8, r9])) rfl ?_
      obtain ⟨y18, e19, H⟩ := zbd H
      refine xB.call oX2_readNumber (M2 := MX2_wrongAt) rfl rfl ((t_X2_wrongAt r0 y12.2 r2 r3 r4 r5 r6 r7 r8 r9 (s1 0 9) e19).deep (by decide : 0 ≤ 0)) ?_
      show xBody MX2_readNumber 1 115 [some (.ref 1024), some (.int (zI lo)), some (.int (zI hi)), some (.int (zI (s1 0 9))), some (.int (zI y12.1))] [] ([r0, zH y18 zL1 0, r2, r3, r4, r5, r6, r7, r8, r9]) _ _
      refine xB.run oX2_readNumber 1 (s := (117, [some (.ref 1024), some (.int (zI lo)), some (.int (zI hi)), some (.int (zI (s1 0 9))), some (.int (zI y12.1))], [.int (zI y12.1)], [r0, zH y18 zL1 0, r2, r3, r4, r5, r6, r7, r8, r9])) rfl ?_
      obtain rfl := Option.some.inj H
      exact xB.ret oX2_readNumber (r1 := some (.int (zI y12.1))) rfl rfl rfl
    · have H := H.2 h17
      refine xB.run oX2_readNumber 2 (s := (107, [some (.ref 1024), some (.int (zI lo)), some (.int (zI hi)), some (.int (zI (s1 0 9))), some (.int (zI y12.1))], [.int (zI hi), .int (zI y12.1)], [r0, zH y12.2 zL1 0, r2, r3, r4, r5, r6, r7, r8, r9])) rfl ?_
      obtain ⟨g23, H⟩ := zgd H
      have H := zif H
      refine xB.brE oX2_readNumber (P := y12.1 ≤ hi) rfl (zc_le (a := y12.1) (b := hi) g23) (fun h20 => ?_) (fun h20 => ?_)
      · have H := H.1 h20
        refine xB.run oX2_readNumber 1 (s := (117, [some (.ref 1024), some (.int (zI lo)), some (.int (zI hi)), some (.int (zI (s1 0 9))), some (.int (zI y12.1))], [.int (zI y12.1)], [r0, zH y12.2 zL1 0, r2, r3, r4, r5, r6, r7, r8, r9])) rfl ?_
        obtain rfl := Option.some.inj H
        exact xB.ret oX2_readNumber (r1 := some (.int (zI y12.1))) rfl rfl rfl
      · have H := H.2 h20
        refine xB.run oX2_readNumber 2 (s := (112, [some (.ref 1024), some (.int (zI lo)), some (.int (zI hi)), some (.int (zI (s1 0 9))), some (.int (zI y12.1))], [.int (zI (s1 0 9)), .ref 1024], [r0, zH y12.2 zL1 0, r2, r3, r4, r5, r6, r7, r8, r9])) rfl ?_
        obtain ⟨y21, e22, H⟩ := zbd H
        refine xB.call oX2_readNumber (M2 := MX2_wrongAt) rfl rfl ((t_X2_wrongAt r0 y12.2 r2 r3 r4 r5 r6 r7 r8 r9 (s1 0 9) e22).deep (by decide : 0 ≤ 0)) ?_
        show xBody MX2_readNumber 1 115 [some (.ref 1024), some (.int (zI lo)), some (.int (zI hi)), some (.int (zI (s1 0 9))), some (.int (zI y12.1))] [] ([r0, zH y21 zL1 0, r2, r3, r4, r5, r6, r7, r8, r9]) _ _
        refine xB.run oX2_readNumber 1 (s := (117, [some (.ref 1024), some (.int (zI lo)), some (.int (zI hi)), some (.int (zI (s1 0 9))), some (.int (zI y12.1))], [.int (zI y12.1)], [r0, zH y21 zL1 0, r2, r3, r4, r5, r6, r7, r8, r9])) rfl ?_
        obtain rfl := Option.some.inj H
        exact xB.ret oX2_readNumber (r1 := some (.int (zI y12.1))) rfl rfl rfl
def d_X2_readItem (s1 : zZ) (it : Int) : Option (zZ) := (d_X2_need s1 114).bind fun y1 => (d_X2_readNumber y1 0 99).bind fun y3 => if (0 ≤ it ∧ it < 8) then ((d_X2_need (upz y3.2 5 it.toNat y3.1) 44).bind fun y5 => (d_X2_readNumber y5 1 99).bind fun y7 => if (0 ≤ it ∧ it < 8) then (if (0 ≤ it ∧ it < 8) then (if (zr ((upz (upz y7.2 6 it.toNat y7.1) 7 it.toNat 0) 0 10)) then (if ((upz (upz y7.2 6 it.toNat y7.1) 7 it.toNat 0) 0 10) ≠ (-1) then some (upz (upz y7.2 6 it.toNat y7.1) 7 it.toNat 0) else ((d_X2_stepOver (upz (upz y7.2 6 it.toNat y7.1) 7 it.toNat 0) 119).bind fun y10 => if (zr y10.1) then (if y10.1 = 0 then some y10.2 else ((d_X2_readNumber y10.2 0 999).bind fun y13 => if (0 ≤ it ∧ it < 8) then some (upz y13.2 7 it.toNat y13.1) else none)) else none)) else none) else none) else none) else none
set_option maxRecDepth 20000 in
theorem t_X2_readItem (r0 : List va_E) (s1 : zZ) (r2 : List va_E) (r3 : List va_E) (r4 : List va_E) (r5 : List va_E) (r6 : List va_E) (r7 : List va_E) (r8 : List va_E) (r9 : List va_E) (it : Int) {rr : zZ} (H : d_X2_readItem s1 it = some rr) : xC MX2_readItem 2 [.ref 1024, .int (zI it)] ([r0, zH s1 zL1 0, r2, r3, r4, r5, r6, r7, r8, r9]) (none) ([r0, zH rr zL1 0, r2, r3, r4, r5, r6, r7, r8, r9]) := by
  refine ⟨Nat.le_of_ble_eq_true rfl, ?_⟩
  show xBody MX2_readItem 2 0 [some (.ref 1024), some (.int (zI it))] [] ([r0, zH s1 zL1 0, r2, r3, r4, r5, r6, r7, r8, r9]) _ _
  unfold d_X2_readItem at H
  refine xB.run oX2_readItem 2 (s := (3, [some (.ref 1024), some (.int (zI it))], [.int (zI 114), .ref 1024], [r0, zH s1 zL1 0, r2, r3, r4, r5, r6, r7, r8, r9])) rfl ?_
  obtain ⟨y1, e2, H⟩ := zbd H
  refine xB.call oX2_readItem (M2 := MX2_need) rfl rfl ((t_X2_need r0 s1 r2 r3 r4 r5 r6 r7 r8 r9 114 e2).deep (by decide : 1 ≤ 1)) ?_
  show xBody MX2_readItem 2 6 [some (.ref 1024), some (.int (zI it))] [] ([r0, zH y1 zL1 0, r2, r3, r4, r5, r6, r7, r8, r9]) _ _
  refine xB.run oX2_readItem 6 (s := (15, [some (.ref 1024), some (.int (zI it))], [.int (zI 99), .int (zI 0), .ref 1024, .int (zI it), .ref 1029], [r0, zH y1 zL1 0, r2, r3, r4, r5, r6, r7, r8, r9])) rfl ?_
  obtain ⟨y3, e4, H⟩ := zbd H
  refine xB.call oX2_readItem (M2 := MX2_readNumber) rfl rfl ((t_X2_readNumber r0 y1 r2 r3 r4 r5 r6 r7 r8 r9 0 99 e4).deep (by decide : 1 ≤ 1)) ?_
  show xBody MX2_readItem 2 18 [some (.ref 1024), some (.int (zI it))] [.int (zI y3.1), .int (zI it), .ref 1029] ([r0, zH y3.2 zL1 0, r2, r3, r4, r5, r6, r7, r8, r9]) _ _
  obtain ⟨g20, H⟩ := zgd H
  refine zB.iast oX2_readItem (g := 1) (p := 5) (N := 8) (i := it) (hp1 := [r0, zH (upz y3.2 5 it.toNat y3.1) zL1 0, r2, r3, r4, r5, r6, r7, r8, r9]) rfl rfl (by decide) (by decide) rfl rfl (by decide) g20 rfl ?_
  refine xB.run oX2_readItem 2 (s := (22, [some (.ref 1024), some (.int (zI it))], [.int (zI 44), .ref 1024], [r0, zH (upz y3.2 5 it.toNat y3.1) zL1 0, r2, r3, r4, r5, r6, r7, r8, r9])) rfl ?_
  obtain ⟨y5, e6, H⟩ := zbd H
  refine xB.call oX2_readItem (M2 := MX2_need) rfl rfl ((t_X2_need r0 (upz y3.2 5 it.toNat y3.1) r2 r3 r4 r5 r6 r7 r8 r9 44 e6).deep (by decide : 1 ≤ 1)) ?_
  show xBody MX2_readItem 2 25 [some (.ref 1024), some (.int (zI it))] [] ([r0, zH y5 zL1 0, r2, r3, r4, r5, r6, r7, r8, r9]) _ _
  refine xB.run oX2_readItem 6 (s := (34, [some (.ref 1024), some (.int (zI it))], [.int (zI 99), .int (zI 1), .ref 1024, .int (zI it), .ref 1030], [r0, zH y5 zL1 0, r2, r3, r4, r5, r6, r7, r8, r9])) rfl ?_
  obtain ⟨y7, e8, H⟩ := zbd H
  refine xB.call oX2_readItem (M2 := MX2_readNumber) rfl rfl ((t_X2_readNumber r0 y5 r2 r3 r4 r5 r6 r7 r8 r9 1 99 e8).deep (by decide : 1 ≤ 1)) ?_
  show xBody MX2_readItem 2 37 [some (.ref 1024), some (.int (zI it))] [.int (zI y7.1), .int (zI it), .ref 1030] ([r0, zH y7.2 zL1 0, r2, r3, r4, r5, r6, r7, r8, r9]) _ _
  obtain ⟨g19, H⟩ := zgd H
  refine zB.iast oX2_readItem (g := 1) (p := 6) (N := 8) (i := it) (hp1 := [r0, zH (upz y7.2 6 it.toNat y7.1) zL1 0, r2, r3, r4, r5, r6, r7, r8, r9]) rfl rfl (by decide) (by decide) rfl rfl (by decide) g19 rfl ?_
  refine xB.run oX2_readItem 4 (s := (44, [some (.ref 1024), some (.int (zI it))], [.int (zI 0), .int (zI it), .ref 1031], [r0, zH (upz y7.2 6 it.toNat y7.1) zL1 0, r2, r3, r4, r5, r6, r7, r8, r9])) rfl ?_
  obtain ⟨g18, H⟩ := zgd H
  refine zB.iast oX2_readItem (g := 1) (p := 7) (N := 8) (i := it) (hp1 := [r0, zH (upz (upz y7.2 6 it.toNat y7.1) 7 it.toNat 0) zL1 0, r2, r3, r4, r5, r6, r7, r8, r9]) rfl rfl (by decide) (by decide) rfl rfl (by decide) g18 rfl ?_
  refine xB.run oX2_readItem 3 (s := (50, [some (.ref 1024), some (.int (zI it))], [.int (zI (-1)), .int (zI ((upz (upz y7.2 6 it.toNat y7.1) 7 it.toNat 0) 0 10))], [r0, zH (upz (upz y7.2 6 it.toNat y7.1) 7 it.toNat 0) zL1 0, r2, r3, r4, r5, r6, r7, r8, r9])) rfl ?_
  obtain ⟨g17, H⟩ := zgd H
  have H := zif H
  refine xB.brE oX2_readItem (P := ((upz (upz y7.2 6 it.toNat y7.1) 7 it.toNat 0) 0 10) ≠ (-1)) rfl (zc_ne (a := (upz (upz y7.2 6 it.toNat y7.1) 7 it.toNat 0) 0 10) (b := (-1)) ⟨g17, by decide⟩) (fun h9 => ?_) (fun h9 => ?_)
  · have H := H.1 h9
    obtain rfl := Option.some.inj H
    exact xB.ret oX2_readItem (r1 := none) rfl rfl rfl
  · have H := H.2 h9
    refine xB.run oX2_readItem 2 (s := (56, [some (.ref 1024), some (.int (zI it))], [.int (zI 119), .ref 1024], [r0, zH (upz (upz y7.2 6 it.toNat y7.1) 7 it.toNat 0) zL1 0, r2, r3, r4, r5, r6, r7, r8, r9])) rfl ?_
    obtain ⟨y10, e11, H⟩ := zbd H
    refine xB.call oX2_readItem (M2 := MX2_stepOver) rfl rfl ((t_X2_stepOver r0 (upz (upz y7.2 6 it.toNat y7.1) 7 it.toNat 0) r2 r3 r4 r5 r6 r7 r8 r9 119 e11).deep (by decide : 0 ≤ 1)) ?_
    show xBody MX2_readItem 2 59 [some (.ref 1024), some (.int (zI it))] [.int (zI y10.1)] ([r0, zH y10.2 zL1 0, r2, r3, r4, r5, r6, r7, r8, r9]) _ _
    obtain ⟨g16, H⟩ := zgd H
    have H := zif H
    refine xB.brE oX2_readItem (P := y10.1 = 0) rfl (zc_eq (a := y10.1) (b := 0) ⟨g16, by decide⟩) (fun h12 => ?_) (fun h12 => ?_)
    · have H := H.1 h12
      obtain rfl := Option.some.inj H
      exact xB.ret oX2_readItem (r1 := none) rfl rfl rfl
    · have H := H.2 h12
      refine xB.run oX2_readItem 6 (s := (72, [some (.ref 1024), some (.int (zI it))], [.int (zI 999), .int (zI 0), .ref 1024, .int (zI it), .ref 1031], [r0, zH y10.2 zL1 0, r2, r3, r4, r5, r6, r7, r8, r9])) rfl ?_
      obtain ⟨y13, e14, H⟩ := zbd H
      refine xB.call oX2_readItem (M2 := MX2_readNumber) rfl rfl ((t_X2_readNumber r0 y10.2 r2 r3 r4 r5 r6 r7 r8 r9 0 999 e14).deep (by decide : 1 ≤ 1)) ?_
      show xBody MX2_readItem 2 75 [some (.ref 1024), some (.int (zI it))] [.int (zI y13.1), .int (zI it), .ref 1031] ([r0, zH y13.2 zL1 0, r2, r3, r4, r5, r6, r7, r8, r9]) _ _
      obtain ⟨g15, H⟩ := zgd H
      refine zB.iast oX2_readItem (g := 1) (p := 7) (N := 8) (i := it) (hp1 := [r0, zH (upz y13.2 7 it.toNat y13.1) zL1 0, r2, r3, r4, r5, r6, r7, r8, r9]) rfl rfl (by decide) (by decide) rfl rfl (by decide) g15 rfl ?_
      obtain rfl := Option.some.inj H
      exact xB.ret oX2_readItem (r1 := none) rfl rfl rfl
def d_X2_readItems_4  : Nat → Int → Int → zZ → Option (Int × Int × zZ)
  | 0, _, _, _ => none
  | uN + 1, it, go, s1 => if (zr go) then (if go = 0 then some (it, go, s1) else (if (zr it) then (if (8 : Int) ≤ it then some (it, go, s1) else ((d_X2_readItem s1 it).bind fun y3 => if (zr (y3 0 10)) then (if (y3 0 10) ≠ (-1) then (d_X2_readItems_4 uN (it + 1) 0 y3) else (if (zr (it + 1)) then (if (8 : Int) ≤ (it + 1) then (d_X2_readItems_4 uN (it + 1) 0 y3) else ((d_X2_stepOver y3 59).bind fun y7 => if (zr y7.1) then (if y7.1 = 0 then (d_X2_readItems_4 uN (it + 1) 0 y7.2) else (d_X2_readItems_4 uN (it + 1) 1 y7.2)) else none)) else none)) else none)) else none)) else none
def d_X2_readItems (s1 : zZ) : Option (Int × zZ) := (d_X2_readItems_4 zF 0 1 s1).bind fun y15 => if (zr (y15.2.2 0 9) ∧ zr (y15.2.2 0 8)) then (if (y15.2.2 0 8) ≤ (y15.2.2 0 9) then some (y15.1, y15.2.2) else ((d_X2_wrongAt y15.2.2 (y15.2.2 0 9)).bind fun y18 => some (y15.1, y18))) else none
set_option maxRecDepth 20000 in
theorem l_X2_readItems_4 (r0 : List va_E) (r2 : List va_E) (r3 : List va_E) (r4 : List va_E) (r5 : List va_E) (r6 : List va_E) (r7 : List va_E) (r8 : List va_E) (r9 : List va_E) {r : Option Value} {hp1 : xH} : ∀ (uN : Nat) (it : Int) (go : Int) (s1 : zZ) {uX : Int × Int × zZ}, d_X2_readItems_4 uN it go s1 = some uX → (xBody MX2_readItems 3 54 [some (.ref 1024), some (.int (zI uX.1)), some (.int (zI uX.2.1))] [] ([r0, zH uX.2.2 zL1 0, r2, r3, r4, r5, r6, r7, r8, r9]) r hp1) → xBody MX2_readItems 3 4 [some (.ref 1024), some (.int (zI it)), some (.int (zI go))] [] ([r0, zH s1 zL1 0, r2, r3, r4, r5, r6, r7, r8, r9]) r hp1 := by
  intro uN
  induction uN with
  | zero => intro it go s1 uX H K; cases H
  | succ uN ih =>
    intro it go s1 uX H K
    unfold d_X2_readItems_4 at H
    refine xB.run oX2_readItems 1 (s := (5, [some (.ref 1024), some (.int (zI it)), some (.int (zI go))], [.int (zI go)], [r0, zH s1 zL1 0, r2, r3, r4, r5, r6, r7, r8, r9])) rfl ?_
    obtain ⟨g14, H⟩ := zgd H
    have H := zif H
    refine xB.brE oX2_readItems (P := go = 0) rfl (zc_eq (a := go) (b := 0) ⟨g14, by decide⟩) (fun h1 => ?_) (fun h1 => ?_)
    · have H := H.1 h1
      obtain rfl := Option.some.inj H
      exact K
    · have H := H.2 h1
      refine xB.run oX2_readItems 2 (s := (11, [some (.ref 1024), some (.int (zI it)), some (.int (zI go))], [.int (zI 8), .int (zI it)], [r0, zH s1 zL1 0, r2, r3, r4, r5, r6, r7, r8, r9])) rfl ?_
      obtain ⟨g13, H⟩ := zgd H
      have H := zif H
      refine xB.brE oX2_readItems (P := (8 : Int) ≤ it) rfl (zc_ge (a := it) (b := 8) ⟨g13, by decide⟩) (fun h2 => ?_) (fun h2 => ?_)
      · have H := H.1 h2
        obtain rfl := Option.some.inj H
        exact K
      · have H := H.2 h2
        refine xB.run oX2_readItems 2 (s := (16, [some (.ref 1024), some (.int (zI it)), some (.int (zI go))], [.int (zI it), .ref 1024], [r0, zH s1 zL1 0, r2, r3, r4, r5, r6, r7, r8, r9])) rfl ?_
        obtain ⟨y3, e4, H⟩ := zbd H
        refine xB.call oX2_readItems (M2 := MX2_readItem) rfl rfl ((t_X2_readItem r0 s1 r2 r3 r4 r5 r6 r7 r8 r9 it e4).deep (by decide : 2 ≤ 2)) ?_
        show xBody MX2_readItems 3 19 [some (.ref 1024), some (.int (zI it)), some (.int (zI go))] [] ([r0, zH y3 zL1 0, r2, r3, r4, r5, r6, r7, r8, r9]) _ _
        refine zB.inc oX2_readItems rfl (lv2 := [some (.ref 1024), some (.int (zI (it + 1))), some (.int (zI go))]) (zi_inc (a := 0) (zi_addp1 it) _ rfl) ?_
        refine xB.run oX2_readItems 3 (s := (27, [some (.ref 1024), some (.int (zI (it + 1))), some (.int (zI go))], [.int (zI (-1)), .int (zI (y3 0 10))], [r0, zH y3 zL1 0, r2, r3, r4, r5, r6, r7, r8, r9])) rfl ?_
        obtain ⟨g12, H⟩ := zgd H
        have H := zif H
        refine xB.brE oX2_readItems (P := (y3 0 10) ≠ (-1)) rfl (zc_ne (a := y3 0 10) (b := (-1)) ⟨g12, by decide⟩) (fun h5 => ?_) (fun h5 => ?_)
        · have H := H.1 h5
          refine xB.run oX2_readItems 3 (s := (4, [some (.ref 1024), some (.int (zI (it + 1))), some (.int (zI 0))], [], [r0, zH y3 zL1 0, r2, r3, r4, r5, r6, r7, r8, r9])) rfl ?_
          exact ih (it + 1) 0 y3 H K
        · have H := H.2 h5
          refine xB.run oX2_readItems 2 (s := (33, [some (.ref 1024), some (.int (zI (it + 1))), some (.int (zI go))], [.int (zI 8), .int (zI (it + 1))], [r0, zH y3 zL1 0, r2, r3, r4, r5, r6, r7, r8, r9])) rfl ?_
          obtain ⟨g11, H⟩ := zgd H
          have H := zif H
          refine xB.brE oX2_readItems (P := (8 : Int) ≤ (it + 1)) rfl (zc_ge (a := it + 1) (b := 8) ⟨g11, by decide⟩) (fun h6 => ?_) (fun h6 => ?_)
          · have H := H.1 h6
            refine xB.run oX2_readItems 3 (s := (4, [some (.ref 1024), some (.int (zI (it + 1))), some (.int (zI 0))], [], [r0, zH y3 zL1 0, r2, r3, r4, r5, r6, r7, r8, r9])) rfl ?_
            exact ih (it + 1) 0 y3 H K
          · have H := H.2 h6
            refine xB.run oX2_readItems 2 (s := (39, [some (.ref 1024), some (.int (zI (it + 1))), some (.int (zI go))], [.int (zI 59), .ref 1024], [r0, zH y3 zL1 0, r2, r3, r4, r5, r6, r7, r8, r9])) rfl ?_
            obtain ⟨y7, e8, H⟩ := zbd H
            refine xB.call oX2_readItems (M2 := MX2_stepOver) rfl rfl ((t_X2_stepOver r0 y3 r2 r3 r4 r5 r6 r7 r8 r9 59 e8).deep (by decide : 0 ≤ 2)) ?_
            show xBody MX2_readItems 3 42 [some (.ref 1024), some (.int (zI (it + 1))), some (.int (zI go))] [.int (zI y7.1)] ([r0, zH y7.2 zL1 0, r2, r3, r4, r5, r6, r7, r8, r9]) _ _
            obtain ⟨g10, H⟩ := zgd H
            have H := zif H
            refine xB.brE oX2_readItems (P := y7.1 = 0) rfl (zc_eq (a := y7.1) (b := 0) ⟨g10, by decide⟩) (fun h9 => ?_) (fun h9 => ?_)
            · have H := H.1 h9
              refine xB.run oX2_readItems 3 (s := (4, [some (.ref 1024), some (.int (zI (it + 1))), some (.int (zI 0))], [], [r0, zH y7.2 zL1 0, r2, r3, r4, r5, r6, r7, r8, r9])) rfl ?_
              exact ih (it + 1) 0 y7.2 H K
            · have H := H.2 h9
              refine xB.run oX2_readItems 4 (s := (4, [some (.ref 1024), some (.int (zI (it + 1))), some (.int (zI 1))], [], [r0, zH y7.2 zL1 0, r2, r3, r4, r5, r6, r7, r8, r9])) rfl ?_
              exact ih (it + 1) 1 y7.2 H K
set_option maxRecDepth 20000 in
theorem t_X2_readItems (r0 : List va_E) (s1 : zZ) (r2 : List va_E) (r3 : List va_E) (r4 : List va_E) (r5 : List va_E) (r6 : List va_E) (r7 : List va_E) (r8 : List va_E) (r9 : List va_E) {rr : Int × zZ} (H : d_X2_readItems s1 = some rr) : xC MX2_readItems 3 [.ref 1024] ([r0, zH s1 zL1 0, r2, r3, r4, r5, r6, r7, r8, r9]) (some (.int (zI rr.1))) ([r0, zH rr.2 zL1 0, r2, r3, r4, r5, r6, r7, r8, r9]) := by
  refine ⟨Nat.le_of_ble_eq_true rfl, ?_⟩
  show xBody MX2_readItems 3 0 [some (.ref 1024), none, none] [] ([r0, zH s1 zL1 0, r2, r3, r4, r5, r6, r7, r8, r9]) _ _
  unfold d_X2_readItems at H
  refine xB.run oX2_readItems 4 (s := (4, [some (.ref 1024), some (.int (zI 0)), some (.int (zI 1))], [], [r0, zH s1 zL1 0, r2, r3, r4, r5, r6, r7, r8, r9])) rfl ?_
  obtain ⟨y15, e16, H⟩ := zbd H
  refine l_X2_readItems_4 r0 r2 r3 r4 r5 r6 r7 r8 r9  _ 0 1 s1 e16 ?_
  refine xB.run oX2_readItems 4 (s := (62, [some (.ref 1024), some (.int (zI y15.1)), some (.int (zI y15.2.1))], [.int (zI (y15.2.2 0 8)), .int (zI (y15.2.2 0 9))], [r0, zH y15.2.2 zL1 0, r2, r3, r4, r5, r6, r7, r8, r9])) rfl ?_
  obtain ⟨g20, H⟩ := zgd H
  have H := zif H
  refine xB.brE oX2_readItems (P := (y15.2.2 0 8) ≤ (y15.2.2 0 9)) rfl (zc_ge (a := y15.2.2 0 9) (b := y15.2.2 0 8) g20) (fun h17 => ?_) (fun h17 => ?_)
  · have H := H.1 h17
    refine xB.run oX2_readItems 1 (s := (74, [some (.ref 1024), some (.int (zI y15.1)), some (.int (zI y15.2.1))], [.int (zI y15.1)], [r0, zH y15.2.2 zL1 0, r2, r3, r4, r5, r6, r7, r8, r9])) rfl ?_
    obtain rfl := Option.some.inj H
    exact xB.ret oX2_readItems (r1 := some (.int (zI y15.1))) rfl rfl rfl
  · have H := H.2 h17
    refine xB.run oX2_readItems 3 (s := (70, [some (.ref 1024), some (.int (zI y15.1)), some (.int (zI y15.2.1))], [.int (zI (y15.2.2 0 9)), .ref 1024], [r0, zH y15.2.2 zL1 0, r2, r3, r4, r5, r6, r7, r8, r9])) rfl ?_
    obtain ⟨y18, e19, H⟩ := zbd H
    refine xB.call oX2_readItems (M2 := MX2_wrongAt) rfl rfl ((t_X2_wrongAt r0 y15.2.2 r2 r3 r4 r5 r6 r7 r8 r9 (y15.2.2 0 9) e19).deep (by decide : 0 ≤ 2)) ?_
    show xBody MX2_readItems 3 73 [some (.ref 1024), some (.int (zI y15.1)), some (.int (zI y15.2.1))] [] ([r0, zH y18 zL1 0, r2, r3, r4, r5, r6, r7, r8, r9]) _ _
    refine xB.run oX2_readItems 1 (s := (74, [some (.ref 1024), some (.int (zI y15.1)), some (.int (zI y15.2.1))], [.int (zI y15.1)], [r0, zH y18 zL1 0, r2, r3, r4, r5, r6, r7, r8, r9])) rfl ?_
    obtain rfl := Option.some.inj H
    exact xB.ret oX2_readItems (r1 := some (.int (zI y15.1))) rfl rfl rfl
def d_X2_becomeText_47 (cn : Int) (it : Int) : Nat → Int → zZ → Option (Int × zZ)
  | 0, _, _ => none
  | uN + 1, p, s1 => if (zr p ∧ zr it) then (if it ≤ p then some (p, s1) else (if (0 ≤ p ∧ p < 8) then (if (0 ≤ p ∧ p < 8) then (if (0 ≤ p ∧ p < 8) then (if (0 ≤ p ∧ p < 8) then (if (0 ≤ p ∧ p < 8) then (if (0 ≤ p ∧ p < 8) then (d_X2_becomeText_47 cn it uN (p + 1) (upz (upz (upz s1 1 p.toNat (s1 5 p.toNat)) 2 p.toNat ((upz s1 1 p.toNat (s1 5 p.toNat)) 6 p.toNat)) 3 p.toNat ((upz (upz s1 1 p.toNat (s1 5 p.toNat)) 2 p.toNat ((upz s1 1 p.toNat (s1 5 p.toNat)) 6 p.toNat)) 7 p.toNat))) else none) else none) else none) else none) else none) else none)) else none
def d_X2_becomeText (s1 : zZ) (cn : Int) : Option (Int × zZ) := (d_J9_min_7cf53 cn 60).bind fun y1 => (d_J9_max_7cf53 0 y1).bind fun y3 => (d_X2_readItems (upz (upz (upz s1 0 8 y3) 0 9 0) 0 10 (-1))).bind fun y5 => if (zr (y5.2 0 10)) then (if (y5.2 0 10) = (-1) then ((d_X2_becomeText_47 cn y5.1 zF 0 y5.2).bind fun y16 => some ((upz y16.2 0 3 y5.1) 0 3, upz y16.2 0 3 y5.1)) else some ((-100) - (y5.2 0 10), y5.2)) else none
set_option maxRecDepth 20000 in
theorem l_X2_becomeText_47 (r0 : List va_E) (r2 : List va_E) (r3 : List va_E) (r4 : List va_E) (r5 : List va_E) (r6 : List va_E) (r7 : List va_E) (r8 : List va_E) (r9 : List va_E) (cn : Int) (it : Int) {r : Option Value} {hp1 : xH} : ∀ (uN : Nat) (p : Int) (s1 : zZ) {uX : Int × zZ}, d_X2_becomeText_47 cn it uN p s1 = some uX → (xBody MX2_becomeText 4 94 [some (.ref 1024), some (.int (zI cn)), some (.int (zI it)), some (.int (zI uX.1))] [] ([r0, zH uX.2 zL1 0, r2, r3, r4, r5, r6, r7, r8, r9]) r hp1) → xBody MX2_becomeText 4 47 [some (.ref 1024), some (.int (zI cn)), some (.int (zI it)), some (.int (zI p))] [] ([r0, zH s1 zL1 0, r2, r3, r4, r5, r6, r7, r8, r9]) r hp1 := by
  intro uN
  induction uN with
  | zero => intro p s1 uX H K; cases H
  | succ uN ih =>
    intro p s1 uX H K
    unfold d_X2_becomeText_47 at H
    refine xB.run oX2_becomeText 2 (s := (49, [some (.ref 1024), some (.int (zI cn)), some (.int (zI it)), some (.int (zI p))], [.int (zI it), .int (zI p)], [r0, zH s1 zL1 0, r2, r3, r4, r5, r6, r7, r8, r9])) rfl ?_
    obtain ⟨g15, H⟩ := zgd H
    have H := zif H
    refine xB.brE oX2_becomeText (P := it ≤ p) rfl (zc_ge (a := p) (b := it) g15) (fun h8 => ?_) (fun h8 => ?_)
    · have H := H.1 h8
      obtain rfl := Option.some.inj H
      exact K
    · have H := H.2 h8
      refine xB.run oX2_becomeText 6 (s := (62, [some (.ref 1024), some (.int (zI cn)), some (.int (zI it)), some (.int (zI p))], [.int (zI p), .ref 1029, .int (zI p), .ref 1025], [r0, zH s1 zL1 0, r2, r3, r4, r5, r6, r7, r8, r9])) rfl ?_
      obtain ⟨g14, H⟩ := zgd H
      refine zB.iald oX2_becomeText (g := 1) (p := 5) (N := 8) (i := p) rfl rfl (by decide) rfl rfl (by decide) g14 ?_
      obtain ⟨g13, H⟩ := zgd H
      refine zB.iast oX2_becomeText (g := 1) (p := 1) (N := 8) (i := p) (hp1 := [r0, zH (upz s1 1 p.toNat (s1 5 p.toNat)) zL1 0, r2, r3, r4, r5, r6, r7, r8, r9]) rfl rfl (by decide) (by decide) rfl rfl (by decide) g13 rfl ?_
      refine xB.run oX2_becomeText 6 (s := (74, [some (.ref 1024), some (.int (zI cn)), some (.int (zI it)), some (.int (zI p))], [.int (zI p), .ref 1030, .int (zI p), .ref 1026], [r0, zH (upz s1 1 p.toNat (s1 5 p.toNat)) zL1 0, r2, r3, r4, r5, r6, r7, r8, r9])) rfl ?_
      obtain ⟨g12, H⟩ := zgd H
      refine zB.iald oX2_becomeText (g := 1) (p := 6) (N := 8) (i := p) rfl rfl (by decide) rfl rfl (by decide) g12 ?_
      obtain ⟨g11, H⟩ := zgd H
      refine zB.iast oX2_becomeText (g := 1) (p := 2) (N := 8) (i := p) (hp1 := [r0, zH (upz (upz s1 1 p.toNat (s1 5 p.toNat)) 2 p.toNat ((upz s1 1 p.toNat (s1 5 p.toNat)) 6 p.toNat)) zL1 0, r2, r3, r4, r5, r6, r7, r8, r9]) rfl rfl (by decide) (by decide) rfl rfl (by decide) g11 rfl ?_
      refine xB.run oX2_becomeText 6 (s := (86, [some (.ref 1024), some (.int (zI cn)), some (.int (zI it)), some (.int (zI p))], [.int (zI p), .ref 1031, .int (zI p), .ref 1027], [r0, zH (upz (upz s1 1 p.toNat (s1 5 p.toNat)) 2 p.toNat ((upz s1 1 p.toNat (s1 5 p.toNat)) 6 p.toNat)) zL1 0, r2, r3, r4, r5, r6, r7, r8, r9])) rfl ?_
      obtain ⟨g10, H⟩ := zgd H
      refine zB.iald oX2_becomeText (g := 1) (p := 7) (N := 8) (i := p) rfl rfl (by decide) rfl rfl (by decide) g10 ?_
      obtain ⟨g9, H⟩ := zgd H
      refine zB.iast oX2_becomeText (g := 1) (p := 3) (N := 8) (i := p) (hp1 := [r0, zH (upz (upz (upz s1 1 p.toNat (s1 5 p.toNat)) 2 p.toNat ((upz s1 1 p.toNat (s1 5 p.toNat)) 6 p.toNat)) 3 p.toNat ((upz (upz s1 1 p.toNat (s1 5 p.toNat)) 2 p.toNat ((upz s1 1 p.toNat (s1 5 p.toNat)) 6 p.toNat)) 7 p.toNat)) zL1 0, r2, r3, r4, r5, r6, r7, r8, r9]) rfl rfl (by decide) (by decide) rfl rfl (by decide) g9 rfl ?_
      refine zB.inc oX2_becomeText rfl (lv2 := [some (.ref 1024), some (.int (zI cn)), some (.int (zI it)), some (.int (zI (p + 1)))]) (zi_inc (a := 0) (zi_addp1 p) _ rfl) ?_
      refine xB.run oX2_becomeText 1 (s := (47, [some (.ref 1024), some (.int (zI cn)), some (.int (zI it)), some (.int (zI (p + 1)))], [], [r0, zH (upz (upz (upz s1 1 p.toNat (s1 5 p.toNat)) 2 p.toNat ((upz s1 1 p.toNat (s1 5 p.toNat)) 6 p.toNat)) 3 p.toNat ((upz (upz s1 1 p.toNat (s1 5 p.toNat)) 2 p.toNat ((upz s1 1 p.toNat (s1 5 p.toNat)) 6 p.toNat)) 7 p.toNat)) zL1 0, r2, r3, r4, r5, r6, r7, r8, r9])) rfl ?_
      exact ih (p + 1) (upz (upz (upz s1 1 p.toNat (s1 5 p.toNat)) 2 p.toNat ((upz s1 1 p.toNat (s1 5 p.toNat)) 6 p.toNat)) 3 p.toNat ((upz (upz s1 1 p.toNat (s1 5 p.toNat)) 2 p.toNat ((upz s1 1 p.toNat (s1 5 p.toNat)) 6 p.toNat)) 7 p.toNat)) H K
set_option maxRecDepth 20000 in
theorem t_X2_becomeText (r0 : List va_E) (s1 : zZ) (r2 : List va_E) (r3 : List va_E) (r4 : List va_E) (r5 : List va_E) (r6 : List va_E) (r7 : List va_E) (r8 : List va_E) (r9 : List va_E) (cn : Int) {rr : Int × zZ} (H : d_X2_becomeText s1 cn = some rr) : xC MX2_becomeText 4 [.ref 1024, .int (zI cn)] ([r0, zH s1 zL1 0, r2, r3, r4, r5, r6, r7, r8, r9]) (some (.int (zI rr.1))) ([r0, zH rr.2 zL1 0, r2, r3, r4, r5, r6, r7, r8, r9]) := by
  refine ⟨Nat.le_of_ble_eq_true rfl, ?_⟩
  show xBody MX2_becomeText 4 0 [some (.ref 1024), some (.int (zI cn)), none, none] [] ([r0, zH s1 zL1 0, r2, r3, r4, r5, r6, r7, r8, r9]) _ _
  unfold d_X2_becomeText at H
  refine xB.run oX2_becomeText 4 (s := (5, [some (.ref 1024), some (.int (zI cn)), none, none], [.int (zI 60), .int (zI cn), .int (zI 0), .ref 1024], [r0, zH s1 zL1 0, r2, r3, r4, r5, r6, r7, r8, r9])) rfl ?_
  obtain ⟨y1, e2, H⟩ := zbd H
  refine xB.call oX2_becomeText (M2 := MJ9_min_7cf53) rfl rfl ((t_J9_min_7cf53 r0 (zH s1 zL1 0) r2 r3 r4 r5 r6 r7 r8 r9 cn 60 e2).deep (by decide : 0 ≤ 3)) ?_
  show xBody MX2_becomeText 4 8 [some (.ref 1024), some (.int (zI cn)), none, none] [.int (zI y1), .int (zI 0), .ref 1024] ([r0, zH s1 zL1 0, r2, r3, r4, r5, r6, r7, r8, r9]) _ _
  obtain ⟨y3, e4, H⟩ := zbd H
  refine xB.call oX2_becomeText (M2 := MJ9_max_7cf53) rfl rfl ((t_J9_max_7cf53 r0 (zH s1 zL1 0) r2 r3 r4 r5 r6 r7 r8 r9 0 y1 e4).deep (by decide : 0 ≤ 3)) ?_
  show xBody MX2_becomeText 4 11 [some (.ref 1024), some (.int (zI cn)), none, none] [.int (zI y3), .ref 1024] ([r0, zH s1 zL1 0, r2, r3, r4, r5, r6, r7, r8, r9]) _ _
  refine zB.putI oX2_becomeText (g := 1) (p := 0) (c := 2) (k := 8) (y := 0) (hp1 := [r0, zH (upz s1 0 8 y3) zL1 0, r2, r3, r4, r5, r6, r7, r8, r9]) rfl rfl (by decide) (by decide) rfl rfl rfl rfl rfl rfl ?_
  refine xB.run oX2_becomeText 2 (s := (16, [some (.ref 1024), some (.int (zI cn)), none, none], [.int (zI 0), .ref 1024], [r0, zH (upz s1 0 8 y3) zL1 0, r2, r3, r4, r5, r6, r7, r8, r9])) rfl ?_
  refine zB.putI oX2_becomeText (g := 1) (p := 0) (c := 2) (k := 9) (y := 0) (hp1 := [r0, zH (upz (upz s1 0 8 y3) 0 9 0) zL1 0, r2, r3, r4, r5, r6, r7, r8, r9]) rfl rfl (by decide) (by decide) rfl rfl rfl rfl rfl rfl ?_
  refine xB.run oX2_becomeText 2 (s := (21, [some (.ref 1024), some (.int (zI cn)), none, none], [.int (zI (-1)), .ref 1024], [r0, zH (upz (upz s1 0 8 y3) 0 9 0) zL1 0, r2, r3, r4, r5, r6, r7, r8, r9])) rfl ?_
  refine zB.putI oX2_becomeText (g := 1) (p := 0) (c := 2) (k := 10) (y := 0) (hp1 := [r0, zH (upz (upz (upz s1 0 8 y3) 0 9 0) 0 10 (-1)) zL1 0, r2, r3, r4, r5, r6, r7, r8, r9]) rfl rfl (by decide) (by decide) rfl rfl rfl rfl rfl rfl ?_
  refine xB.run oX2_becomeText 1 (s := (25, [some (.ref 1024), some (.int (zI cn)), none, none], [.ref 1024], [r0, zH (upz (upz (upz s1 0 8 y3) 0 9 0) 0 10 (-1)) zL1 0, r2, r3, r4, r5, r6, r7, r8, r9])) rfl ?_
  obtain ⟨y5, e6, H⟩ := zbd H
  refine xB.call oX2_becomeText (M2 := MX2_readItems) rfl rfl ((t_X2_readItems r0 (upz (upz (upz s1 0 8 y3) 0 9 0) 0 10 (-1)) r2 r3 r4 r5 r6 r7 r8 r9  e6).deep (by decide : 3 ≤ 3)) ?_
  show xBody MX2_becomeText 4 28 [some (.ref 1024), some (.int (zI cn)), none, none] [.int (zI y5.1)] ([r0, zH y5.2 zL1 0, r2, r3, r4, r5, r6, r7, r8, r9]) _ _
  refine xB.run oX2_becomeText 4 (s := (34, [some (.ref 1024), some (.int (zI cn)), some (.int (zI y5.1)), none], [.int (zI (-1)), .int (zI (y5.2 0 10))], [r0, zH y5.2 zL1 0, r2, r3, r4, r5, r6, r7, r8, r9])) rfl ?_
  obtain ⟨g18, H⟩ := zgd H
  have H := zif H
  refine xB.brE oX2_becomeText (P := (y5.2 0 10) = (-1)) rfl (zc_eq (a := y5.2 0 10) (b := (-1)) ⟨g18, by decide⟩) (fun h7 => ?_) (fun h7 => ?_)
  · have H := H.1 h7
    refine xB.run oX2_becomeText 2 (s := (47, [some (.ref 1024), some (.int (zI cn)), some (.int (zI y5.1)), some (.int (zI 0))], [], [r0, zH y5.2 zL1 0, r2, r3, r4, r5, r6, r7, r8, r9])) rfl ?_
    obtain ⟨y16, e17, H⟩ := zbd H
    refine l_X2_becomeText_47 r0 r2 r3 r4 r5 r6 r7 r8 r9 cn y5.1 _ 0 y5.2 e17 ?_
    refine xB.run oX2_becomeText 2 (s := (96, [some (.ref 1024), some (.int (zI cn)), some (.int (zI y5.1)), some (.int (zI y16.1))], [.int (zI y5.1), .ref 1024], [r0, zH y16.2 zL1 0, r2, r3, r4, r5, r6, r7, r8, r9])) rfl ?_
    refine zB.putI oX2_becomeText (g := 1) (p := 0) (c := 2) (k := 3) (y := 0) (hp1 := [r0, zH (upz y16.2 0 3 y5.1) zL1 0, r2, r3, r4, r5, r6, r7, r8, r9]) rfl rfl (by decide) (by decide) rfl rfl rfl rfl rfl rfl ?_
    refine xB.run oX2_becomeText 2 (s := (103, [some (.ref 1024), some (.int (zI cn)), some (.int (zI y5.1)), some (.int (zI y16.1))], [.int (zI ((upz y16.2 0 3 y5.1) 0 3))], [r0, zH (upz y16.2 0 3 y5.1) zL1 0, r2, r3, r4, r5, r6, r7, r8, r9])) rfl ?_
    obtain rfl := Option.some.inj H
    exact xB.ret oX2_becomeText (r1 := some (.int (zI ((upz y16.2 0 3 y5.1) 0 3)))) rfl rfl rfl
  · have H := H.2 h7
    refine xB.run oX2_becomeText 3 (s := (43, [some (.ref 1024), some (.int (zI cn)), some (.int (zI y5.1)), none], [.int (zI (y5.2 0 10)), .int (zI (-100))], [r0, zH y5.2 zL1 0, r2, r3, r4, r5, r6, r7, r8, r9])) rfl ?_
    refine zB.opi oX2_becomeText rfl (zi_sub (-100) (y5.2 0 10)) ?_
    obtain rfl := Option.some.inj H
    exact xB.ret oX2_becomeText (r1 := some (.int (zI ((-100) - (y5.2 0 10))))) rfl rfl rfl
def d_X2_weightDownTo_4 (s1 : zZ) (p : Int) : Nat → Int → Int → Option (Int × Int)
  | 0, _, _ => none
  | uN + 1, x, k => if (zr k ∧ zr p) then (if p < k then some (x, k) else (if (zr k ∧ zr (s1 0 3)) then (if (s1 0 3) ≤ k then some (x, k) else (if (0 ≤ k ∧ k < 8) then (d_X2_weightDownTo_4 s1 p uN (x + (s1 3 k.toNat)) (k + 1)) else none)) else none)) else none
def d_X2_weightDownTo (s1 : zZ) (p : Int) : Option (Int) := (d_X2_weightDownTo_4 s1 p zF 0 0).bind fun y6 => some y6.1
set_option maxRecDepth 20000 in
theorem l_X2_weightDownTo_4 (r0 : List va_E) (s1 : zZ) (r2 : List va_E) (r3 : List va_E) (r4 : List va_E) (r5 : List va_E) (r6 : List va_E) (r7 : List va_E) (r8 : List va_E) (r9 : List va_E) (p : Int) {r : Option Value} {hp1 : xH} : ∀ (uN : Nat) (x : Int) (k : Int) {uX : Int × Int}, d_X2_weightDownTo_4 s1 p uN x k = some uX → (xBody MX2_weightDownTo 0 32 [some (.ref 1024), some (.int (zI p)), some (.int (zI uX.1)), some (.int (zI uX.2))] [] ([r0, zH s1 zL1 0, r2, r3, r4, r5, r6, r7, r8, r9]) r hp1) → xBody MX2_weightDownTo 0 4 [some (.ref 1024), some (.int (zI p)), some (.int (zI x)), some (.int (zI k))] [] ([r0, zH s1 zL1 0, r2, r3, r4, r5, r6, r7, r8, r9]) r hp1 := by
  intro uN
  induction uN with
  | zero => intro x k uX H K; cases H
  | succ uN ih =>
    intro x k uX H K
    unfold d_X2_weightDownTo_4 at H
    refine xB.run oX2_weightDownTo 2 (s := (6, [some (.ref 1024), some (.int (zI p)), some (.int (zI x)), some (.int (zI k))], [.int (zI p), .int (zI k)], [r0, zH s1 zL1 0, r2, r3, r4, r5, r6, r7, r8, r9])) rfl ?_
    obtain ⟨g5, H⟩ := zgd H
    have H := zif H
    refine xB.brE oX2_weightDownTo (P := p < k) rfl (zc_gt (a := k) (b := p) g5) (fun h1 => ?_) (fun h1 => ?_)
    · have H := H.1 h1
      obtain rfl := Option.some.inj H
      exact K
    · have H := H.2 h1
      refine xB.run oX2_weightDownTo 3 (s := (14, [some (.ref 1024), some (.int (zI p)), some (.int (zI x)), some (.int (zI k))], [.int (zI (s1 0 3)), .int (zI k)], [r0, zH s1 zL1 0, r2, r3, r4, r5, r6, r7, r8, r9])) rfl ?_
      obtain ⟨g4, H⟩ := zgd H
      have H := zif H
      refine xB.brE oX2_weightDownTo (P := (s1 0 3) ≤ k) rfl (zc_ge (a := k) (b := s1 0 3) g4) (fun h2 => ?_) (fun h2 => ?_)
      · have H := H.1 h2
        obtain rfl := Option.some.inj H
        exact K
      · have H := H.2 h2
        refine xB.run oX2_weightDownTo 4 (s := (23, [some (.ref 1024), some (.int (zI p)), some (.int (zI x)), some (.int (zI k))], [.int (zI k), .ref 1027, .int (zI x)], [r0, zH s1 zL1 0, r2, r3, r4, r5, r6, r7, r8, r9])) rfl ?_
        obtain ⟨g3, H⟩ := zgd H
        refine zB.iald oX2_weightDownTo (g := 1) (p := 3) (N := 8) (i := k) rfl rfl (by decide) rfl rfl (by decide) g3 ?_
        refine zB.opi oX2_weightDownTo rfl (zi_add x (s1 3 k.toNat)) ?_
        refine xB.run oX2_weightDownTo 1 (s := (26, [some (.ref 1024), some (.int (zI p)), some (.int (zI (x + (s1 3 k.toNat)))), some (.int (zI k))], [], [r0, zH s1 zL1 0, r2, r3, r4, r5, r6, r7, r8, r9])) rfl ?_
        refine zB.inc oX2_weightDownTo rfl (lv2 := [some (.ref 1024), some (.int (zI p)), some (.int (zI (x + (s1 3 k.toNat)))), some (.int (zI (k + 1)))]) (zi_inc (a := 0) (zi_addp1 k) _ rfl) ?_
        refine xB.run oX2_weightDownTo 1 (s := (4, [some (.ref 1024), some (.int (zI p)), some (.int (zI (x + (s1 3 k.toNat)))), some (.int (zI (k + 1)))], [], [r0, zH s1 zL1 0, r2, r3, r4, r5, r6, r7, r8, r9])) rfl ?_
        exact ih (x + (s1 3 k.toNat)) (k + 1) H K
set_option maxRecDepth 20000 in
theorem t_X2_weightDownTo (r0 : List va_E) (s1 : zZ) (r2 : List va_E) (r3 : List va_E) (r4 : List va_E) (r5 : List va_E) (r6 : List va_E) (r7 : List va_E) (r8 : List va_E) (r9 : List va_E) (p : Int) {rr : Int} (H : d_X2_weightDownTo s1 p = some rr) : xC MX2_weightDownTo 0 [.ref 1024, .int (zI p)] ([r0, zH s1 zL1 0, r2, r3, r4, r5, r6, r7, r8, r9]) (some (.int (zI rr))) ([r0, zH s1 zL1 0, r2, r3, r4, r5, r6, r7, r8, r9]) := by
  refine ⟨Nat.le_of_ble_eq_true rfl, ?_⟩
  show xBody MX2_weightDownTo 0 0 [some (.ref 1024), some (.int (zI p)), none, none] [] ([r0, zH s1 zL1 0, r2, r3, r4, r5, r6, r7, r8, r9]) _ _
  unfold d_X2_weightDownTo at H
  refine xB.run oX2_weightDownTo 4 (s := (4, [some (.ref 1024), some (.int (zI p)), some (.int (zI 0)), some (.int (zI 0))], [], [r0, zH s1 zL1 0, r2, r3, r4, r5, r6, r7, r8, r9])) rfl ?_
  obtain ⟨y6, e7, H⟩ := zbd H
  refine l_X2_weightDownTo_4 r0 s1 r2 r3 r4 r5 r6 r7 r8 r9 p _ 0 0 e7 ?_
  refine xB.run oX2_weightDownTo 1 (s := (33, [some (.ref 1024), some (.int (zI p)), some (.int (zI y6.1)), some (.int (zI y6.2))], [.int (zI y6.1)], [r0, zH s1 zL1 0, r2, r3, r4, r5, r6, r7, r8, r9])) rfl ?_
  obtain rfl := Option.some.inj H
  exact xB.ret oX2_weightDownTo (r1 := some (.int (zI y6.1))) rfl rfl rfl
def d_X2_squareOf (s1 : zZ) (p : Int) : Option (Int) := if (0 ≤ p ∧ p < 8) then (if zr (s1 1 p.toNat) then (if (0 ≤ p ∧ p < 8) then (if zr (s1 1 p.toNat) then (if (0 ≤ p ∧ p < 8) then (if zr (s1 2 p.toNat) then (if (0 ≤ p ∧ p < 8) then (if zr (s1 2 p.toNat) then some (((s1 1 p.toNat) * (s1 1 p.toNat)) + ((s1 2 p.toNat) * (s1 2 p.toNat))) else none) else none) else none) else none) else none) else none) else none) else none
set_option maxRecDepth 20000 in
theorem t_X2_squareOf (r0 : List va_E) (s1 : zZ) (r2 : List va_E) (r3 : List va_E) (r4 : List va_E) (r5 : List va_E) (r6 : List va_E) (r7 : List va_E) (r8 : List va_E) (r9 : List va_E) (p : Int) {rr : Int} (H : d_X2_squareOf s1 p = some rr) : xC MX2_squareOf 0 [.ref 1024, .int (zI p)] ([r0, zH s1 zL1 0, r2, r3, r4, r5, r6, r7, r8, r9]) (some (.long (zJ rr))) ([r0, zH s1 zL1 0, r2, r3, r4, r5, r6, r7, r8, r9]) := by
  refine ⟨Nat.le_of_ble_eq_true rfl, ?_⟩
  show xBody MX2_squareOf 0 0 [some (.ref 1024), some (.int (zI p))] [] ([r0, zH s1 zL1 0, r2, r3, r4, r5, r6, r7, r8, r9]) _ _
  unfold d_X2_squareOf at H
  refine xB.run oX2_squareOf 3 (s := (5, [some (.ref 1024), some (.int (zI p))], [.int (zI p), .ref 1025], [r0, zH s1 zL1 0, r2, r3, r4, r5, r6, r7, r8, r9])) rfl ?_
  obtain ⟨g8, H⟩ := zgd H
  refine zB.iald oX2_squareOf (g := 1) (p := 1) (N := 8) (i := p) rfl rfl (by decide) rfl rfl (by decide) g8 ?_
  obtain ⟨g7, H⟩ := zgd H
  refine zB.opl oX2_squareOf rfl (zi_i2l g7) ?_
  refine xB.run oX2_squareOf 3 (s := (12, [some (.ref 1024), some (.int (zI p))], [.int (zI p), .ref 1025, .long (zJ (s1 1 p.toNat))], [r0, zH s1 zL1 0, r2, r3, r4, r5, r6, r7, r8, r9])) rfl ?_
  obtain ⟨g6, H⟩ := zgd H
  refine zB.iald oX2_squareOf (g := 1) (p := 1) (N := 8) (i := p) rfl rfl (by decide) rfl rfl (by decide) g6 ?_
  obtain ⟨g5, H⟩ := zgd H
  refine zB.opl oX2_squareOf rfl (zi_i2l g5) ?_
  refine zB.opl oX2_squareOf rfl (zj_mul (s1 1 p.toNat) (s1 1 p.toNat)) ?_
  refine xB.run oX2_squareOf 3 (s := (20, [some (.ref 1024), some (.int (zI p))], [.int (zI p), .ref 1026, .long (zJ ((s1 1 p.toNat) * (s1 1 p.toNat)))], [r0, zH s1 zL1 0, r2, r3, r4, r5, r6, r7, r8, r9])) rfl ?_
  obtain ⟨g4, H⟩ := zgd H
  refine zB.iald oX2_squareOf (g := 1) (p := 2) (N := 8) (i := p) rfl rfl (by decide) rfl rfl (by decide) g4 ?_
  obtain ⟨g3, H⟩ := zgd H
  refine zB.opl oX2_squareOf rfl (zi_i2l g3) ?_
  refine xB.run oX2_squareOf 3 (s := (27, [some (.ref 1024), some (.int (zI p))], [.int (zI p), .ref 1026, .long (zJ (s1 2 p.toNat)), .long (zJ ((s1 1 p.toNat) * (s1 1 p.toNat)))], [r0, zH s1 zL1 0, r2, r3, r4, r5, r6, r7, r8, r9])) rfl ?_
  obtain ⟨g2, H⟩ := zgd H
  refine zB.iald oX2_squareOf (g := 1) (p := 2) (N := 8) (i := p) rfl rfl (by decide) rfl rfl (by decide) g2 ?_
  obtain ⟨g1, H⟩ := zgd H
  refine zB.opl oX2_squareOf rfl (zi_i2l g1) ?_
  refine zB.opl oX2_squareOf rfl (zj_mul (s1 2 p.toNat) (s1 2 p.toNat)) ?_
  refine zB.opl oX2_squareOf rfl (zj_add ((s1 1 p.toNat) * (s1 1 p.toNat)) ((s1 2 p.toNat) * (s1 2 p.toNat))) ?_
  obtain rfl := Option.some.inj H
  exact xB.ret oX2_squareOf (r1 := some (.long (zJ (((s1 1 p.toNat) * (s1 1 p.toNat)) + ((s1 2 p.toNat) * (s1 2 p.toNat)))))) rfl rfl rfl
def d_X2_pushAlong (s1 : zZ) (p : Int) : Option (Int) := (d_X2_weightDownTo s1 p).bind fun y1 => if zr y1 then (if (0 ≤ p ∧ p < 8) then (if zr (s1 2 p.toNat) then (if (zrl (s1 2 p.toNat)) then (if (s1 2 p.toNat) ≠ 0 then ((d_X2_squareOf s1 p).bind fun y4 => if (zrl ((y1 * y1) * y4) ∧ ((s1 2 p.toNat) * (s1 2 p.toNat)) ≠ 0 ∧ zrl ((s1 2 p.toNat) * (s1 2 p.toNat))) then ((d_X11_wholeRoot (((y1 * y1) * y4).tdiv ((s1 2 p.toNat) * (s1 2 p.toNat)))).bind fun y6 => some y6) else none) else some 0) else none) else none) else none) else none
set_option maxRecDepth 20000 in
theorem t_X2_pushAlong (r0 : List va_E) (s1 : zZ) (r2 : List va_E) (r3 : List va_E) (r4 : List va_E) (r5 : List va_E) (r6 : List va_E) (r7 : List va_E) (r8 : List va_E) (r9 : List va_E) (p : Int) {rr : Int} (H : d_X2_pushAlong s1 p = some rr) : xC MX2_pushAlong 1 [.ref 1024, .int (zI p)] ([r0, zH s1 zL1 0, r2, r3, r4, r5, r6, r7, r8, r9]) (some (.int (zI rr))) ([r0, zH s1 zL1 0, r2, r3, r4, r5, r6, r7, r8, r9]) := by
  refine ⟨Nat.le_of_ble_eq_true rfl, ?_⟩
  show xBody MX2_pushAlong 1 0 [some (.ref 1024), some (.int (zI p)), none, none, none, none] [] ([r0, zH s1 zL1 0, r2, r3, r4, r5, r6, r7, r8, r9]) _ _
  unfold d_X2_pushAlong at H
  refine xB.run oX2_pushAlong 2 (s := (2, [some (.ref 1024), some (.int (zI p)), none, none, none, none], [.int (zI p), .ref 1024], [r0, zH s1 zL1 0, r2, r3, r4, r5, r6, r7, r8, r9])) rfl ?_
  obtain ⟨y1, e2, H⟩ := zbd H
  refine xB.call oX2_pushAlong (M2 := MX2_weightDownTo) rfl rfl ((t_X2_weightDownTo r0 s1 r2 r3 r4 r5 r6 r7 r8 r9 p e2).deep (by decide : 0 ≤ 0)) ?_
  show xBody MX2_pushAlong 1 5 [some (.ref 1024), some (.int (zI p)), none, none, none, none] [.int (zI y1)] ([r0, zH s1 zL1 0, r2, r3, r4, r5, r6, r7, r8, r9]) _ _
  obtain ⟨g12, H⟩ := zgd H
  refine zB.opl oX2_pushAlong rfl (zi_i2l g12) ?_
  refine xB.run oX2_pushAlong 4 (s := (12, [some (.ref 1024), some (.int (zI p)), some (.long (zJ y1)), none, none, none], [.int (zI p), .ref 1026], [r0, zH s1 zL1 0, r2, r3, r4, r5, r6, r7, r8, r9])) rfl ?_
  obtain ⟨g11, H⟩ := zgd H
  refine zB.iald oX2_pushAlong (g := 1) (p := 2) (N := 8) (i := p) rfl rfl (by decide) rfl rfl (by decide) g11 ?_
  obtain ⟨g10, H⟩ := zgd H
  refine zB.opl oX2_pushAlong rfl (zi_i2l g10) ?_
  refine xB.run oX2_pushAlong 4 (s := (20, [some (.ref 1024), some (.int (zI p)), some (.long (zJ y1)), none, some (.long (zJ (s1 2 p.toNat))), none], [.int (lg_cmp (zJ (s1 2 p.toNat)) (zJ 0))], [r0, zH s1 zL1 0, r2, r3, r4, r5, r6, r7, r8, r9])) rfl ?_
  obtain ⟨g9, H⟩ := zgd H
  have H := zif H
  refine xB.brE oX2_pushAlong (P := (s1 2 p.toNat) ≠ 0) rfl (zl_ne (a := s1 2 p.toNat) (b := 0) ⟨g9, by decide⟩) (fun h3 => ?_) (fun h3 => ?_)
  · have H := H.1 h3
    refine xB.run oX2_pushAlong 2 (s := (29, [some (.ref 1024), some (.int (zI p)), some (.long (zJ y1)), none, some (.long (zJ (s1 2 p.toNat))), none], [.long (zJ y1), .long (zJ y1)], [r0, zH s1 zL1 0, r2, r3, r4, r5, r6, r7, r8, r9])) rfl ?_
    refine zB.opl oX2_pushAlong rfl (zj_mul y1 y1) ?_
    refine xB.run oX2_pushAlong 2 (s := (32, [some (.ref 1024), some (.int (zI p)), some (.long (zJ y1)), none, some (.long (zJ (s1 2 p.toNat))), none], [.int (zI p), .ref 1024, .long (zJ (y1 * y1))], [r0, zH s1 zL1 0, r2, r3, r4, r5, r6, r7, r8, r9])) rfl ?_
    obtain ⟨y4, e5, H⟩ := zbd H
    refine xB.call oX2_pushAlong (M2 := MX2_squareOf) rfl rfl ((t_X2_squareOf r0 s1 r2 r3 r4 r5 r6 r7 r8 r9 p e5).deep (by decide : 0 ≤ 0)) ?_
    show xBody MX2_pushAlong 1 35 [some (.ref 1024), some (.int (zI p)), some (.long (zJ y1)), none, some (.long (zJ (s1 2 p.toNat))), none] [.long (zJ y4), .long (zJ (y1 * y1))] ([r0, zH s1 zL1 0, r2, r3, r4, r5, r6, r7, r8, r9]) _ _
    refine zB.opl oX2_pushAlong rfl (zj_mul (y1 * y1) y4) ?_
    refine xB.run oX2_pushAlong 2 (s := (40, [some (.ref 1024), some (.int (zI p)), some (.long (zJ y1)), none, some (.long (zJ (s1 2 p.toNat))), none], [.long (zJ (s1 2 p.toNat)), .long (zJ (s1 2 p.toNat)), .long (zJ ((y1 * y1) * y4))], [r0, zH s1 zL1 0, r2, r3, r4, r5, r6, r7, r8, r9])) rfl ?_
    refine zB.opl oX2_pushAlong rfl (zj_mul (s1 2 p.toNat) (s1 2 p.toNat)) ?_
    obtain ⟨g8, H⟩ := zgd H
    refine zB.divl oX2_pushAlong (b := (s1 2 p.toNat) * (s1 2 p.toNat)) rfl (zj_div ⟨g8.1, g8.2.2⟩) rfl g8.2 ?_
    obtain ⟨y6, e7, H⟩ := zbd H
    refine xB.call oX2_pushAlong (M2 := MX11_wholeRoot) rfl rfl ((t_X11_wholeRoot r0 (zH s1 zL1 0) r2 r3 r4 r5 r6 r7 r8 r9 (((y1 * y1) * y4).tdiv ((s1 2 p.toNat) * (s1 2 p.toNat))) e7).deep (by decide : 0 ≤ 0)) ?_
    show xBody MX2_pushAlong 1 45 [some (.ref 1024), some (.int (zI p)), some (.long (zJ y1)), none, some (.long (zJ (s1 2 p.toNat))), none] [.long (zJ y6)] ([r0, zH s1 zL1 0, r2, r3, r4, r5, r6, r7, r8, r9]) _ _
    refine zB.opi oX2_pushAlong rfl (zj_l2i y6) ?_
    obtain rfl := Option.some.inj H
    exact xB.ret oX2_pushAlong (r1 := some (.int (zI y6))) rfl rfl rfl
  · have H := H.2 h3
    refine xB.run oX2_pushAlong 2 (s := (46, [some (.ref 1024), some (.int (zI p)), some (.long (zJ y1)), none, some (.long (zJ (s1 2 p.toNat))), none], [.int (zI 0)], [r0, zH s1 zL1 0, r2, r3, r4, r5, r6, r7, r8, r9])) rfl ?_
    obtain rfl := Option.some.inj H
    exact xB.ret oX2_pushAlong (r1 := some (.int (zI 0))) rfl rfl rfl
def d_X2_lengthOf (s1 : zZ) (p : Int) : Option (Int) := (d_X2_squareOf s1 p).bind fun y1 => (d_X11_wholeRoot y1).bind fun y3 => some y3
set_option maxRecDepth 20000 in
theorem t_X2_lengthOf (r0 : List va_E) (s1 : zZ) (r2 : List va_E) (r3 : List va_E) (r4 : List va_E) (r5 : List va_E) (r6 : List va_E) (r7 : List va_E) (r8 : List va_E) (r9 : List va_E) (p : Int) {rr : Int} (H : d_X2_lengthOf s1 p = some rr) : xC MX2_lengthOf 1 [.ref 1024, .int (zI p)] ([r0, zH s1 zL1 0, r2, r3, r4, r5, r6, r7, r8, r9]) (some (.int (zI rr))) ([r0, zH s1 zL1 0, r2, r3, r4, r5, r6, r7, r8, r9]) := by
  refine ⟨Nat.le_of_ble_eq_true rfl, ?_⟩
  show xBody MX2_lengthOf 1 0 [some (.ref 1024), some (.int (zI p))] [] ([r0, zH s1 zL1 0, r2, r3, r4, r5, r6, r7, r8, r9]) _ _
  unfold d_X2_lengthOf at H
  refine xB.run oX2_lengthOf 2 (s := (2, [some (.ref 1024), some (.int (zI p))], [.int (zI p), .ref 1024], [r0, zH s1 zL1 0, r2, r3, r4, r5, r6, r7, r8, r9])) rfl ?_
  obtain ⟨y1, e2, H⟩ := zbd H
  refine xB.call oX2_lengthOf (M2 := MX2_squareOf) rfl rfl ((t_X2_squareOf r0 s1 r2 r3 r4 r5 r6 r7 r8 r9 p e2).deep (by decide : 0 ≤ 0)) ?_
  show xBody MX2_lengthOf 1 5 [some (.ref 1024), some (.int (zI p))] [.long (zJ y1)] ([r0, zH s1 zL1 0, r2, r3, r4, r5, r6, r7, r8, r9]) _ _
  obtain ⟨y3, e4, H⟩ := zbd H
  refine xB.call oX2_lengthOf (M2 := MX11_wholeRoot) rfl rfl ((t_X11_wholeRoot r0 (zH s1 zL1 0) r2 r3 r4 r5 r6 r7 r8 r9 y1 e4).deep (by decide : 0 ≤ 0)) ?_
  show xBody MX2_lengthOf 1 8 [some (.ref 1024), some (.int (zI p))] [.long (zJ y3)] ([r0, zH s1 zL1 0, r2, r3, r4, r5, r6, r7, r8, r9]) _ _
  refine zB.opi oX2_lengthOf rfl (zj_l2i y3) ?_
  obtain rfl := Option.some.inj H
  exact xB.ret oX2_lengthOf (r1 := some (.int (zI y3))) rfl rfl rfl
def d_X2_aboutPanel (s1 : zZ) (p : Int) (wh : Int) : Option (Int) := (d_X2_isPanel s1 p).bind fun y1 => if (zr y1) then (if y1 ≠ 0 then (if zr wh then (if wh = 0 then (if (0 ≤ p ∧ p < 8) then some (s1 1 p.toNat) else none) else (if wh = 1 then (if (0 ≤ p ∧ p < 8) then some (s1 2 p.toNat) else none) else (if wh = 2 then (if (0 ≤ p ∧ p < 8) then some (s1 3 p.toNat) else none) else (if wh = 3 then ((d_X2_weightDownTo s1 p).bind fun y12 => some y12) else (if wh = 4 then ((d_X2_pushAlong s1 p).bind fun y15 => some y15) else ((d_X2_lengthOf s1 p).bind fun y17 => some y17)))))) else none) else some (-1)) else none
set_option maxRecDepth 20000 in
theorem t_X2_aboutPanel (r0 : List va_E) (s1 : zZ) (r2 : List va_E) (r3 : List va_E) (r4 : List va_E) (r5 : List va_E) (r6 : List va_E) (r7 : List va_E) (r8 : List va_E) (r9 : List va_E) (p : Int) (wh : Int) {rr : Int} (H : d_X2_aboutPanel s1 p wh = some rr) : xC MX2_aboutPanel 2 [.ref 1024, .int (zI p), .int (zI wh)] ([r0, zH s1 zL1 0, r2, r3, r4, r5, r6, r7, r8, r9]) (some (.int (zI rr))) ([r0, zH s1 zL1 0, r2, r3, r4, r5, r6, r7, r8, r9]) := by
  refine ⟨Nat.le_of_ble_eq_true rfl, ?_⟩
  show xBody MX2_aboutPanel 2 0 [some (.ref 1024), some (.int (zI p)), some (.int (zI wh))] [] ([r0, zH s1 zL1 0, r2, r3, r4, r5, r6, r7, r8, r9]) _ _
  unfold d_X2_aboutPanel at H
  refine xB.run oX2_aboutPanel 2 (s := (2, [some (.ref 1024), some (.int (zI p)), some (.int (zI wh))], [.int (zI p), .ref 1024], [r0, zH s1 zL1 0, r2, r3, r4, r5, r6, r7, r8, r9])) rfl ?_
  obtain ⟨y1, e2, H⟩ := zbd H
  refine xB.call oX2_aboutPanel (M2 := MX2_isPanel) rfl rfl ((t_X2_isPanel r0 s1 r2 r3 r4 r5 r6 r7 r8 r9 p e2).deep (by decide : 0 ≤ 1)) ?_
  show xBody MX2_aboutPanel 2 5 [some (.ref 1024), some (.int (zI p)), some (.int (zI wh))] [.int (zI y1)] ([r0, zH s1 zL1 0, r2, r3, r4, r5, r6, r7, r8, r9]) _ _
  obtain ⟨g19, H⟩ := zgd H
  have H := zif H
  refine xB.brE oX2_aboutPanel (P := y1 ≠ 0) rfl (zc_ne (a := y1) (b := 0) ⟨g19, by decide⟩) (fun h3 => ?_) (fun h3 => ?_)
  · have H := H.1 h3
    refine xB.run oX2_aboutPanel 1 (s := (11, [some (.ref 1024), some (.int (zI p)), some (.int (zI wh))], [.int (zI wh)], [r0, zH s1 zL1 0, r2, r3, r4, r5, r6, r7, r8, r9])) rfl ?_
    obtain ⟨g4, H⟩ := zgd H
    have H := zif H
    by_cases h5 : wh = 0
    · have H := H.1 h5
      refine xB.next oX2_aboutPanel (s := (44, [some (.ref 1024), some (.int (zI p)), some (.int (zI wh))], [], [r0, zH s1 zL1 0, r2, r3, r4, r5, r6, r7, r8, r9])) (xsw_at rfl (by rw [zsw g4 0 _ (by decide), if_pos (show wh = ((0 : Nat) : Int) from h5)])) ?_
      refine xB.run oX2_aboutPanel 3 (s := (49, [some (.ref 1024), some (.int (zI p)), some (.int (zI wh))], [.int (zI p), .ref 1025], [r0, zH s1 zL1 0, r2, r3, r4, r5, r6, r7, r8, r9])) rfl ?_
      obtain ⟨g6, H⟩ := zgd H
      refine zB.iald oX2_aboutPanel (g := 1) (p := 1) (N := 8) (i := p) rfl rfl (by decide) rfl rfl (by decide) g6 ?_
      obtain rfl := Option.some.inj H
      exact xB.ret oX2_aboutPanel (r1 := some (.int (zI (s1 1 p.toNat)))) rfl rfl rfl
    · have H := H.2 h5
      have H := zif H
      by_cases h7 : wh = 1
      · have H := H.1 h7
        refine xB.next oX2_aboutPanel (s := (51, [some (.ref 1024), some (.int (zI p)), some (.int (zI wh))], [], [r0, zH s1 zL1 0, r2, r3, r4, r5, r6, r7, r8, r9])) (xsw_at rfl (by rw [zsw g4 0 _ (by decide), if_neg (show ¬ wh = ((0 : Nat) : Int) from h5)]; rw [zsw g4 1 _ (by decide), if_pos (show wh = ((1 : Nat) : Int) from h7)])) ?_
        refine xB.run oX2_aboutPanel 3 (s := (56, [some (.ref 1024), some (.int (zI p)), some (.int (zI wh))], [.int (zI p), .ref 1026], [r0, zH s1 zL1 0, r2, r3, r4, r5, r6, r7, r8, r9])) rfl ?_
        obtain ⟨g8, H⟩ := zgd H
        refine zB.iald oX2_aboutPanel (g := 1) (p := 2) (N := 8) (i := p) rfl rfl (by decide) rfl rfl (by decide) g8 ?_
        obtain rfl := Option.some.inj H
        exact xB.ret oX2_aboutPanel (r1 := some (.int (zI (s1 2 p.toNat)))) rfl rfl rfl
      · have H := H.2 h7
        have H := zif H
        by_cases h9 : wh = 2
        · have H := H.1 h9
          refine xB.next oX2_aboutPanel (s := (58, [some (.ref 1024), some (.int (zI p)), some (.int (zI wh))], [], [r0, zH s1 zL1 0, r2, r3, r4, r5, r6, r7, r8, r9])) (xsw_at rfl (by rw [zsw g4 0 _ (by decide), if_neg (show ¬ wh = ((0 : Nat) : Int) from h5)]; rw [zsw g4 1 _ (by decide), if_neg (show ¬ wh = ((1 : Nat) : Int) from h7)]; rw [zsw g4 2 _ (by decide), if_pos (show wh = ((2 : Nat) : Int) from h9)])) ?_
          refine xB.run oX2_aboutPanel 3 (s := (63, [some (.ref 1024), some (.int (zI p)), some (.int (zI wh))], [.int (zI p), .ref 1027], [r0, zH s1 zL1 0, r2, r3, r4, r5, r6, r7, r8, r9])) rfl ?_
          obtain ⟨g10, H⟩ := zgd H
          refine zB.iald oX2_aboutPanel (g := 1) (p := 3) (N := 8) (i := p) rfl rfl (by decide) rfl rfl (by decide) g10 ?_
          obtain rfl := Option.some.inj H
          exact xB.ret oX2_aboutPanel (r1 := some (.int (zI (s1 3 p.toNat)))) rfl rfl rfl
        · have H := H.2 h9
          have H := zif H
          by_cases h11 : wh = 3
          · have H := H.1 h11
            refine xB.next oX2_aboutPanel (s := (65, [some (.ref 1024), some (.int (zI p)), some (.int (zI wh))], [], [r0, zH s1 zL1 0, r2, r3, r4, r5, r6, r7, r8, r9])) (xsw_at rfl (by rw [zsw g4 0 _ (by decide), if_neg (show ¬ wh = ((0 : Nat) : Int) from h5)]; rw [zsw g4 1 _ (by decide), if_neg (show ¬ wh = ((1 : Nat) : Int) from h7)]; rw [zsw g4 2 _ (by decide), if_neg (show ¬ wh = ((2 : Nat) : Int) from h9)]; rw [zsw g4 3 _ (by decide), if_pos (show wh = ((3 : Nat) : Int) from h11)])) ?_
            refine xB.run oX2_aboutPanel 2 (s := (67, [some (.ref 1024), some (.int (zI p)), some (.int (zI wh))], [.int (zI p), .ref 1024], [r0, zH s1 zL1 0, r2, r3, r4, r5, r6, r7, r8, r9])) rfl ?_
            obtain ⟨y12, e13, H⟩ := zbd H
            refine xB.call oX2_aboutPanel (M2 := MX2_weightDownTo) rfl rfl ((t_X2_weightDownTo r0 s1 r2 r3 r4 r5 r6 r7 r8 r9 p e13).deep (by decide : 0 ≤ 1)) ?_
            show xBody MX2_aboutPanel 2 70 [some (.ref 1024), some (.int (zI p)), some (.int (zI wh))] [.int (zI y12)] ([r0, zH s1 zL1 0, r2, r3, r4, r5, r6, r7, r8, r9]) _ _
            obtain rfl := Option.some.inj H
            exact xB.ret oX2_aboutPanel (r1 := some (.int (zI y12))) rfl rfl rfl
          · have H := H.2 h11
            have H := zif H
            by_cases h14 : wh = 4
            · have H := H.1 h14
              refine xB.next oX2_aboutPanel (s := (71, [some (.ref 1024), some (.int (zI p)), some (.int (zI wh))], [], [r0, zH s1 zL1 0, r2, r3, r4, r5, r6, r7, r8, r9])) (xsw_at rfl (by rw [zsw g4 0 _ (by decide), if_neg (show ¬ wh = ((0 : Nat) : Int) from h5)]; rw [zsw g4 1 _ (by decide), if_neg (show ¬ wh = ((1 : Nat) : Int) from h7)]; rw [zsw g4 2 _ (by decide), if_neg (show ¬ wh = ((2 : Nat) : Int) from h9)]; rw [zsw g4 3 _ (by decide), if_neg (show ¬ wh = ((3 : Nat) : Int) from h11)]; rw [zsw g4 4 _ (by decide), if_pos (show wh = ((4 : Nat) : Int) from h14)])) ?_
              refine xB.run oX2_aboutPanel 2 (s := (73, [some (.ref 1024), some (.int (zI p)), some (.int (zI wh))], [.int (zI p), .ref 1024], [r0, zH s1 zL1 0, r2, r3, r4, r5, r6, r7, r8, r9])) rfl ?_
              obtain ⟨y15, e16, H⟩ := zbd H
              refine xB.call oX2_aboutPanel (M2 := MX2_pushAlong) rfl rfl ((t_X2_pushAlong r0 s1 r2 r3 r4 r5 r6 r7 r8 r9 p e16).deep (by decide : 1 ≤ 1)) ?_
              show xBody MX2_aboutPanel 2 76 [some (.ref 1024), some (.int (zI p)), some (.int (zI wh))] [.int (zI y15)] ([r0, zH s1 zL1 0, r2, r3, r4, r5, r6, r7, r8, r9]) _ _
              obtain rfl := Option.some.inj H
              exact xB.ret oX2_aboutPanel (r1 := some (.int (zI y15))) rfl rfl rfl
            · have H := H.2 h14
              refine xB.next oX2_aboutPanel (s := (77, [some (.ref 1024), some (.int (zI p)), some (.int (zI wh))], [], [r0, zH s1 zL1 0, r2, r3, r4, r5, r6, r7, r8, r9])) (xsw_at rfl (by rw [zsw g4 0 _ (by decide), if_neg (show ¬ wh = ((0 : Nat) : Int) from h5)]; rw [zsw g4 1 _ (by decide), if_neg (show ¬ wh = ((1 : Nat) : Int) from h7)]; rw [zsw g4 2 _ (by decide), if_neg (show ¬ wh = ((2 : Nat) : Int) from h9)]; rw [zsw g4 3 _ (by decide), if_neg (show ¬ wh = ((3 : Nat) : Int) from h11)]; rw [zsw g4 4 _ (by decide), if_neg (show ¬ wh = ((4 : Nat) : Int) from h14)]; rfl)) ?_
              refine xB.run oX2_aboutPanel 2 (s := (79, [some (.ref 1024), some (.int (zI p)), some (.int (zI wh))], [.int (zI p), .ref 1024], [r0, zH s1 zL1 0, r2, r3, r4, r5, r6, r7, r8, r9])) rfl ?_
              obtain ⟨y17, e18, H⟩ := zbd H
              refine xB.call oX2_aboutPanel (M2 := MX2_lengthOf) rfl rfl ((t_X2_lengthOf r0 s1 r2 r3 r4 r5 r6 r7 r8 r9 p e18).deep (by decide : 1 ≤ 1)) ?_
              show xBody MX2_aboutPanel 2 82 [some (.ref 1024), some (.int (zI p)), some (.int (zI wh))] [.int (zI y17)] ([r0, zH s1 zL1 0, r2, r3, r4, r5, r6, r7, r8, r9]) _ _
              obtain rfl := Option.some.inj H
              exact xB.ret oX2_aboutPanel (r1 := some (.int (zI y17))) rfl rfl rfl
  · have H := H.2 h3
    refine xB.run oX2_aboutPanel 1 (s := (9, [some (.ref 1024), some (.int (zI p)), some (.int (zI wh))], [.int (zI (-1))], [r0, zH s1 zL1 0, r2, r3, r4, r5, r6, r7, r8, r9])) rfl ?_
    obtain rfl := Option.some.inj H
    exact xB.ret oX2_aboutPanel (r1 := some (.int (zI (-1)))) rfl rfl rfl
def d_X2_thrustOf (s1 : zZ) (p : Int) (wh : Int) : Option (Int) := (d_X2_isPanel s1 p).bind fun y1 => if (zr y1) then (if y1 = 0 then some (-9223372036854775808) else ((d_X2_weightDownTo s1 p).bind fun y4 => if zr y4 then (if (0 ≤ p ∧ p < 8) then (if zr (s1 1 p.toNat) then (if (0 ≤ p ∧ p < 8) then (if zr (s1 2 p.toNat) then ((d_X11_inLeastTerms (y4 * (s1 1 p.toNat)) (s1 2 p.toNat) wh).bind fun y6 => some y6) else none) else none) else none) else none) else none)) else none
set_option maxRecDepth 20000 in
theorem t_X2_thrustOf (r0 : List va_E) (s1 : zZ) (r2 : List va_E) (r3 : List va_E) (r4 : List va_E) (r5 : List va_E) (r6 : List va_E) (r7 : List va_E) (r8 : List va_E) (r9 : List va_E) (p : Int) (wh : Int) {rr : Int} (H : d_X2_thrustOf s1 p wh = some rr) : xC MX2_thrustOf 3 [.ref 1024, .int (zI p), .int (zI wh)] ([r0, zH s1 zL1 0, r2, r3, r4, r5, r6, r7, r8, r9]) (some (.long (zJ rr))) ([r0, zH s1 zL1 0, r2, r3, r4, r5, r6, r7, r8, r9]) := by
  refine ⟨Nat.le_of_ble_eq_true rfl, ?_⟩
  show xBody MX2_thrustOf 3 0 [some (.ref 1024), some (.int (zI p)), some (.int (zI wh))] [] ([r0, zH s1 zL1 0, r2, r3, r4, r5, r6, r7, r8, r9]) _ _
  unfold d_X2_thrustOf at H
  refine xB.run oX2_thrustOf 2 (s := (2, [some (.ref 1024), some (.int (zI p)), some (.int (zI wh))], [.int (zI p), .ref 1024], [r0, zH s1 zL1 0, r2, r3, r4, r5, r6, r7, r8, r9])) rfl ?_
  obtain ⟨y1, e2, H⟩ := zbd H
  refine xB.call oX2_thrustOf (M2 := MX2_isPanel) rfl rfl ((t_X2_isPanel r0 s1 r2 r3 r4 r5 r6 r7 r8 r9 p e2).deep (by decide : 0 ≤ 2)) ?_
  show xBody MX2_thrustOf 3 5 [some (.ref 1024), some (.int (zI p)), some (.int (zI wh))] [.int (zI y1)] ([r0, zH s1 zL1 0, r2, r3, r4, r5, r6, r7, r8, r9]) _ _
  obtain ⟨g13, H⟩ := zgd H
  have H := zif H
  refine xB.brE oX2_thrustOf (P := y1 = 0) rfl (zc_eq (a := y1) (b := 0) ⟨g13, by decide⟩) (fun h3 => ?_) (fun h3 => ?_)
  · have H := H.1 h3
    refine xB.run oX2_thrustOf 1 (s := (39, [some (.ref 1024), some (.int (zI p)), some (.int (zI wh))], [.long (zJ (-9223372036854775808))], [r0, zH s1 zL1 0, r2, r3, r4, r5, r6, r7, r8, r9])) rfl ?_
    obtain rfl := Option.some.inj H
    exact xB.ret oX2_thrustOf (r1 := some (.long (zJ (-9223372036854775808)))) rfl rfl rfl
  · have H := H.2 h3
    refine xB.run oX2_thrustOf 2 (s := (10, [some (.ref 1024), some (.int (zI p)), some (.int (zI wh))], [.int (zI p), .ref 1024], [r0, zH s1 zL1 0, r2, r3, r4, r5, r6, r7, r8, r9])) rfl ?_
    obtain ⟨y4, e5, H⟩ := zbd H
    refine xB.call oX2_thrustOf (M2 := MX2_weightDownTo) rfl rfl ((t_X2_weightDownTo r0 s1 r2 r3 r4 r5 r6 r7 r8 r9 p e5).deep (by decide : 0 ≤ 2)) ?_
    show xBody MX2_thrustOf 3 13 [some (.ref 1024), some (.int (zI p)), some (.int (zI wh))] [.int (zI y4)] ([r0, zH s1 zL1 0, r2, r3, r4, r5, r6, r7, r8, r9]) _ _
    obtain ⟨g12, H⟩ := zgd H
    refine zB.opl oX2_thrustOf rfl (zi_i2l g12) ?_
    refine xB.run oX2_thrustOf 3 (s := (19, [some (.ref 1024), some (.int (zI p)), some (.int (zI wh))], [.int (zI p), .ref 1025, .long (zJ y4)], [r0, zH s1 zL1 0, r2, r3, r4, r5, r6, r7, r8, r9])) rfl ?_
    obtain ⟨g11, H⟩ := zgd H
    refine zB.iald oX2_thrustOf (g := 1) (p := 1) (N := 8) (i := p) rfl rfl (by decide) rfl rfl (by decide) g11 ?_
    obtain ⟨g10, H⟩ := zgd H
    refine zB.opl oX2_thrustOf rfl (zi_i2l g10) ?_
    refine zB.opl oX2_thrustOf rfl (zj_mul y4 (s1 1 p.toNat)) ?_
    refine xB.run oX2_thrustOf 3 (s := (27, [some (.ref 1024), some (.int (zI p)), some (.int (zI wh))], [.int (zI p), .ref 1026, .long (zJ (y4 * (s1 1 p.toNat)))], [r0, zH s1 zL1 0, r2, r3, r4, r5, r6, r7, r8, r9])) rfl ?_
    obtain ⟨g9, H⟩ := zgd H
    refine zB.iald oX2_thrustOf (g := 1) (p := 2) (N := 8) (i := p) rfl rfl (by decide) rfl rfl (by decide) g9 ?_
    obtain ⟨g8, H⟩ := zgd H
    refine zB.opl oX2_thrustOf rfl (zi_i2l g8) ?_
    refine xB.run oX2_thrustOf 1 (s := (30, [some (.ref 1024), some (.int (zI p)), some (.int (zI wh))], [.int (zI wh), .long (zJ (s1 2 p.toNat)), .long (zJ (y4 * (s1 1 p.toNat)))], [r0, zH s1 zL1 0, r2, r3, r4, r5, r6, r7, r8, r9])) rfl ?_
    obtain ⟨y6, e7, H⟩ := zbd H
    refine xB.call oX2_thrustOf (M2 := MX11_inLeastTerms) rfl rfl ((t_X11_inLeastTerms r0 (zH s1 zL1 0) r2 r3 r4 r5 r6 r7 r8 r9 (y4 * (s1 1 p.toNat)) (s1 2 p.toNat) wh e7).deep (by decide : 2 ≤ 2)) ?_
    show xBody MX2_thrustOf 3 33 [some (.ref 1024), some (.int (zI p)), some (.int (zI wh))] [.long (zJ y6)] ([r0, zH s1 zL1 0, r2, r3, r4, r5, r6, r7, r8, r9]) _ _
    refine xB.run oX2_thrustOf 1 (s := (39, [some (.ref 1024), some (.int (zI p)), some (.int (zI wh))], [.long (zJ y6)], [r0, zH s1 zL1 0, r2, r3, r4, r5, r6, r7, r8, r9])) rfl ?_
    obtain rfl := Option.some.inj H
    exact xB.ret oX2_thrustOf (r1 := some (.long (zJ y6))) rfl rfl rfl
def d_X2_pullOf (s1 : zZ) (p : Int) (wh : Int) : Option (Int) := (d_X2_isPanel s1 (p + 1)).bind fun y1 => if (zr y1) then (if y1 ≠ 0 then ((d_X2_weightDownTo s1 p).bind fun y4 => if zr y4 then (if (0 ≤ p ∧ p < 8) then (if zr (s1 1 p.toNat) then (if (0 ≤ (p + 1) ∧ (p + 1) < 8) then (if zr (s1 2 (p + 1).toNat) then ((d_X2_weightDownTo s1 (p + 1)).bind fun y6 => if zr y6 then (if (0 ≤ (p + 1) ∧ (p + 1) < 8) then (if zr (s1 1 (p + 1).toNat) then (if (0 ≤ p ∧ p < 8) then (if zr (s1 2 p.toNat) then (if (0 ≤ p ∧ p < 8) then (if zr (s1 2 p.toNat) then (if (0 ≤ (p + 1) ∧ (p + 1) < 8) then (if zr (s1 2 (p + 1).toNat) then ((d_X11_inLeastTerms (((y4 * (s1 1 p.toNat)) * (s1 2 (p + 1).toNat)) - ((y6 * (s1 1 (p + 1).toNat)) * (s1 2 p.toNat))) ((s1 2 p.toNat) * (s1 2 (p + 1).toNat)) wh).bind fun y8 => some y8) else none) else none) else none) else none) else none) else none) else none) else none) else none) else none) else none) else none) else none) else none) else ((d_X2_thrustOf s1 p wh).bind fun y24 => some y24)) else none
set_option maxRecDepth 20000 in
theorem t_X2_pullOf (r0 : List va_E) (s1 : zZ) (r2 : List va_E) (r3 : List va_E) (r4 : List va_E) (r5 : List va_E) (r6 : List va_E) (r7 : List va_E) (r8 : List va_E) (r9 : List va_E) (p : Int) (wh : Int) {rr : Int} (H : d_X2_pullOf s1 p wh = some rr) : xC MX2_pullOf 4 [.ref 1024, .int (zI p), .int (zI wh)] ([r0, zH s1 zL1 0, r2, r3, r4, r5, r6, r7, r8, r9]) (some (.long (zJ rr))) ([r0, zH s1 zL1 0, r2, r3, r4, r5, r6, r7, r8, r9]) := by
  refine ⟨Nat.le_of_ble_eq_true rfl, ?_⟩
  show xBody MX2_pullOf 4 0 [some (.ref 1024), some (.int (zI p)), some (.int (zI wh)), none, none] [] ([r0, zH s1 zL1 0, r2, r3, r4, r5, r6, r7, r8, r9]) _ _
  unfold d_X2_pullOf at H
  refine xB.run oX2_pullOf 3 (s := (3, [some (.ref 1024), some (.int (zI p)), some (.int (zI wh)), none, none], [.int (zI 1), .int (zI p), .ref 1024], [r0, zH s1 zL1 0, r2, r3, r4, r5, r6, r7, r8, r9])) rfl ?_
  refine zB.opi oX2_pullOf rfl (zi_add p 1) ?_
  obtain ⟨y1, e2, H⟩ := zbd H
  refine xB.call oX2_pullOf (M2 := MX2_isPanel) rfl rfl ((t_X2_isPanel r0 s1 r2 r3 r4 r5 r6 r7 r8 r9 (p + 1) e2).deep (by decide : 0 ≤ 3)) ?_
  show xBody MX2_pullOf 4 7 [some (.ref 1024), some (.int (zI p)), some (.int (zI wh)), none, none] [.int (zI y1)] ([r0, zH s1 zL1 0, r2, r3, r4, r5, r6, r7, r8, r9]) _ _
  obtain ⟨g26, H⟩ := zgd H
  have H := zif H
  refine xB.brE oX2_pullOf (P := y1 ≠ 0) rfl (zc_ne (a := y1) (b := 0) ⟨g26, by decide⟩) (fun h3 => ?_) (fun h3 => ?_)
  · have H := H.1 h3
    refine xB.run oX2_pullOf 2 (s := (19, [some (.ref 1024), some (.int (zI p)), some (.int (zI wh)), none, none], [.int (zI p), .ref 1024], [r0, zH s1 zL1 0, r2, r3, r4, r5, r6, r7, r8, r9])) rfl ?_
    obtain ⟨y4, e5, H⟩ := zbd H
    refine xB.call oX2_pullOf (M2 := MX2_weightDownTo) rfl rfl ((t_X2_weightDownTo r0 s1 r2 r3 r4 r5 r6 r7 r8 r9 p e5).deep (by decide : 0 ≤ 3)) ?_
    show xBody MX2_pullOf 4 22 [some (.ref 1024), some (.int (zI p)), some (.int (zI wh)), none, none] [.int (zI y4)] ([r0, zH s1 zL1 0, r2, r3, r4, r5, r6, r7, r8, r9]) _ _
    obtain ⟨g23, H⟩ := zgd H
    refine zB.opl oX2_pullOf rfl (zi_i2l g23) ?_
    refine xB.run oX2_pullOf 3 (s := (28, [some (.ref 1024), some (.int (zI p)), some (.int (zI wh)), none, none], [.int (zI p), .ref 1025, .long (zJ y4)], [r0, zH s1 zL1 0, r2, r3, r4, r5, r6, r7, r8, r9])) rfl ?_
    obtain ⟨g22, H⟩ := zgd H
    refine zB.iald oX2_pullOf (g := 1) (p := 1) (N := 8) (i := p) rfl rfl (by decide) rfl rfl (by decide) g22 ?_
    obtain ⟨g21, H⟩ := zgd H
    refine zB.opl oX2_pullOf rfl (zi_i2l g21) ?_
    refine zB.opl oX2_pullOf rfl (zj_mul y4 (s1 1 p.toNat)) ?_
    refine xB.run oX2_pullOf 4 (s := (37, [some (.ref 1024), some (.int (zI p)), some (.int (zI wh)), none, none], [.int (zI 1), .int (zI p), .ref 1026, .long (zJ (y4 * (s1 1 p.toNat)))], [r0, zH s1 zL1 0, r2, r3, r4, r5, r6, r7, r8, r9])) rfl ?_
    refine zB.opi oX2_pullOf rfl (zi_add p 1) ?_
    obtain ⟨g20, H⟩ := zgd H
    refine zB.iald oX2_pullOf (g := 1) (p := 2) (N := 8) (i := p + 1) rfl rfl (by decide) rfl rfl (by decide) g20 ?_
    obtain ⟨g19, H⟩ := zgd H
    refine zB.opl oX2_pullOf rfl (zi_i2l g19) ?_
    refine zB.opl oX2_pullOf rfl (zj_mul (y4 * (s1 1 p.toNat)) (s1 2 (p + 1).toNat)) ?_
    refine xB.run oX2_pullOf 3 (s := (44, [some (.ref 1024), some (.int (zI p)), some (.int (zI wh)), none, none], [.int (zI 1), .int (zI p), .ref 1024, .long (zJ ((y4 * (s1 1 p.toNat)) * (s1 2 (p + 1).toNat)))], [r0, zH s1 zL1 0, r2, r3, r4, r5, r6, r7, r8, r9])) rfl ?_
    refine zB.opi oX2_pullOf rfl (zi_add p 1) ?_
    obtain ⟨y6, e7, H⟩ := zbd H
    refine xB.call oX2_pullOf (M2 := MX2_weightDownTo) rfl rfl ((t_X2_weightDownTo r0 s1 r2 r3 r4 r5 r6 r7 r8 r9 (p + 1) e7).deep (by decide : 0 ≤ 3)) ?_
    show xBody MX2_pullOf 4 48 [some (.ref 1024), some (.int (zI p)), some (.int (zI wh)), none, none] [.int (zI y6), .long (zJ ((y4 * (s1 1 p.toNat)) * (s1 2 (p + 1).toNat)))] ([r0, zH s1 zL1 0, r2, r3, r4, r5, r6, r7, r8, r9]) _ _
    obtain ⟨g18, H⟩ := zgd H
    refine zB.opl oX2_pullOf rfl (zi_i2l g18) ?_
    refine xB.run oX2_pullOf 4 (s := (55, [some (.ref 1024), some (.int (zI p)), some (.int (zI wh)), none, none], [.int (zI 1), .int (zI p), .ref 1025, .long (zJ y6), .long (zJ ((y4 * (s1 1 p.toNat)) * (s1 2 (p + 1).toNat)))], [r0, zH s1 zL1 0, r2, r3, r4, r5, r6, r7, r8, r9])) rfl ?_
    refine zB.opi oX2_pullOf rfl (zi_add p 1) ?_
    obtain ⟨g17, H⟩ := zgd H
    refine zB.iald oX2_pullOf (g := 1) (p := 1) (N := 8) (i := p + 1) rfl rfl (by decide) rfl rfl (by decide) g17 ?_
    obtain ⟨g16, H⟩ := zgd H
    refine zB.opl oX2_pullOf rfl (zi_i2l g16) ?_
    refine zB.opl oX2_pullOf rfl (zj_mul y6 (s1 1 (p + 1).toNat)) ?_
    refine xB.run oX2_pullOf 3 (s := (64, [some (.ref 1024), some (.int (zI p)), some (.int (zI wh)), none, none], [.int (zI p), .ref 1026, .long (zJ (y6 * (s1 1 (p + 1).toNat))), .long (zJ ((y4 * (s1 1 p.toNat)) * (s1 2 (p + 1).toNat)))], [r0, zH s1 zL1 0, r2, r3, r4, r5, r6, r7, r8, r9])) rfl ?_
    obtain ⟨g15, H⟩ := zgd H
    refine zB.iald oX2_pullOf (g := 1) (p := 2) (N := 8) (i := p) rfl rfl (by decide) rfl rfl (by decide) g15 ?_
    obtain ⟨g14, H⟩ := zgd H
    refine zB.opl oX2_pullOf rfl (zi_i2l g14) ?_
    refine zB.opl oX2_pullOf rfl (zj_mul (y6 * (s1 1 (p + 1).toNat)) (s1 2 p.toNat)) ?_
    refine zB.opl oX2_pullOf rfl (zj_sub ((y4 * (s1 1 p.toNat)) * (s1 2 (p + 1).toNat)) ((y6 * (s1 1 (p + 1).toNat)) * (s1 2 p.toNat))) ?_
    refine xB.run oX2_pullOf 5 (s := (75, [some (.ref 1024), some (.int (zI p)), some (.int (zI wh)), some (.long (zJ (((y4 * (s1 1 p.toNat)) * (s1 2 (p + 1).toNat)) - ((y6 * (s1 1 (p + 1).toNat)) * (s1 2 p.toNat))))), none], [.int (zI p), .ref 1026, .long (zJ (((y4 * (s1 1 p.toNat)) * (s1 2 (p + 1).toNat)) - ((y6 * (s1 1 (p + 1).toNat)) * (s1 2 p.toNat))))], [r0, zH s1 zL1 0, r2, r3, r4, r5, r6, r7, r8, r9])) rfl ?_
    obtain ⟨g13, H⟩ := zgd H
    refine zB.iald oX2_pullOf (g := 1) (p := 2) (N := 8) (i := p) rfl rfl (by decide) rfl rfl (by decide) g13 ?_
    obtain ⟨g12, H⟩ := zgd H
    refine zB.opl oX2_pullOf rfl (zi_i2l g12) ?_
    refine xB.run oX2_pullOf 4 (s := (83, [some (.ref 1024), some (.int (zI p)), some (.int (zI wh)), some (.long (zJ (((y4 * (s1 1 p.toNat)) * (s1 2 (p + 1).toNat)) - ((y6 * (s1 1 (p + 1).toNat)) * (s1 2 p.toNat))))), none], [.int (zI 1), .int (zI p), .ref 1026, .long (zJ (s1 2 p.toNat)), .long (zJ (((y4 * (s1 1 p.toNat)) * (s1 2 (p + 1).toNat)) - ((y6 * (s1 1 (p + 1).toNat)) * (s1 2 p.toNat))))], [r0, zH s1 zL1 0, r2, r3, r4, r5, r6, r7, r8, r9])) rfl ?_
    refine zB.opi oX2_pullOf rfl (zi_add p 1) ?_
    obtain ⟨g11, H⟩ := zgd H
    refine zB.iald oX2_pullOf (g := 1) (p := 2) (N := 8) (i := p + 1) rfl rfl (by decide) rfl rfl (by decide) g11 ?_
    obtain ⟨g10, H⟩ := zgd H
    refine zB.opl oX2_pullOf rfl (zi_i2l g10) ?_
    refine zB.opl oX2_pullOf rfl (zj_mul (s1 2 p.toNat) (s1 2 (p + 1).toNat)) ?_
    refine xB.run oX2_pullOf 1 (s := (88, [some (.ref 1024), some (.int (zI p)), some (.int (zI wh)), some (.long (zJ (((y4 * (s1 1 p.toNat)) * (s1 2 (p + 1).toNat)) - ((y6 * (s1 1 (p + 1).toNat)) * (s1 2 p.toNat))))), none], [.int (zI wh), .long (zJ ((s1 2 p.toNat) * (s1 2 (p + 1).toNat))), .long (zJ (((y4 * (s1 1 p.toNat)) * (s1 2 (p + 1).toNat)) - ((y6 * (s1 1 (p + 1).toNat)) * (s1 2 p.toNat))))], [r0, zH s1 zL1 0, r2, r3, r4, r5, r6, r7, r8, r9])) rfl ?_
    obtain ⟨y8, e9, H⟩ := zbd H
    refine xB.call oX2_pullOf (M2 := MX11_inLeastTerms) rfl rfl ((t_X11_inLeastTerms r0 (zH s1 zL1 0) r2 r3 r4 r5 r6 r7 r8 r9 (((y4 * (s1 1 p.toNat)) * (s1 2 (p + 1).toNat)) - ((y6 * (s1 1 (p + 1).toNat)) * (s1 2 p.toNat))) ((s1 2 p.toNat) * (s1 2 (p + 1).toNat)) wh e9).deep (by decide : 2 ≤ 3)) ?_
    show xBody MX2_pullOf 4 91 [some (.ref 1024), some (.int (zI p)), some (.int (zI wh)), some (.long (zJ (((y4 * (s1 1 p.toNat)) * (s1 2 (p + 1).toNat)) - ((y6 * (s1 1 (p + 1).toNat)) * (s1 2 p.toNat))))), none] [.long (zJ y8)] ([r0, zH s1 zL1 0, r2, r3, r4, r5, r6, r7, r8, r9]) _ _
    obtain rfl := Option.some.inj H
    exact xB.ret oX2_pullOf (r1 := some (.long (zJ y8))) rfl rfl rfl
  · have H := H.2 h3
    refine xB.run oX2_pullOf 3 (s := (13, [some (.ref 1024), some (.int (zI p)), some (.int (zI wh)), none, none], [.int (zI wh), .int (zI p), .ref 1024], [r0, zH s1 zL1 0, r2, r3, r4, r5, r6, r7, r8, r9])) rfl ?_
    obtain ⟨y24, e25, H⟩ := zbd H
    refine xB.call oX2_pullOf (M2 := MX2_thrustOf) rfl rfl ((t_X2_thrustOf r0 s1 r2 r3 r4 r5 r6 r7 r8 r9 p wh e25).deep (by decide : 3 ≤ 3)) ?_
    show xBody MX2_pullOf 4 16 [some (.ref 1024), some (.int (zI p)), some (.int (zI wh)), none, none] [.long (zJ y24)] ([r0, zH s1 zL1 0, r2, r3, r4, r5, r6, r7, r8, r9]) _ _
    obtain rfl := Option.some.inj H
    exact xB.ret oX2_pullOf (r1 := some (.long (zJ y24))) rfl rfl rfl
def d_X2_bestThickness_14 (s1 : zZ) (p : Int) (lo : Int) (hi : Int) : Nat → Int → Int → Int → Option (Int × Int × Int)
  | 0, _, _, _ => none
  | uN + 1, best, least, t => (d_J9_min_7cf53 5 hi).bind fun y3 => if (zr t ∧ zr y3) then (if y3 < t then some (best, least, t) else (if (0 ≤ p ∧ p < 8) then (if ((p.toNat < 8) ∧ (0 ≤ t ∧ t < 6)) then (if (zr (s1 (9 + p.toNat) t.toNat) ∧ zr least) then (if least ≤ (s1 (9 + p.toNat) t.toNat) then (d_X2_bestThickness_14 s1 p lo hi uN best least (t + 1)) else (if (0 ≤ p ∧ p < 8) then (if ((p.toNat < 8) ∧ (0 ≤ t ∧ t < 6)) then (d_X2_bestThickness_14 s1 p lo hi uN t (s1 (9 + p.toNat) t.toNat) (t + 1)) else none) else none)) else none) else none) else none)) else none
def d_X2_bestThickness (s1 : zZ) (p : Int) (lo : Int) (hi : Int) : Option (Int) := (d_J9_max_7cf53 1 lo).bind fun y1 => (d_X2_bestThickness_14 s1 p lo hi zF 0 1000000 y1).bind fun y13 => some y13.1
set_option maxRecDepth 20000 in
theorem l_X2_bestThickness_14 (r0 : List va_E) (s1 : zZ) (r2 : List va_E) (r3 : List va_E) (r4 : List va_E) (r5 : List va_E) (r6 : List va_E) (r7 : List va_E) (r8 : List va_E) (r9 : List va_E) (p : Int) (lo : Int) (hi : Int) {r : Option Value} {hp1 : xH} : ∀ (uN : Nat) (best : Int) (least : Int) (t : Int) {uX : Int × Int × Int}, d_X2_bestThickness_14 s1 p lo hi uN best least t = some uX → (xBody MX2_bestThickness 1 59 [some (.ref 1024), some (.int (zI p)), some (.int (zI lo)), some (.int (zI hi)), some (.int (zI uX.1)), some (.int (zI uX.2.1)), some (.int (zI uX.2.2))] [] ([r0, zH s1 zL1 0, r2, r3, r4, r5, r6, r7, r8, r9]) r hp1) → xBody MX2_bestThickness 1 14 [some (.ref 1024), some (.int (zI p)), some (.int (zI lo)), some (.int (zI hi)), some (.int (zI best)), some (.int (zI least)), some (.int (zI t))] [] ([r0, zH s1 zL1 0, r2, r3, r4, r5, r6, r7, r8, r9]) r hp1 := by
  intro uN
  induction uN with
  | zero => intro best least t uX H K; cases H
  | succ uN ih =>
    intro best least t uX H K
    unfold d_X2_bestThickness_14 at H
    refine xB.run oX2_bestThickness 3 (s := (18, [some (.ref 1024), some (.int (zI p)), some (.int (zI lo)), some (.int (zI hi)), some (.int (zI best)), some (.int (zI least)), some (.int (zI t))], [.int (zI hi), .int (zI 5), .int (zI t)], [r0, zH s1 zL1 0, r2, r3, r4, r5, r6, r7, r8, r9])) rfl ?_
    obtain ⟨y3, e4, H⟩ := zbd H
    refine xB.call oX2_bestThickness (M2 := MJ9_min_7cf53) rfl rfl ((t_J9_min_7cf53 r0 (zH s1 zL1 0) r2 r3 r4 r5 r6 r7 r8 r9 5 hi e4).deep (by decide : 0 ≤ 0)) ?_
    show xBody MX2_bestThickness 1 21 [some (.ref 1024), some (.int (zI p)), some (.int (zI lo)), some (.int (zI hi)), some (.int (zI best)), some (.int (zI least)), some (.int (zI t))] [.int (zI y3), .int (zI t)] ([r0, zH s1 zL1 0, r2, r3, r4, r5, r6, r7, r8, r9]) _ _
    obtain ⟨g12, H⟩ := zgd H
    have H := zif H
    refine xB.brE oX2_bestThickness (P := y3 < t) rfl (zc_gt (a := t) (b := y3) g12) (fun h5 => ?_) (fun h5 => ?_)
    · have H := H.1 h5
      obtain rfl := Option.some.inj H
      exact K
    · have H := H.2 h5
      refine xB.run oX2_bestThickness 3 (s := (29, [some (.ref 1024), some (.int (zI p)), some (.int (zI lo)), some (.int (zI hi)), some (.int (zI best)), some (.int (zI least)), some (.int (zI t))], [.int (zI p), .ref 1032], [r0, zH s1 zL1 0, r2, r3, r4, r5, r6, r7, r8, r9])) rfl ?_
      obtain ⟨g11, H⟩ := zgd H
      refine zB.aaldG oX2_bestThickness (g := 1) (p := 8) (N := 8) (c := 3) (g2 := 1) (p2 := 9) rfl rfl (by decide) rfl rfl (by decide) (by decide) g11 ?_
      refine xB.run oX2_bestThickness 1 (s := (32, [some (.ref 1024), some (.int (zI p)), some (.int (zI lo)), some (.int (zI hi)), some (.int (zI best)), some (.int (zI least)), some (.int (zI t))], [.int (zI t), .ref (1024 * 1 + (9 + p.toNat))], [r0, zH s1 zL1 0, r2, r3, r4, r5, r6, r7, r8, r9])) rfl ?_
      obtain ⟨g10, H⟩ := zgd H
      refine zB.iald oX2_bestThickness (g := 1) (p := 9 + p.toNat) (N := 6) (i := t) rfl rfl (by omega) rfl (zg_1_9 _ (by omega)) (by decide) g10.2 ?_
      refine xB.run oX2_bestThickness 1 (s := (35, [some (.ref 1024), some (.int (zI p)), some (.int (zI lo)), some (.int (zI hi)), some (.int (zI best)), some (.int (zI least)), some (.int (zI t))], [.int (zI least), .int (zI (s1 (9 + p.toNat) t.toNat))], [r0, zH s1 zL1 0, r2, r3, r4, r5, r6, r7, r8, r9])) rfl ?_
      obtain ⟨g9, H⟩ := zgd H
      have H := zif H
      refine xB.brE oX2_bestThickness (P := least ≤ (s1 (9 + p.toNat) t.toNat)) rfl (zc_ge (a := s1 (9 + p.toNat) t.toNat) (b := least) g9) (fun h6 => ?_) (fun h6 => ?_)
      · have H := H.1 h6
        refine zB.inc oX2_bestThickness rfl (lv2 := [some (.ref 1024), some (.int (zI p)), some (.int (zI lo)), some (.int (zI hi)), some (.int (zI best)), some (.int (zI least)), some (.int (zI (t + 1)))]) (zi_inc (a := 0) (zi_addp1 t) _ rfl) ?_
        refine xB.run oX2_bestThickness 1 (s := (14, [some (.ref 1024), some (.int (zI p)), some (.int (zI lo)), some (.int (zI hi)), some (.int (zI best)), some (.int (zI least)), some (.int (zI (t + 1)))], [], [r0, zH s1 zL1 0, r2, r3, r4, r5, r6, r7, r8, r9])) rfl ?_
        exact ih best least (t + 1) H K
      · have H := H.2 h6
        refine xB.run oX2_bestThickness 3 (s := (43, [some (.ref 1024), some (.int (zI p)), some (.int (zI lo)), some (.int (zI hi)), some (.int (zI best)), some (.int (zI least)), some (.int (zI t))], [.int (zI p), .ref 1032], [r0, zH s1 zL1 0, r2, r3, r4, r5, r6, r7, r8, r9])) rfl ?_
        obtain ⟨g8, H⟩ := zgd H
        refine zB.aaldG oX2_bestThickness (g := 1) (p := 8) (N := 8) (c := 3) (g2 := 1) (p2 := 9) rfl rfl (by decide) rfl rfl (by decide) (by decide) g8 ?_
        refine xB.run oX2_bestThickness 1 (s := (46, [some (.ref 1024), some (.int (zI p)), some (.int (zI lo)), some (.int (zI hi)), some (.int (zI best)), some (.int (zI least)), some (.int (zI t))], [.int (zI t), .ref (1024 * 1 + (9 + p.toNat))], [r0, zH s1 zL1 0, r2, r3, r4, r5, r6, r7, r8, r9])) rfl ?_
        obtain ⟨g7, H⟩ := zgd H
        refine zB.iald oX2_bestThickness (g := 1) (p := 9 + p.toNat) (N := 6) (i := t) rfl rfl (by omega) rfl (zg_1_9 _ (by omega)) (by decide) g7.2 ?_
        refine xB.run oX2_bestThickness 3 (s := (53, [some (.ref 1024), some (.int (zI p)), some (.int (zI lo)), some (.int (zI hi)), some (.int (zI t)), some (.int (zI (s1 (9 + p.toNat) t.toNat))), some (.int (zI t))], [], [r0, zH s1 zL1 0, r2, r3, r4, r5, r6, r7, r8, r9])) rfl ?_
        refine zB.inc oX2_bestThickness rfl (lv2 := [some (.ref 1024), some (.int (zI p)), some (.int (zI lo)), some (.int (zI hi)), some (.int (zI t)), some (.int (zI (s1 (9 + p.toNat) t.toNat))), some (.int (zI (t + 1)))]) (zi_inc (a := 0) (zi_addp1 t) _ rfl) ?_
        refine xB.run oX2_bestThickness 1 (s := (14, [some (.ref 1024), some (.int (zI p)), some (.int (zI lo)), some (.int (zI hi)), some (.int (zI t)), some (.int (zI (s1 (9 + p.toNat) t.toNat))), some (.int (zI (t + 1)))], [], [r0, zH s1 zL1 0, r2, r3, r4, r5, r6, r7, r8, r9])) rfl ?_
        exact ih t (s1 (9 + p.toNat) t.toNat) (t + 1) H K
set_option maxRecDepth 20000 in
theorem t_X2_bestThickness (r0 : List va_E) (s1 : zZ) (r2 : List va_E) (r3 : List va_E) (r4 : List va_E) (r5 : List va_E) (r6 : List va_E) (r7 : List va_E) (r8 : List va_E) (r9 : List va_E) (p : Int) (lo : Int) (hi : Int) {rr : Int} (H : d_X2_bestThickness s1 p lo hi = some rr) : xC MX2_bestThickness 1 [.ref 1024, .int (zI p), .int (zI lo), .int (zI hi)] ([r0, zH s1 zL1 0, r2, r3, r4, r5, r6, r7, r8, r9]) (some (.int (zI rr))) ([r0, zH s1 zL1 0, r2, r3, r4, r5, r6, r7, r8, r9]) := by
  refine ⟨Nat.le_of_ble_eq_true rfl, ?_⟩
  show xBody MX2_bestThickness 1 0 [some (.ref 1024), some (.int (zI p)), some (.int (zI lo)), some (.int (zI hi)), none, none, none] [] ([r0, zH s1 zL1 0, r2, r3, r4, r5, r6, r7, r8, r9]) _ _
  unfold d_X2_bestThickness at H
  refine xB.run oX2_bestThickness 6 (s := (9, [some (.ref 1024), some (.int (zI p)), some (.int (zI lo)), some (.int (zI hi)), some (.int (zI 0)), some (.int (zI 1000000)), none], [.int (zI lo), .int (zI 1)], [r0, zH s1 zL1 0, r2, r3, r4, r5, r6, r7, r8, r9])) rfl ?_
  obtain ⟨y1, e2, H⟩ := zbd H
  refine xB.call oX2_bestThickness (M2 := MJ9_max_7cf53) rfl rfl ((t_J9_max_7cf53 r0 (zH s1 zL1 0) r2 r3 r4 r5 r6 r7 r8 r9 1 lo e2).deep (by decide : 0 ≤ 0)) ?_
  show xBody MX2_bestThickness 1 12 [some (.ref 1024), some (.int (zI p)), some (.int (zI lo)), some (.int (zI hi)), some (.int (zI 0)), some (.int (zI 1000000)), none] [.int (zI y1)] ([r0, zH s1 zL1 0, r2, r3, r4, r5, r6, r7, r8, r9]) _ _
  refine xB.run oX2_bestThickness 1 (s := (14, [some (.ref 1024), some (.int (zI p)), some (.int (zI lo)), some (.int (zI hi)), some (.int (zI 0)), some (.int (zI 1000000)), some (.int (zI y1))], [], [r0, zH s1 zL1 0, r2, r3, r4, r5, r6, r7, r8, r9])) rfl ?_
  obtain ⟨y13, e14, H⟩ := zbd H
  refine l_X2_bestThickness_14 r0 s1 r2 r3 r4 r5 r6 r7 r8 r9 p lo hi _ 0 1000000 y1 e14 ?_
  refine xB.run oX2_bestThickness 1 (s := (61, [some (.ref 1024), some (.int (zI p)), some (.int (zI lo)), some (.int (zI hi)), some (.int (zI y13.1)), some (.int (zI y13.2.1)), some (.int (zI y13.2.2))], [.int (zI y13.1)], [r0, zH s1 zL1 0, r2, r3, r4, r5, r6, r7, r8, r9])) rfl ?_
  obtain rfl := Option.some.inj H
  exact xB.ret oX2_bestThickness (r1 := some (.int (zI y13.1))) rfl rfl rfl
def d_X2_sumFrom_16 (p : Int) (str : Int) (push : Int) (lng : Int) : Nat → Int → zZ → Option (Int × zZ)
  | 0, _, _ => none
  | uN + 1, t, s1 => if (zr t) then (if (5 : Int) < t then some (t, s1) else ((d_X2_isPanel s1 (p + 1)).bind fun y6 => if (zr y6) then (if y6 = 0 then (if (zr (t * str) ∧ zr push) then (if (t * str) < push then (if (0 ≤ p ∧ p < 8) then (if ((p.toNat < 8) ∧ (0 ≤ t ∧ t < 6)) then (d_X2_sumFrom_16 p str push lng uN (t + 1) (upz s1 (9 + p.toNat) t.toNat 1000000)) else none) else none) else (if (0 ≤ p ∧ p < 8) then (if ((p.toNat < 8) ∧ (0 ≤ t ∧ t < 6)) then (d_X2_sumFrom_16 p str push lng uN (t + 1) (upz s1 (9 + p.toNat) t.toNat ((t * lng) + 0))) else none) else none)) else none) else ((d_X2_bestThickness s1 (p + 1) (t - 1) (t + 1)).bind fun y15 => if (zr y15) then (if y15 ≠ 0 then (if (0 ≤ (p + 1) ∧ (p + 1) < 8) then (if (((p + 1).toNat < 8) ∧ (0 ≤ y15 ∧ y15 < 6)) then (if (zr (t * str) ∧ zr push) then (if (t * str) < push then (if (0 ≤ p ∧ p < 8) then (if ((p.toNat < 8) ∧ (0 ≤ t ∧ t < 6)) then (d_X2_sumFrom_16 p str push lng uN (t + 1) (upz s1 (9 + p.toNat) t.toNat 1000000)) else none) else none) else (if (zr (s1 (9 + (p + 1).toNat) y15.toNat)) then (if (1000000 : Int) ≤ (s1 (9 + (p + 1).toNat) y15.toNat) then (if (0 ≤ p ∧ p < 8) then (if ((p.toNat < 8) ∧ (0 ≤ t ∧ t < 6)) then (d_X2_sumFrom_16 p str push lng uN (t + 1) (upz s1 (9 + p.toNat) t.toNat 1000000)) else none) else none) else (if (0 ≤ p ∧ p < 8) then (if ((p.toNat < 8) ∧ (0 ≤ t ∧ t < 6)) then (d_X2_sumFrom_16 p str push lng uN (t + 1) (upz s1 (9 + p.toNat) t.toNat ((t * lng) + (s1 (9 + (p + 1).toNat) y15.toNat)))) else none) else none)) else none)) else none) else none) else none) else (if (zr (t * str) ∧ zr push) then (if (t * str) < push then (if (0 ≤ p ∧ p < 8) then (if ((p.toNat < 8) ∧ (0 ≤ t ∧ t < 6)) then (d_X2_sumFrom_16 p str push lng uN (t + 1) (upz s1 (9 + p.toNat) t.toNat 1000000)) else none) else none) else (if (0 ≤ p ∧ p < 8) then (if ((p.toNat < 8) ∧ (0 ≤ t ∧ t < 6)) then (d_X2_sumFrom_16 p str push lng uN (t + 1) (upz s1 (9 + p.toNat) t.toNat 1000000)) else none) else none)) else none)) else none)) else none)) else none
def d_X2_sumFrom (s1 : zZ) (p : Int) (str : Int) : Option (zZ) := (d_X2_pushAlong s1 p).bind fun y1 => (d_X2_lengthOf s1 p).bind fun y3 => (d_X2_sumFrom_16 p str y1 y3 zF 1 s1).bind fun y39 => some y39.2
set_option maxRecDepth 20000 in
theorem l_X2_sumFrom_16 (r0 : List va_E) (r2 : List va_E) (r3 : List va_E) (r4 : List va_E) (r5 : List va_E) (r6 : List va_E) (r7 : List va_E) (r8 : List va_E) (r9 : List va_E) (p : Int) (str : Int) (push : Int) (lng : Int) {r : Option Value} {hp1 : xH} : ∀ (uN : Nat) (t : Int) (s1 : zZ) {uX : Int × zZ}, d_X2_sumFrom_16 p str push lng uN t s1 = some uX → (xBody MX2_sumFrom 2 130 [some (.ref 1024), some (.int (zI p)), some (.int (zI str)), some (.int (zI push)), some (.int (zI lng)), some (.int (zI uX.1)), none, none] [] ([r0, zH uX.2 zL1 0, r2, r3, r4, r5, r6, r7, r8, r9]) r hp1) → xBody MX2_sumFrom 2 16 [some (.ref 1024), some (.int (zI p)), some (.int (zI str)), some (.int (zI push)), some (.int (zI lng)), some (.int (zI t)), none, none] [] ([r0, zH s1 zL1 0, r2, r3, r4, r5, r6, r7, r8, r9]) r hp1 := by
  intro uN
  induction uN with
  | zero => intro t s1 uX H K; cases H
  | succ uN ih =>
    intro t s1 uX H K
    unfold d_X2_sumFrom_16 at H
    refine xB.run oX2_sumFrom 2 (s := (19, [some (.ref 1024), some (.int (zI p)), some (.int (zI str)), some (.int (zI push)), some (.int (zI lng)), some (.int (zI t)), none, none], [.int (zI 5), .int (zI t)], [r0, zH s1 zL1 0, r2, r3, r4, r5, r6, r7, r8, r9])) rfl ?_
    obtain ⟨g38, H⟩ := zgd H
    have H := zif H
    refine xB.brE oX2_sumFrom (P := (5 : Int) < t) rfl (zc_gt (a := t) (b := 5) ⟨g38, by decide⟩) (fun h5 => ?_) (fun h5 => ?_)
    · have H := H.1 h5
      obtain rfl := Option.some.inj H
      exact K
    · have H := H.2 h5
      refine xB.run oX2_sumFrom 5 (s := (28, [some (.ref 1024), some (.int (zI p)), some (.int (zI str)), some (.int (zI push)), some (.int (zI lng)), some (.int (zI t)), some (.int (zI 0)), none], [.int (zI 1), .int (zI p), .ref 1024], [r0, zH s1 zL1 0, r2, r3, r4, r5, r6, r7, r8, r9])) rfl ?_
      refine zB.opi oX2_sumFrom rfl (zi_add p 1) ?_
      obtain ⟨y6, e7, H⟩ := zbd H
      refine xB.call oX2_sumFrom (M2 := MX2_isPanel) rfl rfl ((t_X2_isPanel r0 s1 r2 r3 r4 r5 r6 r7 r8 r9 (p + 1) e7).deep (by decide : 0 ≤ 1)) ?_
      show xBody MX2_sumFrom 2 32 [some (.ref 1024), some (.int (zI p)), some (.int (zI str)), some (.int (zI push)), some (.int (zI lng)), some (.int (zI t)), some (.int (zI 0)), none] [.int (zI y6)] ([r0, zH s1 zL1 0, r2, r3, r4, r5, r6, r7, r8, r9]) _ _
      obtain ⟨g37, H⟩ := zgd H
      have H := zif H
      refine xB.brE oX2_sumFrom (P := y6 = 0) rfl (zc_eq (a := y6) (b := 0) ⟨g37, by decide⟩) (fun h8 => ?_) (fun h8 => ?_)
      · have H := H.1 h8
        refine xB.run oX2_sumFrom 2 (s := (78, [some (.ref 1024), some (.int (zI p)), some (.int (zI str)), some (.int (zI push)), some (.int (zI lng)), some (.int (zI t)), some (.int (zI 0)), none], [.int (zI str), .int (zI t)], [r0, zH s1 zL1 0, r2, r3, r4, r5, r6, r7, r8, r9])) rfl ?_
        refine zB.opi oX2_sumFrom rfl (zi_mul t str) ?_
        refine xB.run oX2_sumFrom 1 (s := (80, [some (.ref 1024), some (.int (zI p)), some (.int (zI str)), some (.int (zI push)), some (.int (zI lng)), some (.int (zI t)), some (.int (zI 0)), none], [.int (zI push), .int (zI (t * str))], [r0, zH s1 zL1 0, r2, r3, r4, r5, r6, r7, r8, r9])) rfl ?_
        obtain ⟨g14, H⟩ := zgd H
        have H := zif H
        refine xB.brE oX2_sumFrom (P := (t * str) < push) rfl (zc_lt (a := t * str) (b := push) g14) (fun h9 => ?_) (fun h9 => ?_)
        · have H := H.1 h9
          refine xB.run oX2_sumFrom 5 (s := (102, [some (.ref 1024), some (.int (zI p)), some (.int (zI str)), some (.int (zI push)), some (.int (zI lng)), some (.int (zI t)), some (.int (zI 0)), some (.int (zI 0))], [.int (zI p), .ref 1032], [r0, zH s1 zL1 0, r2, r3, r4, r5, r6, r7, r8, r9])) rfl ?_
          obtain ⟨g11, H⟩ := zgd H
          refine zB.aaldG oX2_sumFrom (g := 1) (p := 8) (N := 8) (c := 3) (g2 := 1) (p2 := 9) rfl rfl (by decide) rfl rfl (by decide) (by decide) g11 ?_
          refine xB.run oX2_sumFrom 4 (s := (123, [some (.ref 1024), some (.int (zI p)), some (.int (zI str)), some (.int (zI push)), some (.int (zI lng)), some (.int (zI t)), some (.int (zI 0)), some (.int (zI 0))], [.int (zI 1000000), .int (zI t), .ref (1024 * 1 + (9 + p.toNat))], [r0, zH s1 zL1 0, r2, r3, r4, r5, r6, r7, r8, r9])) rfl ?_
          obtain ⟨g10, H⟩ := zgd H
          refine zB.iast oX2_sumFrom (g := 1) (p := 9 + p.toNat) (N := 6) (i := t) (hp1 := [r0, zH (upz s1 (9 + p.toNat) t.toNat 1000000) zL1 0, r2, r3, r4, r5, r6, r7, r8, r9]) rfl rfl (by omega) (by decide) rfl (zg_1_9 _ (by omega)) (by decide) g10.2 rfl ?_
          refine zB.inc oX2_sumFrom rfl (lv2 := [some (.ref 1024), some (.int (zI p)), some (.int (zI str)), some (.int (zI push)), some (.int (zI lng)), some (.int (zI (t + 1))), some (.int (zI 0)), some (.int (zI 0))]) (zi_inc (a := 0) (zi_addp1 t) _ rfl) ?_
          refine xB.run oX2_sumFrom 1 (s := (16, [some (.ref 1024), some (.int (zI p)), some (.int (zI str)), some (.int (zI push)), some (.int (zI lng)), some (.int (zI (t + 1))), some (.int (zI 0)), some (.int (zI 0))], [], [r0, zH (upz s1 (9 + p.toNat) t.toNat 1000000) zL1 0, r2, r3, r4, r5, r6, r7, r8, r9])) rfl ?_
          refine xB.forget (lv1 := [some (.ref 1024), some (.int (zI p)), some (.int (zI str)), some (.int (zI push)), some (.int (zI lng)), some (.int (zI (t + 1))), none, none]) (xle_same (xle_same (xle_same (xle_same (xle_same (xle_same (xle_none (xle_none (xle_nil))))))))) ?_
          exact ih (t + 1) (upz s1 (9 + p.toNat) t.toNat 1000000) H K
        · have H := H.2 h9
          refine xB.run oX2_sumFrom 9 (s := (102, [some (.ref 1024), some (.int (zI p)), some (.int (zI str)), some (.int (zI push)), some (.int (zI lng)), some (.int (zI t)), some (.int (zI 0)), some (.int (zI 1))], [.int (zI p), .ref 1032], [r0, zH s1 zL1 0, r2, r3, r4, r5, r6, r7, r8, r9])) rfl ?_
          obtain ⟨g13, H⟩ := zgd H
          refine zB.aaldG oX2_sumFrom (g := 1) (p := 8) (N := 8) (c := 3) (g2 := 1) (p2 := 9) rfl rfl (by decide) rfl rfl (by decide) (by decide) g13 ?_
          refine xB.run oX2_sumFrom 5 (s := (114, [some (.ref 1024), some (.int (zI p)), some (.int (zI str)), some (.int (zI push)), some (.int (zI lng)), some (.int (zI t)), some (.int (zI 0)), some (.int (zI 1))], [.int (zI lng), .int (zI t), .int (zI t), .ref (1024 * 1 + (9 + p.toNat))], [r0, zH s1 zL1 0, r2, r3, r4, r5, r6, r7, r8, r9])) rfl ?_
          refine zB.opi oX2_sumFrom rfl (zi_mul t lng) ?_
          refine xB.run oX2_sumFrom 1 (s := (117, [some (.ref 1024), some (.int (zI p)), some (.int (zI str)), some (.int (zI push)), some (.int (zI lng)), some (.int (zI t)), some (.int (zI 0)), some (.int (zI 1))], [.int (zI 0), .int (zI (t * lng)), .int (zI t), .ref (1024 * 1 + (9 + p.toNat))], [r0, zH s1 zL1 0, r2, r3, r4, r5, r6, r7, r8, r9])) rfl ?_
          refine zB.opi oX2_sumFrom rfl (zi_add (t * lng) 0) ?_
          refine xB.run oX2_sumFrom 1 (s := (123, [some (.ref 1024), some (.int (zI p)), some (.int (zI str)), some (.int (zI push)), some (.int (zI lng)), some (.int (zI t)), some (.int (zI 0)), some (.int (zI 1))], [.int (zI ((t * lng) + 0)), .int (zI t), .ref (1024 * 1 + (9 + p.toNat))], [r0, zH s1 zL1 0, r2, r3, r4, r5, r6, r7, r8, r9])) rfl ?_
          obtain ⟨g12, H⟩ := zgd H
          refine zB.iast oX2_sumFrom (g := 1) (p := 9 + p.toNat) (N := 6) (i := t) (hp1 := [r0, zH (upz s1 (9 + p.toNat) t.toNat ((t * lng) + 0)) zL1 0, r2, r3, r4, r5, r6, r7, r8, r9]) rfl rfl (by omega) (by decide) rfl (zg_1_9 _ (by omega)) (by decide) g12.2 rfl ?_
          refine zB.inc oX2_sumFrom rfl (lv2 := [some (.ref 1024), some (.int (zI p)), some (.int (zI str)), some (.int (zI push)), some (.int (zI lng)), some (.int (zI (t + 1))), some (.int (zI 0)), some (.int (zI 1))]) (zi_inc (a := 0) (zi_addp1 t) _ rfl) ?_
          refine xB.run oX2_sumFrom 1 (s := (16, [some (.ref 1024), some (.int (zI p)), some (.int (zI str)), some (.int (zI push)), some (.int (zI lng)), some (.int (zI (t + 1))), some (.int (zI 0)), some (.int (zI 1))], [], [r0, zH (upz s1 (9 + p.toNat) t.toNat ((t * lng) + 0)) zL1 0, r2, r3, r4, r5, r6, r7, r8, r9])) rfl ?_
          refine xB.forget (lv1 := [some (.ref 1024), some (.int (zI p)), some (.int (zI str)), some (.int (zI push)), some (.int (zI lng)), some (.int (zI (t + 1))), none, none]) (xle_same (xle_same (xle_same (xle_same (xle_same (xle_same (xle_none (xle_none (xle_nil))))))))) ?_
          exact ih (t + 1) (upz s1 (9 + p.toNat) t.toNat ((t * lng) + 0)) H K
      · have H := H.2 h8
        refine xB.run oX2_sumFrom 3 (s := (38, [some (.ref 1024), some (.int (zI p)), some (.int (zI str)), some (.int (zI push)), some (.int (zI lng)), some (.int (zI t)), some (.int (zI 0)), none], [.int (zI 1), .int (zI p), .ref 1024], [r0, zH s1 zL1 0, r2, r3, r4, r5, r6, r7, r8, r9])) rfl ?_
        refine zB.opi oX2_sumFrom rfl (zi_add p 1) ?_
        refine xB.run oX2_sumFrom 2 (s := (42, [some (.ref 1024), some (.int (zI p)), some (.int (zI str)), some (.int (zI push)), some (.int (zI lng)), some (.int (zI t)), some (.int (zI 0)), none], [.int (zI 1), .int (zI t), .int (zI (p + 1)), .ref 1024], [r0, zH s1 zL1 0, r2, r3, r4, r5, r6, r7, r8, r9])) rfl ?_
        refine zB.opi oX2_sumFrom rfl (zi_sub t 1) ?_
        refine xB.run oX2_sumFrom 2 (s := (46, [some (.ref 1024), some (.int (zI p)), some (.int (zI str)), some (.int (zI push)), some (.int (zI lng)), some (.int (zI t)), some (.int (zI 0)), none], [.int (zI 1), .int (zI t), .int (zI (t - 1)), .int (zI (p + 1)), .ref 1024], [r0, zH s1 zL1 0, r2, r3, r4, r5, r6, r7, r8, r9])) rfl ?_
        refine zB.opi oX2_sumFrom rfl (zi_add t 1) ?_
        obtain ⟨y15, e16, H⟩ := zbd H
        refine xB.call oX2_sumFrom (M2 := MX2_bestThickness) rfl rfl ((t_X2_bestThickness r0 s1 r2 r3 r4 r5 r6 r7 r8 r9 (p + 1) (t - 1) (t + 1) e16).deep (by decide : 1 ≤ 1)) ?_
        show xBody MX2_sumFrom 2 50 [some (.ref 1024), some (.int (zI p)), some (.int (zI str)), some (.int (zI push)), some (.int (zI lng)), some (.int (zI t)), some (.int (zI 0)), none] [.int (zI y15)] ([r0, zH s1 zL1 0, r2, r3, r4, r5, r6, r7, r8, r9]) _ _
        refine xB.run oX2_sumFrom 2 (s := (54, [some (.ref 1024), some (.int (zI p)), some (.int (zI str)), some (.int (zI push)), some (.int (zI lng)), some (.int (zI t)), some (.int (zI 0)), some (.int (zI y15))], [.int (zI y15)], [r0, zH s1 zL1 0, r2, r3, r4, r5, r6, r7, r8, r9])) rfl ?_
        obtain ⟨g36, H⟩ := zgd H
        have H := zif H
        refine xB.brE oX2_sumFrom (P := y15 ≠ 0) rfl (zc_ne (a := y15) (b := 0) ⟨g36, by decide⟩) (fun h17 => ?_) (fun h17 => ?_)
        · have H := H.1 h17
          refine xB.run oX2_sumFrom 4 (s := (68, [some (.ref 1024), some (.int (zI p)), some (.int (zI str)), some (.int (zI push)), some (.int (zI lng)), some (.int (zI t)), some (.int (zI 0)), some (.int (zI y15))], [.int (zI 1), .int (zI p), .ref 1032], [r0, zH s1 zL1 0, r2, r3, r4, r5, r6, r7, r8, r9])) rfl ?_
          refine zB.opi oX2_sumFrom rfl (zi_add p 1) ?_
          obtain ⟨g29, H⟩ := zgd H
          refine zB.aaldG oX2_sumFrom (g := 1) (p := 8) (N := 8) (c := 3) (g2 := 1) (p2 := 9) rfl rfl (by decide) rfl rfl (by decide) (by decide) g29 ?_
          refine xB.run oX2_sumFrom 1 (s := (72, [some (.ref 1024), some (.int (zI p)), some (.int (zI str)), some (.int (zI push)), some (.int (zI lng)), some (.int (zI t)), some (.int (zI 0)), some (.int (zI y15))], [.int (zI y15), .ref (1024 * 1 + (9 + ((p + 1).toNat)))], [r0, zH s1 zL1 0, r2, r3, r4, r5, r6, r7, r8, r9])) rfl ?_
          obtain ⟨g28, H⟩ := zgd H
          refine zB.iald oX2_sumFrom (g := 1) (p := 9 + (p + 1).toNat) (N := 6) (i := y15) rfl rfl (by omega) rfl (zg_1_9 _ (by omega)) (by decide) g28.2 ?_
          refine xB.run oX2_sumFrom 3 (s := (78, [some (.ref 1024), some (.int (zI p)), some (.int (zI str)), some (.int (zI push)), some (.int (zI lng)), some (.int (zI t)), some (.int (zI (s1 (9 + (p + 1).toNat) y15.toNat))), some (.int (zI y15))], [.int (zI str), .int (zI t)], [r0, zH s1 zL1 0, r2, r3, r4, r5, r6, r7, r8, r9])) rfl ?_
          refine zB.opi oX2_sumFrom rfl (zi_mul t str) ?_
          refine xB.run oX2_sumFrom 1 (s := (80, [some (.ref 1024), some (.int (zI p)), some (.int (zI str)), some (.int (zI push)), some (.int (zI lng)), some (.int (zI t)), some (.int (zI (s1 (9 + (p + 1).toNat) y15.toNat))), some (.int (zI y15))], [.int (zI push), .int (zI (t * str))], [r0, zH s1 zL1 0, r2, r3, r4, r5, r6, r7, r8, r9])) rfl ?_
          obtain ⟨g27, H⟩ := zgd H
          have H := zif H
          refine xB.brE oX2_sumFrom (P := (t * str) < push) rfl (zc_lt (a := t * str) (b := push) g27) (fun h18 => ?_) (fun h18 => ?_)
          · have H := H.1 h18
            refine xB.run oX2_sumFrom 5 (s := (102, [some (.ref 1024), some (.int (zI p)), some (.int (zI str)), some (.int (zI push)), some (.int (zI lng)), some (.int (zI t)), some (.int (zI (s1 (9 + (p + 1).toNat) y15.toNat))), some (.int (zI 0))], [.int (zI p), .ref 1032], [r0, zH s1 zL1 0, r2, r3, r4, r5, r6, r7, r8, r9])) rfl ?_
            obtain ⟨g20, H⟩ := zgd H
            refine zB.aaldG oX2_sumFrom (g := 1) (p := 8) (N := 8) (c := 3) (g2 := 1) (p2 := 9) rfl rfl (by decide) rfl rfl (by decide) (by decide) g20 ?_
            refine xB.run oX2_sumFrom 4 (s := (123, [some (.ref 1024), some (.int (zI p)), some (.int (zI str)), some (.int (zI push)), some (.int (zI lng)), some (.int (zI t)), some (.int (zI (s1 (9 + (p + 1).toNat) y15.toNat))), some (.int (zI 0))], [.int (zI 1000000), .int (zI t), .ref (1024 * 1 + (9 + p.toNat))], [r0, zH s1 zL1 0, r2, r3, r4, r5, r6, r7, r8, r9])) rfl ?_
            obtain ⟨g19, H⟩ := zgd H
            refine zB.iast oX2_sumFrom (g := 1) (p := 9 + p.toNat) (N := 6) (i := t) (hp1 := [r0, zH (upz s1 (9 + p.toNat) t.toNat 1000000) zL1 0, r2, r3, r4, r5, r6, r7, r8, r9]) rfl rfl (by omega) (by decide) rfl (zg_1_9 _ (by omega)) (by decide) g19.2 rfl ?_
            refine zB.inc oX2_sumFrom rfl (lv2 := [some (.ref 1024), some (.int (zI p)), some (.int (zI str)), some (.int (zI push)), some (.int (zI lng)), some (.int (zI (t + 1))), some (.int (zI (s1 (9 + (p + 1).toNat) y15.toNat))), some (.int (zI 0))]) (zi_inc (a := 0) (zi_addp1 t) _ rfl) ?_
            refine xB.run oX2_sumFrom 1 (s := (16, [some (.ref 1024), some (.int (zI p)), some (.int (zI str)), some (.int (zI push)), some (.int (zI lng)), some (.int (zI (t + 1))), some (.int (zI (s1 (9 + (p + 1).toNat) y15.toNat))), some (.int (zI 0))], [], [r0, zH (upz s1 (9 + p.toNat) t.toNat 1000000) zL1 0, r2, r3, r4, r5, r6, r7, r8, r9])) rfl ?_
            refine xB.forget (lv1 := [some (.ref 1024), some (.int (zI p)), some (.int (zI str)), some (.int (zI push)), some (.int (zI lng)), some (.int (zI (t + 1))), none, none]) (xle_same (xle_same (xle_same (xle_same (xle_same (xle_same (xle_none (xle_none (xle_nil))))))))) ?_
            exact ih (t + 1) (upz s1 (9 + p.toNat) t.toNat 1000000) H K
          · have H := H.2 h18
            refine xB.run oX2_sumFrom 2 (s := (87, [some (.ref 1024), some (.int (zI p)), some (.int (zI str)), some (.int (zI push)), some (.int (zI lng)), some (.int (zI t)), some (.int (zI (s1 (9 + (p + 1).toNat) y15.toNat))), some (.int (zI y15))], [.int (zI 1000000), .int (zI (s1 (9 + (p + 1).toNat) y15.toNat))], [r0, zH s1 zL1 0, r2, r3, r4, r5, r6, r7, r8, r9])) rfl ?_
            obtain ⟨g26, H⟩ := zgd H
            have H := zif H
            refine xB.brE oX2_sumFrom (P := (1000000 : Int) ≤ (s1 (9 + (p + 1).toNat) y15.toNat)) rfl (zc_ge (a := s1 (9 + (p + 1).toNat) y15.toNat) (b := 1000000) ⟨g26, by decide⟩) (fun h21 => ?_) (fun h21 => ?_)
            · have H := H.1 h21
              refine xB.run oX2_sumFrom 5 (s := (102, [some (.ref 1024), some (.int (zI p)), some (.int (zI str)), some (.int (zI push)), some (.int (zI lng)), some (.int (zI t)), some (.int (zI (s1 (9 + (p + 1).toNat) y15.toNat))), some (.int (zI 0))], [.int (zI p), .ref 1032], [r0, zH s1 zL1 0, r2, r3, r4, r5, r6, r7, r8, r9])) rfl ?_
              obtain ⟨g23, H⟩ := zgd H
              refine zB.aaldG oX2_sumFrom (g := 1) (p := 8) (N := 8) (c := 3) (g2 := 1) (p2 := 9) rfl rfl (by decide) rfl rfl (by decide) (by decide) g23 ?_
              refine xB.run oX2_sumFrom 4 (s := (123, [some (.ref 1024), some (.int (zI p)), some (.int (zI str)), some (.int (zI push)), some (.int (zI lng)), some (.int (zI t)), some (.int (zI (s1 (9 + (p + 1).toNat) y15.toNat))), some (.int (zI 0))], [.int (zI 1000000), .int (zI t), .ref (1024 * 1 + (9 + p.toNat))], [r0, zH s1 zL1 0, r2, r3, r4, r5, r6, r7, r8, r9])) rfl ?_
              obtain ⟨g22, H⟩ := zgd H
              refine zB.iast oX2_sumFrom (g := 1) (p := 9 + p.toNat) (N := 6) (i := t) (hp1 := [r0, zH (upz s1 (9 + p.toNat) t.toNat 1000000) zL1 0, r2, r3, r4, r5, r6, r7, r8, r9]) rfl rfl (by omega) (by decide) rfl (zg_1_9 _ (by omega)) (by decide) g22.2 rfl ?_
              refine zB.inc oX2_sumFrom rfl (lv2 := [some (.ref 1024), some (.int (zI p)), some (.int (zI str)), some (.int (zI push)), some (.int (zI lng)), some (.int (zI (t + 1))), some (.int (zI (s1 (9 + (p + 1).toNat) y15.toNat))), some (.int (zI 0))]) (zi_inc (a := 0) (zi_addp1 t) _ rfl) ?_
              refine xB.run oX2_sumFrom 1 (s := (16, [some (.ref 1024), some (.int (zI p)), some (.int (zI str)), some (.int (zI push)), some (.int (zI lng)), some (.int (zI (t + 1))), some (.int (zI (s1 (9 + (p + 1).toNat) y15.toNat))), some (.int (zI 0))], [], [r0, zH (upz s1 (9 + p.toNat) t.toNat 1000000) zL1 0, r2, r3, r4, r5, r6, r7, r8, r9])) rfl ?_
              refine xB.forget (lv1 := [some (.ref 1024), some (.int (zI p)), some (.int (zI str)), some (.int (zI push)), some (.int (zI lng)), some (.int (zI (t + 1))), none, none]) (xle_same (xle_same (xle_same (xle_same (xle_same (xle_same (xle_none (xle_none (xle_nil))))))))) ?_
              exact ih (t + 1) (upz s1 (9 + p.toNat) t.toNat 1000000) H K
            · have H := H.2 h21
              refine xB.run oX2_sumFrom 6 (s := (102, [some (.ref 1024), some (.int (zI p)), some (.int (zI str)), some (.int (zI push)), some (.int (zI lng)), some (.int (zI t)), some (.int (zI (s1 (9 + (p + 1).toNat) y15.toNat))), some (.int (zI 1))], [.int (zI p), .ref 1032], [r0, zH s1 zL1 0, r2, r3, r4, r5, r6, r7, r8, r9])) rfl ?_
              obtain ⟨g25, H⟩ := zgd H
              refine zB.aaldG oX2_sumFrom (g := 1) (p := 8) (N := 8) (c := 3) (g2 := 1) (p2 := 9) rfl rfl (by decide) rfl rfl (by decide) (by decide) g25 ?_
              refine xB.run oX2_sumFrom 5 (s := (114, [some (.ref 1024), some (.int (zI p)), some (.int (zI str)), some (.int (zI push)), some (.int (zI lng)), some (.int (zI t)), some (.int (zI (s1 (9 + (p + 1).toNat) y15.toNat))), some (.int (zI 1))], [.int (zI lng), .int (zI t), .int (zI t), .ref (1024 * 1 + (9 + p.toNat))], [r0, zH s1 zL1 0, r2, r3, r4, r5, r6, r7, r8, r9])) rfl ?_
              refine zB.opi oX2_sumFrom rfl (zi_mul t lng) ?_
              refine xB.run oX2_sumFrom 1 (s := (117, [some (.ref 1024), some (.int (zI p)), some (.int (zI str)), some (.int (zI push)), some (.int (zI lng)), some (.int (zI t)), some (.int (zI (s1 (9 + (p + 1).toNat) y15.toNat))), some (.int (zI 1))], [.int (zI (s1 (9 + (p + 1).toNat) y15.toNat)), .int (zI (t * lng)), .int (zI t), .ref (1024 * 1 + (9 + p.toNat))], [r0, zH s1 zL1 0, r2, r3, r4, r5, r6, r7, r8, r9])) rfl ?_
              refine zB.opi oX2_sumFrom rfl (zi_add (t * lng) (s1 (9 + (p + 1).toNat) y15.toNat)) ?_
              refine xB.run oX2_sumFrom 1 (s := (123, [some (.ref 1024), some (.int (zI p)), some (.int (zI str)), some (.int (zI push)), some (.int (zI lng)), some (.int (zI t)), some (.int (zI (s1 (9 + (p + 1).toNat) y15.toNat))), some (.int (zI 1))], [.int (zI ((t * lng) + (s1 (9 + (p + 1).toNat) y15.toNat))), .int (zI t), .ref (1024 * 1 + (9 + p.toNat))], [r0, zH s1 zL1 0, r2, r3, r4, r5, r6, r7, r8, r9])) rfl ?_
              obtain ⟨g24, H⟩ := zgd H
              refine zB.iast oX2_sumFrom (g := 1) (p := 9 + p.toNat) (N := 6) (i := t) (hp1 := [r0, zH (upz s1 (9 + p.toNat) t.toNat ((t * lng) + (s1 (9 + (p + 1).toNat) y15.toNat))) zL1 0, r2, r3, r4, r5, r6, r7, r8, r9]) rfl rfl (by omega) (by decide) rfl (zg_1_9 _ (by omega)) (by decide) g24.2 rfl ?_
              refine zB.inc oX2_sumFrom rfl (lv2 := [some (.ref 1024), some (.int (zI p)), some (.int (zI str)), some (.int (zI push)), some (.int (zI lng)), some (.int (zI (t + 1))), some (.int (zI (s1 (9 + (p + 1).toNat) y15.toNat))), some (.int (zI 1))]) (zi_inc (a := 0) (zi_addp1 t) _ rfl) ?_
              refine xB.run oX2_sumFrom 1 (s := (16, [some (.ref 1024), some (.int (zI p)), some (.int (zI str)), some (.int (zI push)), some (.int (zI lng)), some (.int (zI (t + 1))), some (.int (zI (s1 (9 + (p + 1).toNat) y15.toNat))), some (.int (zI 1))], [], [r0, zH (upz s1 (9 + p.toNat) t.toNat ((t * lng) + (s1 (9 + (p + 1).toNat) y15.toNat))) zL1 0, r2, r3, r4, r5, r6, r7, r8, r9])) rfl ?_
              refine xB.forget (lv1 := [some (.ref 1024), some (.int (zI p)), some (.int (zI str)), some (.int (zI push)), some (.int (zI lng)), some (.int (zI (t + 1))), none, none]) (xle_same (xle_same (xle_same (xle_same (xle_same (xle_same (xle_none (xle_none (xle_nil))))))))) ?_
              exact ih (t + 1) (upz s1 (9 + p.toNat) t.toNat ((t * lng) + (s1 (9 + (p + 1).toNat) y15.toNat))) H K
        · have H := H.2 h17
          refine xB.run oX2_sumFrom 5 (s := (78, [some (.ref 1024), some (.int (zI p)), some (.int (zI str)), some (.int (zI push)), some (.int (zI lng)), some (.int (zI t)), some (.int (zI 1000000)), some (.int (zI y15))], [.int (zI str), .int (zI t)], [r0, zH s1 zL1 0, r2, r3, r4, r5, r6, r7, r8, r9])) rfl ?_
          refine zB.opi oX2_sumFrom rfl (zi_mul t str) ?_
          refine xB.run oX2_sumFrom 1 (s := (80, [some (.ref 1024), some (.int (zI p)), some (.int (zI str)), some (.int (zI push)), some (.int (zI lng)), some (.int (zI t)), some (.int (zI 1000000)), some (.int (zI y15))], [.int (zI push), .int (zI (t * str))], [r0, zH s1 zL1 0, r2, r3, r4, r5, r6, r7, r8, r9])) rfl ?_
          obtain ⟨g35, H⟩ := zgd H
          have H := zif H
          refine xB.brE oX2_sumFrom (P := (t * str) < push) rfl (zc_lt (a := t * str) (b := push) g35) (fun h30 => ?_) (fun h30 => ?_)
          · have H := H.1 h30
            refine xB.run oX2_sumFrom 5 (s := (102, [some (.ref 1024), some (.int (zI p)), some (.int (zI str)), some (.int (zI push)), some (.int (zI lng)), some (.int (zI t)), some (.int (zI 1000000)), some (.int (zI 0))], [.int (zI p), .ref 1032], [r0, zH s1 zL1 0, r2, r3, r4, r5, r6, r7, r8, r9])) rfl ?_
            obtain ⟨g32, H⟩ := zgd H
            refine zB.aaldG oX2_sumFrom (g := 1) (p := 8) (N := 8) (c := 3) (g2 := 1) (p2 := 9) rfl rfl (by decide) rfl rfl (by decide) (by decide) g32 ?_
            refine xB.run oX2_sumFrom 4 (s := (123, [some (.ref 1024), some (.int (zI p)), some (.int (zI str)), some (.int (zI push)), some (.int (zI lng)), some (.int (zI t)), some (.int (zI 1000000)), some (.int (zI 0))], [.int (zI 1000000), .int (zI t), .ref (1024 * 1 + (9 + p.toNat))], [r0, zH s1 zL1 0, r2, r3, r4, r5, r6, r7, r8, r9])) rfl ?_
            obtain ⟨g31, H⟩ := zgd H
            refine zB.iast oX2_sumFrom (g := 1) (p := 9 + p.toNat) (N := 6) (i := t) (hp1 := [r0, zH (upz s1 (9 + p.toNat) t.toNat 1000000) zL1 0, r2, r3, r4, r5, r6, r7, r8, r9]) rfl rfl (by omega) (by decide) rfl (zg_1_9 _ (by omega)) (by decide) g31.2 rfl ?_
            refine zB.inc oX2_sumFrom rfl (lv2 := [some (.ref 1024), some (.int (zI p)), some (.int (zI str)), some (.int (zI push)), some (.int (zI lng)), some (.int (zI (t + 1))), some (.int (zI 1000000)), some (.int (zI 0))]) (zi_inc (a := 0) (zi_addp1 t) _ rfl) ?_
            refine xB.run oX2_sumFrom 1 (s := (16, [some (.ref 1024), some (.int (zI p)), some (.int (zI str)), some (.int (zI push)), some (.int (zI lng)), some (.int (zI (t + 1))), some (.int (zI 1000000)), some (.int (zI 0))], [], [r0, zH (upz s1 (9 + p.toNat) t.toNat 1000000) zL1 0, r2, r3, r4, r5, r6, r7, r8, r9])) rfl ?_
            refine xB.forget (lv1 := [some (.ref 1024), some (.int (zI p)), some (.int (zI str)), some (.int (zI push)), some (.int (zI lng)), some (.int (zI (t + 1))), none, none]) (xle_same (xle_same (xle_same (xle_same (xle_same (xle_same (xle_none (xle_none (xle_nil))))))))) ?_
            exact ih (t + 1) (upz s1 (9 + p.toNat) t.toNat 1000000) H K
          · have H := H.2 h30
            refine xB.run oX2_sumFrom 8 (s := (102, [some (.ref 1024), some (.int (zI p)), some (.int (zI str)), some (.int (zI push)), some (.int (zI lng)), some (.int (zI t)), some (.int (zI 1000000)), some (.int (zI 0))], [.int (zI p), .ref 1032], [r0, zH s1 zL1 0, r2, r3, r4, r5, r6, r7, r8, r9])) rfl ?_
            obtain ⟨g34, H⟩ := zgd H
            refine zB.aaldG oX2_sumFrom (g := 1) (p := 8) (N := 8) (c := 3) (g2 := 1) (p2 := 9) rfl rfl (by decide) rfl rfl (by decide) (by decide) g34 ?_
            refine xB.run oX2_sumFrom 4 (s := (123, [some (.ref 1024), some (.int (zI p)), some (.int (zI str)), some (.int (zI push)), some (.int (zI lng)), some (.int (zI t)), some (.int (zI 1000000)), some (.int (zI 0))], [.int (zI 1000000), .int (zI t), .ref (1024 * 1 + (9 + p.toNat))], [r0, zH s1 zL1 0, r2, r3, r4, r5, r6, r7, r8, r9])) rfl ?_
            obtain ⟨g33, H⟩ := zgd H
            refine zB.iast oX2_sumFrom (g := 1) (p := 9 + p.toNat) (N := 6) (i := t) (hp1 := [r0, zH (upz s1 (9 + p.toNat) t.toNat 1000000) zL1 0, r2, r3, r4, r5, r6, r7, r8, r9]) rfl rfl (by omega) (by decide) rfl (zg_1_9 _ (by omega)) (by decide) g33.2 rfl ?_
            refine zB.inc oX2_sumFrom rfl (lv2 := [some (.ref 1024), some (.int (zI p)), some (.int (zI str)), some (.int (zI push)), some (.int (zI lng)), some (.int (zI (t + 1))), some (.int (zI 1000000)), some (.int (zI 0))]) (zi_inc (a := 0) (zi_addp1 t) _ rfl) ?_
            refine xB.run oX2_sumFrom 1 (s := (16, [some (.ref 1024), some (.int (zI p)), some (.int (zI str)), some (.int (zI push)), some (.int (zI lng)), some (.int (zI (t + 1))), some (.int (zI 1000000)), some (.int (zI 0))], [], [r0, zH (upz s1 (9 + p.toNat) t.toNat 1000000) zL1 0, r2, r3, r4, r5, r6, r7, r8, r9])) rfl ?_
            refine xB.forget (lv1 := [some (.ref 1024), some (.int (zI p)), some (.int (zI str)), some (.int (zI push)), some (.int (zI lng)), some (.int (zI (t + 1))), none, none]) (xle_same (xle_same (xle_same (xle_same (xle_same (xle_same (xle_none (xle_none (xle_nil))))))))) ?_
            exact ih (t + 1) (upz s1 (9 + p.toNat) t.toNat 1000000) H K
set_option maxRecDepth 20000 in
theorem t_X2_sumFrom (r0 : List va_E) (s1 : zZ) (r2 : List va_E) (r3 : List va_E) (r4 : List va_E) (r5 : List va_E) (r6 : List va_E) (r7 : List va_E) (r8 : List va_E) (r9 : List va_E) (p : Int) (str : Int) {rr : zZ} (H : d_X2_sumFrom s1 p str = some rr) : xC MX2_sumFrom 2 [.ref 1024, .int (zI p), .int (zI str)] ([r0, zH s1 zL1 0, r2, r3, r4, r5, r6, r7, r8, r9]) (none) ([r0, zH rr zL1 0, r2, r3, r4, r5, r6, r7, r8, r9]) := by
  refine ⟨Nat.le_of_ble_eq_true rfl, ?_⟩
  show xBody MX2_sumFrom 2 0 [some (.ref 1024), some (.int (zI p)), some (.int (zI str)), none, none, none, none, none] [] ([r0, zH s1 zL1 0, r2, r3, r4, r5, r6, r7, r8, r9]) _ _
  unfold d_X2_sumFrom at H
  refine xB.run oX2_sumFrom 2 (s := (2, [some (.ref 1024), some (.int (zI p)), some (.int (zI str)), none, none, none, none, none], [.int (zI p), .ref 1024], [r0, zH s1 zL1 0, r2, r3, r4, r5, r6, r7, r8, r9])) rfl ?_
  obtain ⟨y1, e2, H⟩ := zbd H
  refine xB.call oX2_sumFrom (M2 := MX2_pushAlong) rfl rfl ((t_X2_pushAlong r0 s1 r2 r3 r4 r5 r6 r7 r8 r9 p e2).deep (by decide : 1 ≤ 1)) ?_
  show xBody MX2_sumFrom 2 5 [some (.ref 1024), some (.int (zI p)), some (.int (zI str)), none, none, none, none, none] [.int (zI y1)] ([r0, zH s1 zL1 0, r2, r3, r4, r5, r6, r7, r8, r9]) _ _
  refine xB.run oX2_sumFrom 3 (s := (8, [some (.ref 1024), some (.int (zI p)), some (.int (zI str)), some (.int (zI y1)), none, none, none, none], [.int (zI p), .ref 1024], [r0, zH s1 zL1 0, r2, r3, r4, r5, r6, r7, r8, r9])) rfl ?_
  obtain ⟨y3, e4, H⟩ := zbd H
  refine xB.call oX2_sumFrom (M2 := MX2_lengthOf) rfl rfl ((t_X2_lengthOf r0 s1 r2 r3 r4 r5 r6 r7 r8 r9 p e4).deep (by decide : 1 ≤ 1)) ?_
  show xBody MX2_sumFrom 2 11 [some (.ref 1024), some (.int (zI p)), some (.int (zI str)), some (.int (zI y1)), none, none, none, none] [.int (zI y3)] ([r0, zH s1 zL1 0, r2, r3, r4, r5, r6, r7, r8, r9]) _ _
  refine xB.run oX2_sumFrom 3 (s := (16, [some (.ref 1024), some (.int (zI p)), some (.int (zI str)), some (.int (zI y1)), some (.int (zI y3)), some (.int (zI 1)), none, none], [], [r0, zH s1 zL1 0, r2, r3, r4, r5, r6, r7, r8, r9])) rfl ?_
  obtain ⟨y39, e40, H⟩ := zbd H
  refine l_X2_sumFrom_16 r0 r2 r3 r4 r5 r6 r7 r8 r9 p str y1 y3 _ 1 s1 e40 ?_
  obtain rfl := Option.some.inj H
  exact xB.ret oX2_sumFrom (r1 := none) rfl rfl rfl
def d_X2_thickness_7 (str : Int) (p : Int) : Nat → Int → zZ → Option (Int × zZ)
  | 0, _, _ => none
  | uN + 1, u, s1 => if (zr u) then (if u < 0 then some (u, s1) else ((d_X2_sumFrom s1 u str).bind fun y2 => d_X2_thickness_7 str p uN (u + (-1)) y2)) else none
def d_X2_thickness_58 (s1 : zZ) (str : Int) (p : Int) : Nat → Int → Int → Option (Int × Int)
  | 0, _, _ => none
  | uN + 1, u, b => if (zr b ∧ zr p) then (if p < b then some (u, b) else ((d_X2_bestThickness s1 b (u - 1) (u + 1)).bind fun y14 => d_X2_thickness_58 s1 str p uN y14 (b + 1))) else none
def d_X2_thickness (s1 : zZ) (str : Int) (p : Int) : Option (Int × zZ) := (d_X2_thickness_7 str p zF ((s1 0 3) - 1) s1).bind fun y5 => (d_X2_bestThickness y5.2 0 1 5).bind fun y7 => if (zr y7) then (if y7 ≠ 0 then ((d_X2_isPanel y5.2 p).bind fun y10 => if (zr y10) then (if y10 ≠ 0 then ((d_X2_thickness_58 y5.2 str p zF y7 1).bind fun y17 => some (y17.1, y5.2)) else (if (0 ≤ y7 ∧ y7 < 6) then some (y5.2 9 y7.toNat, y5.2) else none)) else none) else some ((-9), y5.2)) else none
set_option maxRecDepth 20000 in
theorem l_X2_thickness_7 (r0 : List va_E) (r2 : List va_E) (r3 : List va_E) (r4 : List va_E) (r5 : List va_E) (r6 : List va_E) (r7 : List va_E) (r8 : List va_E) (r9 : List va_E) (str : Int) (p : Int) {r : Option Value} {hp1 : xH} : ∀ (uN : Nat) (u : Int) (s1 : zZ) {uX : Int × zZ}, d_X2_thickness_7 str p uN u s1 = some uX → (xBody MX2_thickness 3 23 [some (.ref 1024), some (.int (zI str)), some (.int (zI p)), some (.int (zI uX.1)), none] [] ([r0, zH uX.2 zL1 0, r2, r3, r4, r5, r6, r7, r8, r9]) r hp1) → xBody MX2_thickness 3 7 [some (.ref 1024), some (.int (zI str)), some (.int (zI p)), some (.int (zI u)), none] [] ([r0, zH s1 zL1 0, r2, r3, r4, r5, r6, r7, r8, r9]) r hp1 := by
  intro uN
  induction uN with
  | zero => intro u s1 uX H K; cases H
  | succ uN ih =>
    intro u s1 uX H K
    unfold d_X2_thickness_7 at H
    refine xB.run oX2_thickness 1 (s := (8, [some (.ref 1024), some (.int (zI str)), some (.int (zI p)), some (.int (zI u)), none], [.int (zI u)], [r0, zH s1 zL1 0, r2, r3, r4, r5, r6, r7, r8, r9])) rfl ?_
    obtain ⟨g4, H⟩ := zgd H
    have H := zif H
    refine xB.brE oX2_thickness (P := u < 0) rfl (zc_lt (a := u) (b := 0) ⟨g4, by decide⟩) (fun h1 => ?_) (fun h1 => ?_)
    · have H := H.1 h1
      obtain rfl := Option.some.inj H
      exact K
    · have H := H.2 h1
      refine xB.run oX2_thickness 3 (s := (14, [some (.ref 1024), some (.int (zI str)), some (.int (zI p)), some (.int (zI u)), none], [.int (zI str), .int (zI u), .ref 1024], [r0, zH s1 zL1 0, r2, r3, r4, r5, r6, r7, r8, r9])) rfl ?_
      obtain ⟨y2, e3, H⟩ := zbd H
      refine xB.call oX2_thickness (M2 := MX2_sumFrom) rfl rfl ((t_X2_sumFrom r0 s1 r2 r3 r4 r5 r6 r7 r8 r9 u str e3).deep (by decide : 2 ≤ 2)) ?_
      show xBody MX2_thickness 3 17 [some (.ref 1024), some (.int (zI str)), some (.int (zI p)), some (.int (zI u)), none] [] ([r0, zH y2 zL1 0, r2, r3, r4, r5, r6, r7, r8, r9]) _ _
      refine zB.inc oX2_thickness rfl (lv2 := [some (.ref 1024), some (.int (zI str)), some (.int (zI p)), some (.int (zI (u + (-1)))), none]) (zi_inc (a := 0) (zi_addm1 u) _ rfl) ?_
      refine xB.run oX2_thickness 1 (s := (7, [some (.ref 1024), some (.int (zI str)), some (.int (zI p)), some (.int (zI (u + (-1)))), none], [], [r0, zH y2 zL1 0, r2, r3, r4, r5, r6, r7, r8, r9])) rfl ?_
      exact ih (u + (-1)) y2 H K
set_option maxRecDepth 20000 in
theorem l_X2_thickness_58 (r0 : List va_E) (s1 : zZ) (r2 : List va_E) (r3 : List va_E) (r4 : List va_E) (r5 : List va_E) (r6 : List va_E) (r7 : List va_E) (r8 : List va_E) (r9 : List va_E) (str : Int) (p : Int) {r : Option Value} {hp1 : xH} : ∀ (uN : Nat) (u : Int) (b : Int) {uX : Int × Int}, d_X2_thickness_58 s1 str p uN u b = some uX → (xBody MX2_thickness 3 83 [some (.ref 1024), some (.int (zI str)), some (.int (zI p)), some (.int (zI uX.1)), some (.int (zI uX.2))] [] ([r0, zH s1 zL1 0, r2, r3, r4, r5, r6, r7, r8, r9]) r hp1) → xBody MX2_thickness 3 58 [some (.ref 1024), some (.int (zI str)), some (.int (zI p)), some (.int (zI u)), some (.int (zI b))] [] ([r0, zH s1 zL1 0, r2, r3, r4, r5, r6, r7, r8, r9]) r hp1 := by
  intro uN
  induction uN with
  | zero => intro u b uX H K; cases H
  | succ uN ih =>
    intro u b uX H K
    unfold d_X2_thickness_58 at H
    refine xB.run oX2_thickness 2 (s := (61, [some (.ref 1024), some (.int (zI str)), some (.int (zI p)), some (.int (zI u)), some (.int (zI b))], [.int (zI p), .int (zI b)], [r0, zH s1 zL1 0, r2, r3, r4, r5, r6, r7, r8, r9])) rfl ?_
    obtain ⟨g16, H⟩ := zgd H
    have H := zif H
    refine xB.brE oX2_thickness (P := p < b) rfl (zc_gt (a := b) (b := p) g16) (fun h13 => ?_) (fun h13 => ?_)
    · have H := H.1 h13
      obtain rfl := Option.some.inj H
      exact K
    · have H := H.2 h13
      refine xB.run oX2_thickness 4 (s := (69, [some (.ref 1024), some (.int (zI str)), some (.int (zI p)), some (.int (zI u)), some (.int (zI b))], [.int (zI 1), .int (zI u), .int (zI b), .ref 1024], [r0, zH s1 zL1 0, r2, r3, r4, r5, r6, r7, r8, r9])) rfl ?_
      refine zB.opi oX2_thickness rfl (zi_sub u 1) ?_
      refine xB.run oX2_thickness 2 (s := (72, [some (.ref 1024), some (.int (zI str)), some (.int (zI p)), some (.int (zI u)), some (.int (zI b))], [.int (zI 1), .int (zI u), .int (zI (u - 1)), .int (zI b), .ref 1024], [r0, zH s1 zL1 0, r2, r3, r4, r5, r6, r7, r8, r9])) rfl ?_
      refine zB.opi oX2_thickness rfl (zi_add u 1) ?_
      obtain ⟨y14, e15, H⟩ := zbd H
      refine xB.call oX2_thickness (M2 := MX2_bestThickness) rfl rfl ((t_X2_bestThickness r0 s1 r2 r3 r4 r5 r6 r7 r8 r9 b (u - 1) (u + 1) e15).deep (by decide : 1 ≤ 2)) ?_
      show xBody MX2_thickness 3 76 [some (.ref 1024), some (.int (zI str)), some (.int (zI p)), some (.int (zI u)), some (.int (zI b))] [.int (zI y14)] ([r0, zH s1 zL1 0, r2, r3, r4, r5, r6, r7, r8, r9]) _ _
      refine xB.run oX2_thickness 1 (s := (77, [some (.ref 1024), some (.int (zI str)), some (.int (zI p)), some (.int (zI y14)), some (.int (zI b))], [], [r0, zH s1 zL1 0, r2, r3, r4, r5, r6, r7, r8, r9])) rfl ?_
      refine zB.inc oX2_thickness rfl (lv2 := [some (.ref 1024), some (.int (zI str)), some (.int (zI p)), some (.int (zI y14)), some (.int (zI (b + 1)))]) (zi_inc (a := 0) (zi_addp1 b) _ rfl) ?_
      refine xB.run oX2_thickness 1 (s := (58, [some (.ref 1024), some (.int (zI str)), some (.int (zI p)), some (.int (zI y14)), some (.int (zI (b + 1)))], [], [r0, zH s1 zL1 0, r2, r3, r4, r5, r6, r7, r8, r9])) rfl ?_
      exact ih y14 (b + 1) H K
set_option maxRecDepth 20000 in
theorem t_X2_thickness (r0 : List va_E) (s1 : zZ) (r2 : List va_E) (r3 : List va_E) (r4 : List va_E) (r5 : List va_E) (r6 : List va_E) (r7 : List va_E) (r8 : List va_E) (r9 : List va_E) (str : Int) (p : Int) {rr : Int × zZ} (H : d_X2_thickness s1 str p = some rr) : xC MX2_thickness 3 [.ref 1024, .int (zI str), .int (zI p)] ([r0, zH s1 zL1 0, r2, r3, r4, r5, r6, r7, r8, r9]) (some (.int (zI rr.1))) ([r0, zH rr.2 zL1 0, r2, r3, r4, r5, r6, r7, r8, r9]) := by
  refine ⟨Nat.le_of_ble_eq_true rfl, ?_⟩
  show xBody MX2_thickness 3 0 [some (.ref 1024), some (.int (zI str)), some (.int (zI p)), none, none] [] ([r0, zH s1 zL1 0, r2, r3, r4, r5, r6, r7, r8, r9]) _ _
  unfold d_X2_thickness at H
  refine xB.run oX2_thickness 3 (s := (5, [some (.ref 1024), some (.int (zI str)), some (.int (zI p)), none, none], [.int (zI 1), .int (zI (s1 0 3))], [r0, zH s1 zL1 0, r2, r3, r4, r5, r6, r7, r8, r9])) rfl ?_
  refine zB.opi oX2_thickness rfl (zi_sub (s1 0 3) 1) ?_
  refine xB.run oX2_thickness 1 (s := (7, [some (.ref 1024), some (.int (zI str)), some (.int (zI p)), some (.int (zI ((s1 0 3) - 1))), none], [], [r0, zH s1 zL1 0, r2, r3, r4, r5, r6, r7, r8, r9])) rfl ?_
  obtain ⟨y5, e6, H⟩ := zbd H
  refine l_X2_thickness_7 r0 r2 r3 r4 r5 r6 r7 r8 r9 str p _ ((s1 0 3) - 1) s1 e6 ?_
  refine xB.run oX2_thickness 4 (s := (27, [some (.ref 1024), some (.int (zI str)), some (.int (zI p)), some (.int (zI y5.1)), none], [.int (zI 5), .int (zI 1), .int (zI 0), .ref 1024], [r0, zH y5.2 zL1 0, r2, r3, r4, r5, r6, r7, r8, r9])) rfl ?_
  obtain ⟨y7, e8, H⟩ := zbd H
  refine xB.call oX2_thickness (M2 := MX2_bestThickness) rfl rfl ((t_X2_bestThickness r0 y5.2 r2 r3 r4 r5 r6 r7 r8 r9 0 1 5 e8).deep (by decide : 1 ≤ 2)) ?_
  show xBody MX2_thickness 3 30 [some (.ref 1024), some (.int (zI str)), some (.int (zI p)), some (.int (zI y5.1)), none] [.int (zI y7)] ([r0, zH y5.2 zL1 0, r2, r3, r4, r5, r6, r7, r8, r9]) _ _
  refine xB.run oX2_thickness 2 (s := (32, [some (.ref 1024), some (.int (zI str)), some (.int (zI p)), some (.int (zI y7)), none], [.int (zI y7)], [r0, zH y5.2 zL1 0, r2, r3, r4, r5, r6, r7, r8, r9])) rfl ?_
  obtain ⟨g21, H⟩ := zgd H
  have H := zif H
  refine xB.brE oX2_thickness (P := y7 ≠ 0) rfl (zc_ne (a := y7) (b := 0) ⟨g21, by decide⟩) (fun h9 => ?_) (fun h9 => ?_)
  · have H := H.1 h9
    refine xB.run oX2_thickness 2 (s := (40, [some (.ref 1024), some (.int (zI str)), some (.int (zI p)), some (.int (zI y7)), none], [.int (zI p), .ref 1024], [r0, zH y5.2 zL1 0, r2, r3, r4, r5, r6, r7, r8, r9])) rfl ?_
    obtain ⟨y10, e11, H⟩ := zbd H
    refine xB.call oX2_thickness (M2 := MX2_isPanel) rfl rfl ((t_X2_isPanel r0 y5.2 r2 r3 r4 r5 r6 r7 r8 r9 p e11).deep (by decide : 0 ≤ 2)) ?_
    show xBody MX2_thickness 3 43 [some (.ref 1024), some (.int (zI str)), some (.int (zI p)), some (.int (zI y7)), none] [.int (zI y10)] ([r0, zH y5.2 zL1 0, r2, r3, r4, r5, r6, r7, r8, r9]) _ _
    obtain ⟨g20, H⟩ := zgd H
    have H := zif H
    refine xB.brE oX2_thickness (P := y10 ≠ 0) rfl (zc_ne (a := y10) (b := 0) ⟨g20, by decide⟩) (fun h12 => ?_) (fun h12 => ?_)
    · have H := H.1 h12
      refine xB.run oX2_thickness 2 (s := (58, [some (.ref 1024), some (.int (zI str)), some (.int (zI p)), some (.int (zI y7)), some (.int (zI 1))], [], [r0, zH y5.2 zL1 0, r2, r3, r4, r5, r6, r7, r8, r9])) rfl ?_
      obtain ⟨y17, e18, H⟩ := zbd H
      refine l_X2_thickness_58 r0 y5.2 r2 r3 r4 r5 r6 r7 r8 r9 str p _ y7 1 e18 ?_
      refine xB.run oX2_thickness 1 (s := (84, [some (.ref 1024), some (.int (zI str)), some (.int (zI p)), some (.int (zI y17.1)), some (.int (zI y17.2))], [.int (zI y17.1)], [r0, zH y5.2 zL1 0, r2, r3, r4, r5, r6, r7, r8, r9])) rfl ?_
      obtain rfl := Option.some.inj H
      exact xB.ret oX2_thickness (r1 := some (.int (zI y17.1))) rfl rfl rfl
    · have H := H.2 h12
      refine xB.run oX2_thickness 3 (s := (51, [some (.ref 1024), some (.int (zI str)), some (.int (zI p)), some (.int (zI y7)), none], [.int (zI 0), .ref 1032], [r0, zH y5.2 zL1 0, r2, r3, r4, r5, r6, r7, r8, r9])) rfl ?_
      refine zB.aaldG oX2_thickness (g := 1) (p := 8) (N := 8) (c := 3) (g2 := 1) (p2 := 9) rfl rfl (by decide) rfl rfl (by decide) (by decide) (by decide) ?_
      show xBody _ _ _ _ (.ref 1033 :: _) _ _ _
      refine xB.run oX2_thickness 1 (s := (53, [some (.ref 1024), some (.int (zI str)), some (.int (zI p)), some (.int (zI y7)), none], [.int (zI y7), .ref 1033], [r0, zH y5.2 zL1 0, r2, r3, r4, r5, r6, r7, r8, r9])) rfl ?_
      obtain ⟨g19, H⟩ := zgd H
      refine zB.iald oX2_thickness (g := 1) (p := 9) (N := 6) (i := y7) rfl rfl (by decide) rfl rfl (by decide) g19 ?_
      obtain rfl := Option.some.inj H
      exact xB.ret oX2_thickness (r1 := some (.int (zI (y5.2 9 y7.toNat)))) rfl rfl rfl
  · have H := H.2 h9
    refine xB.run oX2_thickness 1 (s := (37, [some (.ref 1024), some (.int (zI str)), some (.int (zI p)), some (.int (zI y7)), none], [.int (zI (-9))], [r0, zH y5.2 zL1 0, r2, r3, r4, r5, r6, r7, r8, r9])) rfl ?_
    obtain rfl := Option.some.inj H
    exact xB.ret oX2_thickness (r1 := some (.int (zI (-9)))) rfl rfl rfl
