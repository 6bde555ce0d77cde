/-! 44.zf1 -/
def d_X11_faultAnswer (s0 : zZ) (f : Int) : Option (Int × zZ) := some ((-10) - f, upz s0 0 6 f)
set_option maxRecDepth 20000 in
theorem t_X11_faultAnswer (s0 : zZ) (r1 : List va_E) (r2 : List va_E) (r3 : List va_E) (r4 : List va_E) (r5 : List va_E) (r6 : List va_E) (r7 : List va_E) (r8 : List va_E) (r9 : List va_E) (f : Int) {rr : Int × zZ} (H : d_X11_faultAnswer s0 f = some rr) : xC MX11_faultAnswer 0 [.ref 0, .int (zI f)] ([zH s0 zL0 0, r1, r2, r3, r4, r5, r6, r7, r8, r9]) (some (.int (zI rr.1))) ([zH rr.2 zL0 0, r1, r2, r3, r4, r5, r6, r7, r8, r9]) := by
  refine ⟨Nat.le_of_ble_eq_true rfl, ?_⟩
  show xBody MX11_faultAnswer 0 0 [some (.ref 0), some (.int (zI f))] [] ([zH s0 zL0 0, r1, r2, r3, r4, r5, r6, r7, r8, r9]) _ _
  unfold d_X11_faultAnswer at H
  refine xB.run oX11_faultAnswer 2 (s := (2, [some (.ref 0), some (.int (zI f))], [.int (zI f), .ref 0], [zH s0 zL0 0, r1, r2, r3, r4, r5, r6, r7, r8, r9])) rfl ?_
  refine zB.putI oX11_faultAnswer (g := 0) (p := 0) (c := 11) (k := 6) (y := 0) (hp1 := [zH (upz s0 0 6 f) zL0 0, r1, r2, r3, r4, r5, r6, r7, r8, r9]) rfl rfl (by decide) (by decide) rfl rfl rfl rfl rfl rfl ?_
  refine xB.run oX11_faultAnswer 2 (s := (8, [some (.ref 0), some (.int (zI f))], [.int (zI f), .int (zI (-10))], [zH (upz s0 0 6 f) zL0 0, r1, r2, r3, r4, r5, r6, r7, r8, r9])) rfl ?_
  refine zB.opi oX11_faultAnswer rfl (zi_sub (-10) f) ?_
  obtain rfl := Option.some.inj H
  exact xB.ret oX11_faultAnswer (r1 := some (.int (zI ((-10) - f)))) rfl rfl rfl
def d_X11_text_53 (s0 : zZ) (s6 : zZ) (sh : Int) (lane : Int) (i : Int) (n : Int) (fl : Int) : Nat → Int → zZ → Option (Int × zZ)
  | 0, _, _ => none
  | uN + 1, pl, s1 => if (zr pl ∧ zr n) then (if n ≤ pl then some (pl, s1) else ((d_X6_number s6 sh (i + pl)).bind fun y11 => (d_X2_takeCode s1 pl y11).bind fun y13 => d_X11_text_53 s0 s6 sh lane i n fl uN (pl + 1) y13)) else none
def d_X11_text (s0 : zZ) (s1 : zZ) (s6 : zZ) (sh : Int) (lane : Int) (i : Int) (n : Int) : Option (Int × zZ × zZ) := (d_X6_isSheet sh).bind fun y1 => if (zr y1) then (if y1 ≠ 0 then ((d_X6_isLane lane).bind fun y4 => if (zr y4) then (if y4 ≠ 0 then ((d_X6_faultOfCells s6 sh lane i n).bind fun y7 => if (zr y7) then (if y7 = 0 then ((d_X11_text_53 (upz s0 0 6 0) s6 sh lane i n y7 zF 0 s1).bind fun y16 => (d_X2_becomeText y16.2 n).bind fun y18 => some (y18.1, upz s0 0 6 0, y18.2)) else ((d_X11_faultAnswer (upz s0 0 6 0) y7).bind fun y20 => some (y20.1, y20.2, s1))) else none) else some ((-2), upz s0 0 6 0, s1)) else none) else some ((-1), upz s0 0 6 0, s1)) else none
set_option maxRecDepth 20000 in
theorem l_X11_text_53 (s0 : zZ) (r2 : List va_E) (r3 : List va_E) (r4 : List va_E) (r5 : List va_E) (s6 : zZ) (r7 : List va_E) (r8 : List va_E) (r9 : List va_E) (sh : Int) (lane : Int) (i : Int) (n : Int) (fl : Int) {r : Option Value} {hp1 : xH} : ∀ (uN : Nat) (pl : Int) (s1 : zZ) {uX : Int × zZ}, d_X11_text_53 s0 s6 sh lane i n fl uN pl s1 = some uX → (xBody MX11_text 5 87 [some (.ref 0), some (.int (zI sh)), some (.int (zI lane)), some (.int (zI i)), some (.int (zI n)), some (.int (zI fl)), some (.int (zI uX.1))] [] ([zH s0 zL0 0, zH uX.2 zL1 0, r2, r3, r4, r5, zH s6 zL6 0, r7, r8, r9]) r hp1) → xBody MX11_text 5 53 [some (.ref 0), some (.int (zI sh)), some (.int (zI lane)), some (.int (zI i)), some (.int (zI n)), some (.int (zI fl)), some (.int (zI pl))] [] ([zH s0 zL0 0, zH s1 zL1 0, r2, r3, r4, r5, zH s6 zL6 0, r7, r8, r9]) r hp1 := by
  intro uN
  induction uN with
  | zero => intro pl s1 uX H K; cases H
  | succ uN ih =>
    intro pl s1 uX H K
    unfold d_X11_text_53 at H
    refine xB.run oX11_text 2 (s := (57, [some (.ref 0), some (.int (zI sh)), some (.int (zI lane)), some (.int (zI i)), some (.int (zI n)), some (.int (zI fl)), some (.int (zI pl))], [.int (zI n), .int (zI pl)], [zH s0 zL0 0, zH s1 zL1 0, r2, r3, r4, r5, zH s6 zL6 0, r7, r8, r9])) rfl ?_
    obtain ⟨g15, H⟩ := zgd H
    have H := zif H
    refine xB.brE oX11_text (P := n ≤ pl) rfl (zc_ge (a := pl) (b := n) g15) (fun h10 => ?_) (fun h10 => ?_)
    · have H := H.1 h10
      obtain rfl := Option.some.inj H
      exact K
    · have H := H.2 h10
      refine xB.run oX11_text 8 (s := (74, [some (.ref 0), some (.int (zI sh)), some (.int (zI lane)), some (.int (zI i)), some (.int (zI n)), some (.int (zI fl)), some (.int (zI pl))], [.int (zI pl), .int (zI i), .int (zI sh), .ref 6144, .int (zI pl), .ref 1024], [zH s0 zL0 0, zH s1 zL1 0, r2, r3, r4, r5, zH s6 zL6 0, r7, r8, r9])) rfl ?_
      refine zB.opi oX11_text rfl (zi_add i pl) ?_
      obtain ⟨y11, e12, H⟩ := zbd H
      refine xB.call oX11_text (M2 := MX6_number) rfl rfl ((t_X6_number (zH s0 zL0 0) (zH s1 zL1 0) r2 r3 r4 r5 s6 r7 r8 r9 sh (i + pl) e12).deep (by decide : 2 ≤ 4)) ?_
      show xBody MX11_text 5 78 [some (.ref 0), some (.int (zI sh)), some (.int (zI lane)), some (.int (zI i)), some (.int (zI n)), some (.int (zI fl)), some (.int (zI pl))] [.int (zI y11), .int (zI pl), .ref 1024] ([zH s0 zL0 0, zH s1 zL1 0, r2, r3, r4, r5, zH s6 zL6 0, r7, r8, r9]) _ _
      obtain ⟨y13, e14, H⟩ := zbd H
      refine xB.call oX11_text (M2 := MX2_takeCode) rfl rfl ((t_X2_takeCode (zH s0 zL0 0) s1 r2 r3 r4 r5 (zH s6 zL6 0) r7 r8 r9 pl y11 e14).deep (by decide : 0 ≤ 4)) ?_
      show xBody MX11_text 5 81 [some (.ref 0), some (.int (zI sh)), some (.int (zI lane)), some (.int (zI i)), some (.int (zI n)), some (.int (zI fl)), some (.int (zI pl))] [] ([zH s0 zL0 0, zH y13 zL1 0, r2, r3, r4, r5, zH s6 zL6 0, r7, r8, r9]) _ _
      refine zB.inc oX11_text rfl (lv2 := [some (.ref 0), some (.int (zI sh)), some (.int (zI lane)), some (.int (zI i)), some (.int (zI n)), some (.int (zI fl)), some (.int (zI (pl + 1)))]) (zi_inc (a := 0) (zi_addp1 pl) _ rfl) ?_
      refine xB.run oX11_text 1 (s := (53, [some (.ref 0), some (.int (zI sh)), some (.int (zI lane)), some (.int (zI i)), some (.int (zI n)), some (.int (zI fl)), some (.int (zI (pl + 1)))], [], [zH s0 zL0 0, zH y13 zL1 0, r2, r3, r4, r5, zH s6 zL6 0, r7, r8, r9])) rfl ?_
      exact ih (pl + 1) y13 H K
set_option maxRecDepth 20000 in
theorem t_X11_text (s0 : zZ) (s1 : zZ) (r2 : List va_E) (r3 : List va_E) (r4 : List va_E) (r5 : List va_E) (s6 : zZ) (r7 : List va_E) (r8 : List va_E) (r9 : List va_E) (sh : Int) (lane : Int) (i : Int) (n : Int) {rr : Int × zZ × zZ} (H : d_X11_text s0 s1 s6 sh lane i n = some rr) : xC MX11_text 5 [.ref 0, .int (zI sh), .int (zI lane), .int (zI i), .int (zI n)] ([zH s0 zL0 0, zH s1 zL1 0, r2, r3, r4, r5, zH s6 zL6 0, r7, r8, r9]) (some (.int (zI rr.1))) ([zH rr.2.1 zL0 0, zH rr.2.2 zL1 0, r2, r3, r4, r5, zH s6 zL6 0, r7, r8, r9]) := by
  refine ⟨Nat.le_of_ble_eq_true rfl, ?_⟩
  show xBody MX11_text 5 0 [some (.ref 0), some (.int (zI sh)), some (.int (zI lane)), some (.int (zI i)), some (.int (zI n)), none, none] [] ([zH s0 zL0 0, zH s1 zL1 0, r2, r3, r4, r5, zH s6 zL6 0, r7, r8, r9]) _ _
  unfold d_X11_text at H
  refine xB.run oX11_text 2 (s := (2, [some (.ref 0), some (.int (zI sh)), some (.int (zI lane)), some (.int (zI i)), some (.int (zI n)), none, none], [.int (zI 0), .ref 0], [zH s0 zL0 0, zH s1 zL1 0, r2, r3, r4, r5, zH s6 zL6 0, r7, r8, r9])) rfl ?_
  refine zB.putI oX11_text (g := 0) (p := 0) (c := 11) (k := 6) (y := 0) (hp1 := [zH (upz s0 0 6 0) zL0 0, zH s1 zL1 0, r2, r3, r4, r5, zH s6 zL6 0, r7, r8, r9]) rfl rfl (by decide) (by decide) rfl rfl rfl rfl rfl rfl ?_
  refine xB.run oX11_text 1 (s := (6, [some (.ref 0), some (.int (zI sh)), some (.int (zI lane)), some (.int (zI i)), some (.int (zI n)), none, none], [.int (zI sh)], [zH (upz s0 0 6 0) zL0 0, zH s1 zL1 0, r2, r3, r4, r5, zH s6 zL6 0, r7, r8, r9])) rfl ?_
  obtain ⟨y1, e2, H⟩ := zbd H
  refine xB.call oX11_text (M2 := MX6_isSheet) rfl rfl ((t_X6_isSheet (zH (upz s0 0 6 0) zL0 0) (zH s1 zL1 0) r2 r3 r4 r5 (zH s6 zL6 0) r7 r8 r9 sh e2).deep (by decide : 0 ≤ 4)) ?_
  show xBody MX11_text 5 9 [some (.ref 0), some (.int (zI sh)), some (.int (zI lane)), some (.int (zI i)), some (.int (zI n)), none, none] [.int (zI y1)] ([zH (upz s0 0 6 0) zL0 0, zH s1 zL1 0, r2, r3, r4, r5, zH s6 zL6 0, r7, r8, r9]) _ _
  obtain ⟨g24, H⟩ := zgd H
  have H := zif H
  refine xB.brE oX11_text (P := y1 ≠ 0) rfl (zc_ne (a := y1) (b := 0) ⟨g24, by decide⟩) (fun h3 => ?_) (fun h3 => ?_)
  · have H := H.1 h3
    refine xB.run oX11_text 1 (s := (15, [some (.ref 0), some (.int (zI sh)), some (.int (zI lane)), some (.int (zI i)), some (.int (zI n)), none, none], [.int (zI lane)], [zH (upz s0 0 6 0) zL0 0, zH s1 zL1 0, r2, r3, r4, r5, zH s6 zL6 0, r7, r8, r9])) rfl ?_
    obtain ⟨y4, e5, H⟩ := zbd H
    refine xB.call oX11_text (M2 := MX6_isLane) rfl rfl ((t_X6_isLane (zH (upz s0 0 6 0) zL0 0) (zH s1 zL1 0) r2 r3 r4 r5 (zH s6 zL6 0) r7 r8 r9 lane e5).deep (by decide : 0 ≤ 4)) ?_
    show xBody MX11_text 5 18 [some (.ref 0), some (.int (zI sh)), some (.int (zI lane)), some (.int (zI i)), some (.int (zI n)), none, none] [.int (zI y4)] ([zH (upz s0 0 6 0) zL0 0, zH s1 zL1 0, r2, r3, r4, r5, zH s6 zL6 0, r7, r8, r9]) _ _
    obtain ⟨g23, H⟩ := zgd H
    have H := zif H
    refine xB.brE oX11_text (P := y4 ≠ 0) rfl (zc_ne (a := y4) (b := 0) ⟨g23, by decide⟩) (fun h6 => ?_) (fun h6 => ?_)
    · have H := H.1 h6
      refine xB.run oX11_text 6 (s := (33, [some (.ref 0), some (.int (zI sh)), some (.int (zI lane)), some (.int (zI i)), some (.int (zI n)), none, none], [.int (zI n), .int (zI i), .int (zI lane), .int (zI sh), .ref 6144], [zH (upz s0 0 6 0) zL0 0, zH s1 zL1 0, r2, r3, r4, r5, zH s6 zL6 0, r7, r8, r9])) rfl ?_
      obtain ⟨y7, e8, H⟩ := zbd H
      refine xB.call oX11_text (M2 := MX6_faultOfCells) rfl rfl ((t_X6_faultOfCells (zH (upz s0 0 6 0) zL0 0) (zH s1 zL1 0) r2 r3 r4 r5 s6 r7 r8 r9 sh lane i n e8).deep (by decide : 2 ≤ 4)) ?_
      show xBody MX11_text 5 36 [some (.ref 0), some (.int (zI sh)), some (.int (zI lane)), some (.int (zI i)), some (.int (zI n)), none, none] [.int (zI y7)] ([zH (upz s0 0 6 0) zL0 0, zH s1 zL1 0, r2, r3, r4, r5, zH s6 zL6 0, r7, r8, r9]) _ _
      refine xB.run oX11_text 2 (s := (40, [some (.ref 0), some (.int (zI sh)), some (.int (zI lane)), some (.int (zI i)), some (.int (zI n)), some (.int (zI y7)), none], [.int (zI y7)], [zH (upz s0 0 6 0) zL0 0, zH s1 zL1 0, r2, r3, r4, r5, zH s6 zL6 0, r7, r8, r9])) rfl ?_
      obtain ⟨g22, H⟩ := zgd H
      have H := zif H
      refine xB.brE oX11_text (P := y7 = 0) rfl (zc_eq (a := y7) (b := 0) ⟨g22, by decide⟩) (fun h9 => ?_) (fun h9 => ?_)
      · have H := H.1 h9
        refine xB.run oX11_text 2 (s := (53, [some (.ref 0), some (.int (zI sh)), some (.int (zI lane)), some (.int (zI i)), some (.int (zI n)), some (.int (zI y7)), some (.int (zI 0))], [], [zH (upz s0 0 6 0) zL0 0, zH s1 zL1 0, r2, r3, r4, r5, zH s6 zL6 0, r7, r8, r9])) rfl ?_
        obtain ⟨y16, e17, H⟩ := zbd H
        refine l_X11_text_53 (upz s0 0 6 0) r2 r3 r4 r5 s6 r7 r8 r9 sh lane i n y7 _ 0 s1 e17 ?_
        refine xB.run oX11_text 3 (s := (93, [some (.ref 0), some (.int (zI sh)), some (.int (zI lane)), some (.int (zI i)), some (.int (zI n)), some (.int (zI y7)), some (.int (zI y16.1))], [.int (zI n), .ref 1024], [zH (upz s0 0 6 0) zL0 0, zH y16.2 zL1 0, r2, r3, r4, r5, zH s6 zL6 0, r7, r8, r9])) rfl ?_
        obtain ⟨y18, e19, H⟩ := zbd H
        refine xB.call oX11_text (M2 := MX2_becomeText) rfl rfl ((t_X2_becomeText (zH (upz s0 0 6 0) zL0 0) y16.2 r2 r3 r4 r5 (zH s6 zL6 0) r7 r8 r9 n e19).deep (by decide : 4 ≤ 4)) ?_
        show xBody MX11_text 5 96 [some (.ref 0), some (.int (zI sh)), some (.int (zI lane)), some (.int (zI i)), some (.int (zI n)), some (.int (zI y7)), some (.int (zI y16.1))] [.int (zI y18.1)] ([zH (upz s0 0 6 0) zL0 0, zH y18.2 zL1 0, r2, r3, r4, r5, zH s6 zL6 0, r7, r8, r9]) _ _
        obtain rfl := Option.some.inj H
        exact xB.ret oX11_text (r1 := some (.int (zI y18.1))) rfl rfl rfl
      · have H := H.2 h9
        refine xB.run oX11_text 2 (s := (46, [some (.ref 0), some (.int (zI sh)), some (.int (zI lane)), some (.int (zI i)), some (.int (zI n)), some (.int (zI y7)), none], [.int (zI y7), .ref 0], [zH (upz s0 0 6 0) zL0 0, zH s1 zL1 0, r2, r3, r4, r5, zH s6 zL6 0, r7, r8, r9])) rfl ?_
        obtain ⟨y20, e21, H⟩ := zbd H
        refine xB.call oX11_text (M2 := MX11_faultAnswer) rfl rfl ((t_X11_faultAnswer (upz s0 0 6 0) (zH s1 zL1 0) r2 r3 r4 r5 (zH s6 zL6 0) r7 r8 r9 y7 e21).deep (by decide : 0 ≤ 4)) ?_
        show xBody MX11_text 5 49 [some (.ref 0), some (.int (zI sh)), some (.int (zI lane)), some (.int (zI i)), some (.int (zI n)), some (.int (zI y7)), none] [.int (zI y20.1)] ([zH y20.2 zL0 0, zH s1 zL1 0, r2, r3, r4, r5, zH s6 zL6 0, r7, r8, r9]) _ _
        obtain rfl := Option.some.inj H
        exact xB.ret oX11_text (r1 := some (.int (zI y20.1))) rfl rfl rfl
    · have H := H.2 h6
      refine xB.run oX11_text 1 (s := (23, [some (.ref 0), some (.int (zI sh)), some (.int (zI lane)), some (.int (zI i)), some (.int (zI n)), none, none], [.int (zI (-2))], [zH (upz s0 0 6 0) zL0 0, zH s1 zL1 0, r2, r3, r4, r5, zH s6 zL6 0, r7, r8, r9])) rfl ?_
      obtain rfl := Option.some.inj H
      exact xB.ret oX11_text (r1 := some (.int (zI (-2)))) rfl rfl rfl
  · have H := H.2 h3
    refine xB.run oX11_text 1 (s := (13, [some (.ref 0), some (.int (zI sh)), some (.int (zI lane)), some (.int (zI i)), some (.int (zI n)), none, none], [.int (zI (-1))], [zH (upz s0 0 6 0) zL0 0, zH s1 zL1 0, r2, r3, r4, r5, zH s6 zL6 0, r7, r8, r9])) rfl ?_
    obtain rfl := Option.some.inj H
    exact xB.ret oX11_text (r1 := some (.int (zI (-1)))) rfl rfl rfl
def d_X11_panel (s0 : zZ) (s1 : zZ) (p : Int) (wh : Int) : Option (Int) := (d_X2_isPanel s1 p).bind fun y1 => if (zr y1) then (if y1 ≠ 0 then (if (zr wh) then (if wh < 0 then some (-2) else (if (zr wh) then (if wh ≤ 5 then ((d_X2_aboutPanel s1 p wh).bind fun y6 => some y6) else some (-2)) else none)) else none) else some (-1)) else none
set_option maxRecDepth 20000 in
theorem t_X11_panel (s0 : zZ) (s1 : zZ) (r2 : List va_E) (r3 : List va_E) (r4 : List va_E) (r5 : List va_E) (r6 : List va_E) (r7 : List va_E) (r8 : List va_E) (r9 : List va_E) (p : Int) (wh : Int) {rr : Int} (H : d_X11_panel s0 s1 p wh = some rr) : xC MX11_panel 3 [.ref 0, .int (zI p), .int (zI wh)] ([zH s0 zL0 0, zH s1 zL1 0, r2, r3, r4, r5, r6, r7, r8, r9]) (some (.int (zI rr))) ([zH s0 zL0 0, zH s1 zL1 0, r2, r3, r4, r5, r6, r7, r8, r9]) := by
  refine ⟨Nat.le_of_ble_eq_true rfl, ?_⟩
  show xBody MX11_panel 3 0 [some (.ref 0), some (.int (zI p)), some (.int (zI wh))] [] ([zH s0 zL0 0, zH s1 zL1 0, r2, r3, r4, r5, r6, r7, r8, r9]) _ _
  unfold d_X11_panel at H
  refine xB.run oX11_panel 3 (s := (5, [some (.ref 0), some (.int (zI p)), some (.int (zI wh))], [.int (zI p), .ref 1024], [zH s0 zL0 0, zH s1 zL1 0, r2, r3, r4, r5, r6, r7, r8, r9])) rfl ?_
  obtain ⟨y1, e2, H⟩ := zbd H
  refine xB.call oX11_panel (M2 := MX2_isPanel) rfl rfl ((t_X2_isPanel (zH s0 zL0 0) s1 r2 r3 r4 r5 r6 r7 r8 r9 p e2).deep (by decide : 0 ≤ 2)) ?_
  show xBody MX11_panel 3 8 [some (.ref 0), some (.int (zI p)), some (.int (zI wh))] [.int (zI y1)] ([zH s0 zL0 0, zH s1 zL1 0, r2, r3, r4, r5, r6, r7, r8, r9]) _ _
  obtain ⟨g10, H⟩ := zgd H
  have H := zif H
  refine xB.brE oX11_panel (P := y1 ≠ 0) rfl (zc_ne (a := y1) (b := 0) ⟨g10, by decide⟩) (fun h3 => ?_) (fun h3 => ?_)
  · have H := H.1 h3
    refine xB.run oX11_panel 1 (s := (14, [some (.ref 0), some (.int (zI p)), some (.int (zI wh))], [.int (zI wh)], [zH s0 zL0 0, zH s1 zL1 0, r2, r3, r4, r5, r6, r7, r8, r9])) rfl ?_
    obtain ⟨g9, H⟩ := zgd H
    have H := zif H
    refine xB.brE oX11_panel (P := wh < 0) rfl (zc_lt (a := wh) (b := 0) ⟨g9, by decide⟩) (fun h4 => ?_) (fun h4 => ?_)
    · have H := H.1 h4
      refine xB.run oX11_panel 1 (s := (24, [some (.ref 0), some (.int (zI p)), some (.int (zI wh))], [.int (zI (-2))], [zH s0 zL0 0, zH s1 zL1 0, r2, r3, r4, r5, r6, r7, r8, r9])) rfl ?_
      obtain rfl := Option.some.inj H
      exact xB.ret oX11_panel (r1 := some (.int (zI (-2)))) rfl rfl rfl
    · have H := H.2 h4
      refine xB.run oX11_panel 2 (s := (19, [some (.ref 0), some (.int (zI p)), some (.int (zI wh))], [.int (zI 5), .int (zI wh)], [zH s0 zL0 0, zH s1 zL1 0, r2, r3, r4, r5, r6, r7, r8, r9])) rfl ?_
      obtain ⟨g8, H⟩ := zgd H
      have H := zif H
      refine xB.brE oX11_panel (P := wh ≤ 5) rfl (zc_le (a := wh) (b := 5) ⟨g8, by decide⟩) (fun h5 => ?_) (fun h5 => ?_)
      · have H := H.1 h5
        refine xB.run oX11_panel 4 (s := (31, [some (.ref 0), some (.int (zI p)), some (.int (zI wh))], [.int (zI wh), .int (zI p), .ref 1024], [zH s0 zL0 0, zH s1 zL1 0, r2, r3, r4, r5, r6, r7, r8, r9])) rfl ?_
        obtain ⟨y6, e7, H⟩ := zbd H
        refine xB.call oX11_panel (M2 := MX2_aboutPanel) rfl rfl ((t_X2_aboutPanel (zH s0 zL0 0) s1 r2 r3 r4 r5 r6 r7 r8 r9 p wh e7).deep (by decide : 2 ≤ 2)) ?_
        show xBody MX11_panel 3 34 [some (.ref 0), some (.int (zI p)), some (.int (zI wh))] [.int (zI y6)] ([zH s0 zL0 0, zH s1 zL1 0, r2, r3, r4, r5, r6, r7, r8, r9]) _ _
        obtain rfl := Option.some.inj H
        exact xB.ret oX11_panel (r1 := some (.int (zI y6))) rfl rfl rfl
      · have H := H.2 h5
        refine xB.run oX11_panel 1 (s := (24, [some (.ref 0), some (.int (zI p)), some (.int (zI wh))], [.int (zI (-2))], [zH s0 zL0 0, zH s1 zL1 0, r2, r3, r4, r5, r6, r7, r8, r9])) rfl ?_
        obtain rfl := Option.some.inj H
        exact xB.ret oX11_panel (r1 := some (.int (zI (-2)))) rfl rfl rfl
  · have H := H.2 h3
    refine xB.run oX11_panel 1 (s := (12, [some (.ref 0), some (.int (zI p)), some (.int (zI wh))], [.int (zI (-1))], [zH s0 zL0 0, zH s1 zL1 0, r2, r3, r4, r5, r6, r7, r8, r9])) rfl ?_
    obtain rfl := Option.some.inj H
    exact xB.ret oX11_panel (r1 := some (.int (zI (-1)))) rfl rfl rfl
def d_X11_thrust (s0 : zZ) (s1 : zZ) (p : Int) (wh : Int) : Option (Int) := (d_X2_isPanel s1 p).bind fun y1 => if (zr y1) then (if y1 = 0 then some (-9223372036854775808) else ((d_X11_isHalf wh).bind fun y4 => if (zr y4) then (if y4 ≠ 0 then ((d_X2_thrustOf s1 p wh).bind fun y7 => some y7) else some (-9223372036854775808)) else none)) else none
set_option maxRecDepth 20000 in
theorem t_X11_thrust (s0 : zZ) (s1 : zZ) (r2 : List va_E) (r3 : List va_E) (r4 : List va_E) (r5 : List va_E) (r6 : List va_E) (r7 : List va_E) (r8 : List va_E) (r9 : List va_E) (p : Int) (wh : Int) {rr : Int} (H : d_X11_thrust s0 s1 p wh = some rr) : xC MX11_thrust 4 [.ref 0, .int (zI p), .int (zI wh)] ([zH s0 zL0 0, zH s1 zL1 0, r2, r3, r4, r5, r6, r7, r8, r9]) (some (.long (zJ rr))) ([zH s0 zL0 0, zH s1 zL1 0, r2, r3, r4, r5, r6, r7, r8, r9]) := by
  refine ⟨Nat.le_of_ble_eq_true rfl, ?_⟩
  show xBody MX11_thrust 4 0 [some (.ref 0), some (.int (zI p)), some (.int (zI wh))] [] ([zH s0 zL0 0, zH s1 zL1 0, r2, r3, r4, r5, r6, r7, r8, r9]) _ _
  unfold d_X11_thrust at H
  refine xB.run oX11_thrust 3 (s := (5, [some (.ref 0), some (.int (zI p)), some (.int (zI wh))], [.int (zI p), .ref 1024], [zH s0 zL0 0, zH s1 zL1 0, r2, r3, r4, r5, r6, r7, r8, r9])) rfl ?_
  obtain ⟨y1, e2, H⟩ := zbd H
  refine xB.call oX11_thrust (M2 := MX2_isPanel) rfl rfl ((t_X2_isPanel (zH s0 zL0 0) s1 r2 r3 r4 r5 r6 r7 r8 r9 p e2).deep (by decide : 0 ≤ 3)) ?_
  show xBody MX11_thrust 4 8 [some (.ref 0), some (.int (zI p)), some (.int (zI wh))] [.int (zI y1)] ([zH s0 zL0 0, zH s1 zL1 0, r2, r3, r4, r5, r6, r7, r8, r9]) _ _
  obtain ⟨g10, H⟩ := zgd H
  have H := zif H
  refine xB.brE oX11_thrust (P := y1 = 0) rfl (zc_eq (a := y1) (b := 0) ⟨g10, by decide⟩) (fun h3 => ?_) (fun h3 => ?_)
  · have H := H.1 h3
    refine xB.run oX11_thrust 1 (s := (21, [some (.ref 0), some (.int (zI p)), some (.int (zI wh))], [.long (zJ (-9223372036854775808))], [zH s0 zL0 0, zH s1 zL1 0, r2, r3, r4, r5, r6, r7, r8, r9])) rfl ?_
    obtain rfl := Option.some.inj H
    exact xB.ret oX11_thrust (r1 := some (.long (zJ (-9223372036854775808)))) rfl rfl rfl
  · have H := H.2 h3
    refine xB.run oX11_thrust 1 (s := (12, [some (.ref 0), some (.int (zI p)), some (.int (zI wh))], [.int (zI wh)], [zH s0 zL0 0, zH s1 zL1 0, r2, r3, r4, r5, r6, r7, r8, r9])) rfl ?_
    obtain ⟨y4, e5, H⟩ := zbd H
    refine xB.call oX11_thrust (M2 := MX11_isHalf) rfl rfl ((t_X11_isHalf (zH s0 zL0 0) (zH s1 zL1 0) r2 r3 r4 r5 r6 r7 r8 r9 wh e5).deep (by decide : 0 ≤ 3)) ?_
    show xBody MX11_thrust 4 15 [some (.ref 0), some (.int (zI p)), some (.int (zI wh))] [.int (zI y4)] ([zH s0 zL0 0, zH s1 zL1 0, r2, r3, r4, r5, r6, r7, r8, r9]) _ _
    obtain ⟨g9, H⟩ := zgd H
    have H := zif H
    refine xB.brE oX11_thrust (P := y4 ≠ 0) rfl (zc_ne (a := y4) (b := 0) ⟨g9, by decide⟩) (fun h6 => ?_) (fun h6 => ?_)
    · have H := H.1 h6
      refine xB.run oX11_thrust 4 (s := (28, [some (.ref 0), some (.int (zI p)), some (.int (zI wh))], [.int (zI wh), .int (zI p), .ref 1024], [zH s0 zL0 0, zH s1 zL1 0, r2, r3, r4, r5, r6, r7, r8, r9])) rfl ?_
      obtain ⟨y7, e8, H⟩ := zbd H
      refine xB.call oX11_thrust (M2 := MX2_thrustOf) rfl rfl ((t_X2_thrustOf (zH s0 zL0 0) s1 r2 r3 r4 r5 r6 r7 r8 r9 p wh e8).deep (by decide : 3 ≤ 3)) ?_
      show xBody MX11_thrust 4 31 [some (.ref 0), some (.int (zI p)), some (.int (zI wh))] [.long (zJ y7)] ([zH s0 zL0 0, zH s1 zL1 0, r2, r3, r4, r5, r6, r7, r8, r9]) _ _
      obtain rfl := Option.some.inj H
      exact xB.ret oX11_thrust (r1 := some (.long (zJ y7))) rfl rfl rfl
    · have H := H.2 h6
      refine xB.run oX11_thrust 1 (s := (21, [some (.ref 0), some (.int (zI p)), some (.int (zI wh))], [.long (zJ (-9223372036854775808))], [zH s0 zL0 0, zH s1 zL1 0, r2, r3, r4, r5, r6, r7, r8, r9])) rfl ?_
      obtain rfl := Option.some.inj H
      exact xB.ret oX11_thrust (r1 := some (.long (zJ (-9223372036854775808)))) rfl rfl rfl
def d_X11_pull (s0 : zZ) (s1 : zZ) (p : Int) (wh : Int) : Option (Int) := (d_X2_isPanel s1 p).bind fun y1 => if (zr y1) then (if y1 = 0 then some (-9223372036854775808) else ((d_X11_isHalf wh).bind fun y4 => if (zr y4) then (if y4 ≠ 0 then ((d_X2_pullOf s1 p wh).bind fun y7 => some y7) else some (-9223372036854775808)) else none)) else none
set_option maxRecDepth 20000 in
theorem t_X11_pull (s0 : zZ) (s1 : zZ) (r2 : List va_E) (r3 : List va_E) (r4 : List va_E) (r5 : List va_E) (r6 : List va_E) (r7 : List va_E) (r8 : List va_E) (r9 : List va_E) (p : Int) (wh : Int) {rr : Int} (H : d_X11_pull s0 s1 p wh = some rr) : xC MX11_pull 5 [.ref 0, .int (zI p), .int (zI wh)] ([zH s0 zL0 0, zH s1 zL1 0, r2, r3, r4, r5, r6, r7, r8, r9]) (some (.long (zJ rr))) ([zH s0 zL0 0, zH s1 zL1 0, r2, r3, r4, r5, r6, r7, r8, r9]) := by
  refine ⟨Nat.le_of_ble_eq_true rfl, ?_⟩
  show xBody MX11_pull 5 0 [some (.ref 0), some (.int (zI p)), some (.int (zI wh))] [] ([zH s0 zL0 0, zH s1 zL1 0, r2, r3, r4, r5, r6, r7, r8, r9]) _ _
  unfold d_X11_pull at H
  refine xB.run oX11_pull 3 (s := (5, [some (.ref 0), some (.int (zI p)), some (.int (zI wh))], [.int (zI p), .ref 1024], [zH s0 zL0 0, zH s1 zL1 0, r2, r3, r4, r5, r6, r7, r8, r9])) rfl ?_
  obtain ⟨y1, e2, H⟩ := zbd H
  refine xB.call oX11_pull (M2 := MX2_isPanel) rfl rfl ((t_X2_isPanel (zH s0 zL0 0) s1 r2 r3 r4 r5 r6 r7 r8 r9 p e2).deep (by decide : 0 ≤ 4)) ?_
  show xBody MX11_pull 5 8 [some (.ref 0), some (.int (zI p)), some (.int (zI wh))] [.int (zI y1)] ([zH s0 zL0 0, zH s1 zL1 0, r2, r3, r4, r5, r6, r7, r8, r9]) _ _
  obtain ⟨g10, H⟩ := zgd H
  have H := zif H
  refine xB.brE oX11_pull (P := y1 = 0) rfl (zc_eq (a := y1) (b := 0) ⟨g10, by decide⟩) (fun h3 => ?_) (fun h3 => ?_)
  · have H := H.1 h3
    refine xB.run oX11_pull 1 (s := (21, [some (.ref 0), some (.int (zI p)), some (.int (zI wh))], [.long (zJ (-9223372036854775808))], [zH s0 zL0 0, zH s1 zL1 0, r2, r3, r4, r5, r6, r7, r8, r9])) rfl ?_
    obtain rfl := Option.some.inj H
    exact xB.ret oX11_pull (r1 := some (.long (zJ (-9223372036854775808)))) rfl rfl rfl
  · have H := H.2 h3
    refine xB.run oX11_pull 1 (s := (12, [some (.ref 0), some (.int (zI p)), some (.int (zI wh))], [.int (zI wh)], [zH s0 zL0 0, zH s1 zL1 0, r2, r3, r4, r5, r6, r7, r8, r9])) rfl ?_
    obtain ⟨y4, e5, H⟩ := zbd H
    refine xB.call oX11_pull (M2 := MX11_isHalf) rfl rfl ((t_X11_isHalf (zH s0 zL0 0) (zH s1 zL1 0) r2 r3 r4 r5 r6 r7 r8 r9 wh e5).deep (by decide : 0 ≤ 4)) ?_
    show xBody MX11_pull 5 15 [some (.ref 0), some (.int (zI p)), some (.int (zI wh))] [.int (zI y4)] ([zH s0 zL0 0, zH s1 zL1 0, r2, r3, r4, r5, r6, r7, r8, r9]) _ _
    obtain ⟨g9, H⟩ := zgd H
    have H := zif H
    refine xB.brE oX11_pull (P := y4 ≠ 0) rfl (zc_ne (a := y4) (b := 0) ⟨g9, by decide⟩) (fun h6 => ?_) (fun h6 => ?_)
    · have H := H.1 h6
      refine xB.run oX11_pull 4 (s := (28, [some (.ref 0), some (.int (zI p)), some (.int (zI wh))], [.int (zI wh), .int (zI p), .ref 1024], [zH s0 zL0 0, zH s1 zL1 0, r2, r3, r4, r5, r6, r7, r8, r9])) rfl ?_
      obtain ⟨y7, e8, H⟩ := zbd H
      refine xB.call oX11_pull (M2 := MX2_pullOf) rfl rfl ((t_X2_pullOf (zH s0 zL0 0) s1 r2 r3 r4 r5 r6 r7 r8 r9 p wh e8).deep (by decide : 4 ≤ 4)) ?_
      show xBody MX11_pull 5 31 [some (.ref 0), some (.int (zI p)), some (.int (zI wh))] [.long (zJ y7)] ([zH s0 zL0 0, zH s1 zL1 0, r2, r3, r4, r5, r6, r7, r8, r9]) _ _
      obtain rfl := Option.some.inj H
      exact xB.ret oX11_pull (r1 := some (.long (zJ y7))) rfl rfl rfl
    · have H := H.2 h6
      refine xB.run oX11_pull 1 (s := (21, [some (.ref 0), some (.int (zI p)), some (.int (zI wh))], [.long (zJ (-9223372036854775808))], [zH s0 zL0 0, zH s1 zL1 0, r2, r3, r4, r5, r6, r7, r8, r9])) rfl ?_
      obtain rfl := Option.some.inj H
      exact xB.ret oX11_pull (r1 := some (.long (zJ (-9223372036854775808)))) rfl rfl rfl
def d_X11_thick (s0 : zZ) (s1 : zZ) (str : Int) (p : Int) : Option (Int × zZ) := if (zr str) then (if str < 1 then some ((-2), s1) else (if (zr str) then (if str ≤ 9999 then ((d_X2_howMany s1).bind fun y3 => if (zr y3) then (if y3 = 0 then some ((-1), s1) else (if (zr p) then (if p = (-1) then ((d_X2_thickness s1 str p).bind fun y7 => some (y7.1, y7.2)) else ((d_X2_isPanel s1 p).bind fun y9 => if (zr y9) then (if y9 ≠ 0 then ((d_X2_thickness s1 str p).bind fun y12 => some (y12.1, y12.2)) else some ((-1), s1)) else none)) else none)) else none) else some ((-2), s1)) else none)) else none
set_option maxRecDepth 20000 in
theorem t_X11_thick (s0 : zZ) (s1 : zZ) (r2 : List va_E) (r3 : List va_E) (r4 : List va_E) (r5 : List va_E) (r6 : List va_E) (r7 : List va_E) (r8 : List va_E) (r9 : List va_E) (str : Int) (p : Int) {rr : Int × zZ} (H : d_X11_thick s0 s1 str p = some rr) : xC MX11_thick 4 [.ref 0, .int (zI str), .int (zI p)] ([zH s0 zL0 0, zH s1 zL1 0, r2, r3, r4, r5, r6, r7, r8, r9]) (some (.int (zI rr.1))) ([zH s0 zL0 0, zH rr.2 zL1 0, r2, r3, r4, r5, r6, r7, r8, r9]) := by
  refine ⟨Nat.le_of_ble_eq_true rfl, ?_⟩
  show xBody MX11_thick 4 0 [some (.ref 0), some (.int (zI str)), some (.int (zI p))] [] ([zH s0 zL0 0, zH s1 zL1 0, r2, r3, r4, r5, r6, r7, r8, r9]) _ _
  unfold d_X11_thick at H
  refine xB.run oX11_thick 2 (s := (2, [some (.ref 0), some (.int (zI str)), some (.int (zI p))], [.int (zI 1), .int (zI str)], [zH s0 zL0 0, zH s1 zL1 0, r2, r3, r4, r5, r6, r7, r8, r9])) rfl ?_
  obtain ⟨g18, H⟩ := zgd H
  have H := zif H
  refine xB.brE oX11_thick (P := str < 1) rfl (zc_lt (a := str) (b := 1) ⟨g18, by decide⟩) (fun h1 => ?_) (fun h1 => ?_)
  · have H := H.1 h1
    refine xB.run oX11_thick 1 (s := (14, [some (.ref 0), some (.int (zI str)), some (.int (zI p))], [.int (zI (-2))], [zH s0 zL0 0, zH s1 zL1 0, r2, r3, r4, r5, r6, r7, r8, r9])) rfl ?_
    obtain rfl := Option.some.inj H
    exact xB.ret oX11_thick (r1 := some (.int (zI (-2)))) rfl rfl rfl
  · have H := H.2 h1
    refine xB.run oX11_thick 2 (s := (9, [some (.ref 0), some (.int (zI str)), some (.int (zI p))], [.int (zI 9999), .int (zI str)], [zH s0 zL0 0, zH s1 zL1 0, r2, r3, r4, r5, r6, r7, r8, r9])) rfl ?_
    obtain ⟨g17, H⟩ := zgd H
    have H := zif H
    refine xB.brE oX11_thick (P := str ≤ 9999) rfl (zc_le (a := str) (b := 9999) ⟨g17, by decide⟩) (fun h2 => ?_) (fun h2 => ?_)
    · have H := H.1 h2
      refine xB.run oX11_thick 2 (s := (19, [some (.ref 0), some (.int (zI str)), some (.int (zI p))], [.ref 1024], [zH s0 zL0 0, zH s1 zL1 0, r2, r3, r4, r5, r6, r7, r8, r9])) rfl ?_
      obtain ⟨y3, e4, H⟩ := zbd H
      refine xB.call oX11_thick (M2 := MX2_howMany) rfl rfl ((t_X2_howMany (zH s0 zL0 0) s1 r2 r3 r4 r5 r6 r7 r8 r9  e4).deep (by decide : 0 ≤ 3)) ?_
      show xBody MX11_thick 4 22 [some (.ref 0), some (.int (zI str)), some (.int (zI p))] [.int (zI y3)] ([zH s0 zL0 0, zH s1 zL1 0, r2, r3, r4, r5, r6, r7, r8, r9]) _ _
      obtain ⟨g16, H⟩ := zgd H
      have H := zif H
      refine xB.brE oX11_thick (P := y3 = 0) rfl (zc_eq (a := y3) (b := 0) ⟨g16, by decide⟩) (fun h5 => ?_) (fun h5 => ?_)
      · have H := H.1 h5
        refine xB.run oX11_thick 1 (s := (42, [some (.ref 0), some (.int (zI str)), some (.int (zI p))], [.int (zI (-1))], [zH s0 zL0 0, zH s1 zL1 0, r2, r3, r4, r5, r6, r7, r8, r9])) rfl ?_
        obtain rfl := Option.some.inj H
        exact xB.ret oX11_thick (r1 := some (.int (zI (-1)))) rfl rfl rfl
      · have H := H.2 h5
        refine xB.run oX11_thick 2 (s := (27, [some (.ref 0), some (.int (zI str)), some (.int (zI p))], [.int (zI (-1)), .int (zI p)], [zH s0 zL0 0, zH s1 zL1 0, r2, r3, r4, r5, r6, r7, r8, r9])) rfl ?_
        obtain ⟨g15, H⟩ := zgd H
        have H := zif H
        refine xB.brE oX11_thick (P := p = (-1)) rfl (zc_eq (a := p) (b := (-1)) ⟨g15, by decide⟩) (fun h6 => ?_) (fun h6 => ?_)
        · have H := H.1 h6
          refine xB.run oX11_thick 4 (s := (49, [some (.ref 0), some (.int (zI str)), some (.int (zI p))], [.int (zI p), .int (zI str), .ref 1024], [zH s0 zL0 0, zH s1 zL1 0, r2, r3, r4, r5, r6, r7, r8, r9])) rfl ?_
          obtain ⟨y7, e8, H⟩ := zbd H
          refine xB.call oX11_thick (M2 := MX2_thickness) rfl rfl ((t_X2_thickness (zH s0 zL0 0) s1 r2 r3 r4 r5 r6 r7 r8 r9 str p e8).deep (by decide : 3 ≤ 3)) ?_
          show xBody MX11_thick 4 52 [some (.ref 0), some (.int (zI str)), some (.int (zI p))] [.int (zI y7.1)] ([zH s0 zL0 0, zH y7.2 zL1 0, r2, r3, r4, r5, r6, r7, r8, r9]) _ _
          obtain rfl := Option.some.inj H
          exact xB.ret oX11_thick (r1 := some (.int (zI y7.1))) rfl rfl rfl
        · have H := H.2 h6
          refine xB.run oX11_thick 3 (s := (35, [some (.ref 0), some (.int (zI str)), some (.int (zI p))], [.int (zI p), .ref 1024], [zH s0 zL0 0, zH s1 zL1 0, r2, r3, r4, r5, r6, r7, r8, r9])) rfl ?_
          obtain ⟨y9, e10, H⟩ := zbd H
          refine xB.call oX11_thick (M2 := MX2_isPanel) rfl rfl ((t_X2_isPanel (zH s0 zL0 0) s1 r2 r3 r4 r5 r6 r7 r8 r9 p e10).deep (by decide : 0 ≤ 3)) ?_
          show xBody MX11_thick 4 38 [some (.ref 0), some (.int (zI str)), some (.int (zI p))] [.int (zI y9)] ([zH s0 zL0 0, zH s1 zL1 0, r2, r3, r4, r5, r6, r7, r8, r9]) _ _
          obtain ⟨g14, H⟩ := zgd H
          have H := zif H
          refine xB.brE oX11_thick (P := y9 ≠ 0) rfl (zc_ne (a := y9) (b := 0) ⟨g14, by decide⟩) (fun h11 => ?_) (fun h11 => ?_)
          · have H := H.1 h11
            refine xB.run oX11_thick 4 (s := (49, [some (.ref 0), some (.int (zI str)), some (.int (zI p))], [.int (zI p), .int (zI str), .ref 1024], [zH s0 zL0 0, zH s1 zL1 0, r2, r3, r4, r5, r6, r7, r8, r9])) rfl ?_
            obtain ⟨y12, e13, H⟩ := zbd H
            refine xB.call oX11_thick (M2 := MX2_thickness) rfl rfl ((t_X2_thickness (zH s0 zL0 0) s1 r2 r3 r4 r5 r6 r7 r8 r9 str p e13).deep (by decide : 3 ≤ 3)) ?_
            show xBody MX11_thick 4 52 [some (.ref 0), some (.int (zI str)), some (.int (zI p))] [.int (zI y12.1)] ([zH s0 zL0 0, zH y12.2 zL1 0, r2, r3, r4, r5, r6, r7, r8, r9]) _ _
            obtain rfl := Option.some.inj H
            exact xB.ret oX11_thick (r1 := some (.int (zI y12.1))) rfl rfl rfl
          · have H := H.2 h11
            refine xB.run oX11_thick 1 (s := (42, [some (.ref 0), some (.int (zI str)), some (.int (zI p))], [.int (zI (-1))], [zH s0 zL0 0, zH s1 zL1 0, r2, r3, r4, r5, r6, r7, r8, r9])) rfl ?_
            obtain rfl := Option.some.inj H
            exact xB.ret oX11_thick (r1 := some (.int (zI (-1)))) rfl rfl rfl
    · have H := H.2 h2
      refine xB.run oX11_thick 1 (s := (14, [some (.ref 0), some (.int (zI str)), some (.int (zI p))], [.int (zI (-2))], [zH s0 zL0 0, zH s1 zL1 0, r2, r3, r4, r5, r6, r7, r8, r9])) rfl ?_
      obtain rfl := Option.some.inj H
      exact xB.ret oX11_thick (r1 := some (.int (zI (-2)))) rfl rfl rfl
def d_X11_rib (s0 : zZ) (s2 : zZ) (nl : Int) : Option (Int × zZ) := if (zr nl) then (if nl < 2 then some ((-2), s2) else (if (zr nl) then (if nl ≤ 5 then ((d_X5_begin s2 nl).bind fun y3 => some (y3.1, y3.2)) else some ((-2), s2)) else none)) else none
set_option maxRecDepth 20000 in
theorem t_X11_rib (s0 : zZ) (r1 : List va_E) (s2 : zZ) (r3 : List va_E) (r4 : List va_E) (r5 : List va_E) (r6 : List va_E) (r7 : List va_E) (r8 : List va_E) (r9 : List va_E) (nl : Int) {rr : Int × zZ} (H : d_X11_rib s0 s2 nl = some rr) : xC MX11_rib 4 [.ref 0, .int (zI nl)] ([zH s0 zL0 0, r1, zH s2 zL2 0, r3, r4, r5, r6, r7, r8, r9]) (some (.int (zI rr.1))) ([zH s0 zL0 0, r1, zH rr.2 zL2 0, r3, r4, r5, r6, r7, r8, r9]) := by
  refine ⟨Nat.le_of_ble_eq_true rfl, ?_⟩
  show xBody MX11_rib 4 0 [some (.ref 0), some (.int (zI nl))] [] ([zH s0 zL0 0, r1, zH s2 zL2 0, r3, r4, r5, r6, r7, r8, r9]) _ _
  unfold d_X11_rib at H
  refine xB.run oX11_rib 2 (s := (2, [some (.ref 0), some (.int (zI nl))], [.int (zI 2), .int (zI nl)], [zH s0 zL0 0, r1, zH s2 zL2 0, r3, r4, r5, r6, r7, r8, r9])) rfl ?_
  obtain ⟨g6, H⟩ := zgd H
  have H := zif H
  refine xB.brE oX11_rib (P := nl < 2) rfl (zc_lt (a := nl) (b := 2) ⟨g6, by decide⟩) (fun h1 => ?_) (fun h1 => ?_)
  · have H := H.1 h1
    refine xB.run oX11_rib 1 (s := (12, [some (.ref 0), some (.int (zI nl))], [.int (zI (-2))], [zH s0 zL0 0, r1, zH s2 zL2 0, r3, r4, r5, r6, r7, r8, r9])) rfl ?_
    obtain rfl := Option.some.inj H
    exact xB.ret oX11_rib (r1 := some (.int (zI (-2)))) rfl rfl rfl
  · have H := H.2 h1
    refine xB.run oX11_rib 2 (s := (7, [some (.ref 0), some (.int (zI nl))], [.int (zI 5), .int (zI nl)], [zH s0 zL0 0, r1, zH s2 zL2 0, r3, r4, r5, r6, r7, r8, r9])) rfl ?_
    obtain ⟨g5, H⟩ := zgd H
    have H := zif H
    refine xB.brE oX11_rib (P := nl ≤ 5) rfl (zc_le (a := nl) (b := 5) ⟨g5, by decide⟩) (fun h2 => ?_) (fun h2 => ?_)
    · have H := H.1 h2
      refine xB.run oX11_rib 3 (s := (18, [some (.ref 0), some (.int (zI nl))], [.int (zI nl), .ref 2048], [zH s0 zL0 0, r1, zH s2 zL2 0, r3, r4, r5, r6, r7, r8, r9])) rfl ?_
      obtain ⟨y3, e4, H⟩ := zbd H
      refine xB.call oX11_rib (M2 := MX5_begin) rfl rfl ((t_X5_begin (zH s0 zL0 0) r1 s2 r3 r4 r5 r6 r7 r8 r9 nl e4).deep (by decide : 3 ≤ 3)) ?_
      show xBody MX11_rib 4 21 [some (.ref 0), some (.int (zI nl))] [.int (zI y3.1)] ([zH s0 zL0 0, r1, zH y3.2 zL2 0, r3, r4, r5, r6, r7, r8, r9]) _ _
      obtain rfl := Option.some.inj H
      exact xB.ret oX11_rib (r1 := some (.int (zI y3.1))) rfl rfl rfl
    · have H := H.2 h2
      refine xB.run oX11_rib 1 (s := (12, [some (.ref 0), some (.int (zI nl))], [.int (zI (-2))], [zH s0 zL0 0, r1, zH s2 zL2 0, r3, r4, r5, r6, r7, r8, r9])) rfl ?_
      obtain rfl := Option.some.inj H
      exact xB.ret oX11_rib (r1 := some (.int (zI (-2)))) rfl rfl rfl
def d_X11_spring (s0 : zZ) (s2 : zZ) (j : Int) (k : Int) : Option (Int × zZ) := (d_X5_isJoint s2 j).bind fun y1 => if (zr y1) then (if y1 ≠ 0 then (if (zr k) then (if k < 1 then some ((-2), s2) else (if (zr k) then (if k ≤ 20 then ((d_X5_changeSpring s2 j k).bind fun y6 => some (y6.1, y6.2)) else some ((-2), s2)) else none)) else none) else some ((-1), s2)) else none
set_option maxRecDepth 20000 in
theorem t_X11_spring (s0 : zZ) (r1 : List va_E) (s2 : zZ) (r3 : List va_E) (r4 : List va_E) (r5 : List va_E) (r6 : List va_E) (r7 : List va_E) (r8 : List va_E) (r9 : List va_E) (j : Int) (k : Int) {rr : Int × zZ} (H : d_X11_spring s0 s2 j k = some rr) : xC MX11_spring 4 [.ref 0, .int (zI j), .int (zI k)] ([zH s0 zL0 0, r1, zH s2 zL2 0, r3, r4, r5, r6, r7, r8, r9]) (some (.int (zI rr.1))) ([zH s0 zL0 0, r1, zH rr.2 zL2 0, r3, r4, r5, r6, r7, r8, r9]) := by
  refine ⟨Nat.le_of_ble_eq_true rfl, ?_⟩
  show xBody MX11_spring 4 0 [some (.ref 0), some (.int (zI j)), some (.int (zI k))] [] ([zH s0 zL0 0, r1, zH s2 zL2 0, r3, r4, r5, r6, r7, r8, r9]) _ _
  unfold d_X11_spring at H
  refine xB.run oX11_spring 3 (s := (5, [some (.ref 0), some (.int (zI j)), some (.int (zI k))], [.int (zI j), .ref 2048], [zH s0 zL0 0, r1, zH s2 zL2 0, r3, r4, r5, r6, r7, r8, r9])) rfl ?_
  obtain ⟨y1, e2, H⟩ := zbd H
  refine xB.call oX11_spring (M2 := MX5_isJoint) rfl rfl ((t_X5_isJoint (zH s0 zL0 0) r1 s2 r3 r4 r5 r6 r7 r8 r9 j e2).deep (by decide : 0 ≤ 3)) ?_
  show xBody MX11_spring 4 8 [some (.ref 0), some (.int (zI j)), some (.int (zI k))] [.int (zI y1)] ([zH s0 zL0 0, r1, zH s2 zL2 0, r3, r4, r5, r6, r7, r8, r9]) _ _
  obtain ⟨g10, H⟩ := zgd H
  have H := zif H
  refine xB.brE oX11_spring (P := y1 ≠ 0) rfl (zc_ne (a := y1) (b := 0) ⟨g10, by decide⟩) (fun h3 => ?_) (fun h3 => ?_)
  · have H := H.1 h3
    refine xB.run oX11_spring 2 (s := (15, [some (.ref 0), some (.int (zI j)), some (.int (zI k))], [.int (zI 1), .int (zI k)], [zH s0 zL0 0, r1, zH s2 zL2 0, r3, r4, r5, r6, r7, r8, r9])) rfl ?_
    obtain ⟨g9, H⟩ := zgd H
    have H := zif H
    refine xB.brE oX11_spring (P := k < 1) rfl (zc_lt (a := k) (b := 1) ⟨g9, by decide⟩) (fun h4 => ?_) (fun h4 => ?_)
    · have H := H.1 h4
      refine xB.run oX11_spring 1 (s := (26, [some (.ref 0), some (.int (zI j)), some (.int (zI k))], [.int (zI (-2))], [zH s0 zL0 0, r1, zH s2 zL2 0, r3, r4, r5, r6, r7, r8, r9])) rfl ?_
      obtain rfl := Option.some.inj H
      exact xB.ret oX11_spring (r1 := some (.int (zI (-2)))) rfl rfl rfl
    · have H := H.2 h4
      refine xB.run oX11_spring 2 (s := (21, [some (.ref 0), some (.int (zI j)), some (.int (zI k))], [.int (zI 20), .int (zI k)], [zH s0 zL0 0, r1, zH s2 zL2 0, r3, r4, r5, r6, r7, r8, r9])) rfl ?_
      obtain ⟨g8, H⟩ := zgd H
      have H := zif H
      refine xB.brE oX11_spring (P := k ≤ 20) rfl (zc_le (a := k) (b := 20) ⟨g8, by decide⟩) (fun h5 => ?_) (fun h5 => ?_)
      · have H := H.1 h5
        refine xB.run oX11_spring 4 (s := (33, [some (.ref 0), some (.int (zI j)), some (.int (zI k))], [.int (zI k), .int (zI j), .ref 2048], [zH s0 zL0 0, r1, zH s2 zL2 0, r3, r4, r5, r6, r7, r8, r9])) rfl ?_
        obtain ⟨y6, e7, H⟩ := zbd H
        refine xB.call oX11_spring (M2 := MX5_changeSpring) rfl rfl ((t_X5_changeSpring (zH s0 zL0 0) r1 s2 r3 r4 r5 r6 r7 r8 r9 j k e7).deep (by decide : 3 ≤ 3)) ?_
        show xBody MX11_spring 4 36 [some (.ref 0), some (.int (zI j)), some (.int (zI k))] [.int (zI y6.1)] ([zH s0 zL0 0, r1, zH y6.2 zL2 0, r3, r4, r5, r6, r7, r8, r9]) _ _
        obtain rfl := Option.some.inj H
        exact xB.ret oX11_spring (r1 := some (.int (zI y6.1))) rfl rfl rfl
      · have H := H.2 h5
        refine xB.run oX11_spring 1 (s := (26, [some (.ref 0), some (.int (zI j)), some (.int (zI k))], [.int (zI (-2))], [zH s0 zL0 0, r1, zH s2 zL2 0, r3, r4, r5, r6, r7, r8, r9])) rfl ?_
        obtain rfl := Option.some.inj H
        exact xB.ret oX11_spring (r1 := some (.int (zI (-2)))) rfl rfl rfl
  · have H := H.2 h3
    refine xB.run oX11_spring 1 (s := (12, [some (.ref 0), some (.int (zI j)), some (.int (zI k))], [.int (zI (-1))], [zH s0 zL0 0, r1, zH s2 zL2 0, r3, r4, r5, r6, r7, r8, r9])) rfl ?_
    obtain rfl := Option.some.inj H
    exact xB.ret oX11_spring (r1 := some (.int (zI (-1)))) rfl rfl rfl
def d_X11_poly (s0 : zZ) (s2 : zZ) (k : Int) : Option (Int) := (d_X5_isPower s2 k).bind fun y1 => if (zr y1) then (if y1 ≠ 0 then ((d_X5_numberByPower s2 k).bind fun y4 => some y4) else some (-9223372036854775808)) else none
set_option maxRecDepth 20000 in
theorem t_X11_poly (s0 : zZ) (r1 : List va_E) (s2 : zZ) (r3 : List va_E) (r4 : List va_E) (r5 : List va_E) (r6 : List va_E) (r7 : List va_E) (r8 : List va_E) (r9 : List va_E) (k : Int) {rr : Int} (H : d_X11_poly s0 s2 k = some rr) : xC MX11_poly 2 [.ref 0, .int (zI k)] ([zH s0 zL0 0, r1, zH s2 zL2 0, r3, r4, r5, r6, r7, r8, r9]) (some (.long (zJ rr))) ([zH s0 zL0 0, r1, zH s2 zL2 0, r3, r4, r5, r6, r7, r8, r9]) := by
  refine ⟨Nat.le_of_ble_eq_true rfl, ?_⟩
  show xBody MX11_poly 2 0 [some (.ref 0), some (.int (zI k))] [] ([zH s0 zL0 0, r1, zH s2 zL2 0, r3, r4, r5, r6, r7, r8, r9]) _ _
  unfold d_X11_poly at H
  refine xB.run oX11_poly 3 (s := (5, [some (.ref 0), some (.int (zI k))], [.int (zI k), .ref 2048], [zH s0 zL0 0, r1, zH s2 zL2 0, r3, r4, r5, r6, r7, r8, r9])) rfl ?_
  obtain ⟨y1, e2, H⟩ := zbd H
  refine xB.call oX11_poly (M2 := MX5_isPower) rfl rfl ((t_X5_isPower (zH s0 zL0 0) r1 s2 r3 r4 r5 r6 r7 r8 r9 k e2).deep (by decide : 0 ≤ 1)) ?_
  show xBody MX11_poly 2 8 [some (.ref 0), some (.int (zI k))] [.int (zI y1)] ([zH s0 zL0 0, r1, zH s2 zL2 0, r3, r4, r5, r6, r7, r8, r9]) _ _
  obtain ⟨g6, H⟩ := zgd H
  have H := zif H
  refine xB.brE oX11_poly (P := y1 ≠ 0) rfl (zc_ne (a := y1) (b := 0) ⟨g6, by decide⟩) (fun h3 => ?_) (fun h3 => ?_)
  · have H := H.1 h3
    refine xB.run oX11_poly 3 (s := (20, [some (.ref 0), some (.int (zI k))], [.int (zI k), .ref 2048], [zH s0 zL0 0, r1, zH s2 zL2 0, r3, r4, r5, r6, r7, r8, r9])) rfl ?_
    obtain ⟨y4, e5, H⟩ := zbd H
    refine xB.call oX11_poly (M2 := MX5_numberByPower) rfl rfl ((t_X5_numberByPower (zH s0 zL0 0) r1 s2 r3 r4 r5 r6 r7 r8 r9 k e5).deep (by decide : 1 ≤ 1)) ?_
    show xBody MX11_poly 2 23 [some (.ref 0), some (.int (zI k))] [.long (zJ y4)] ([zH s0 zL0 0, r1, zH s2 zL2 0, r3, r4, r5, r6, r7, r8, r9]) _ _
    obtain rfl := Option.some.inj H
    exact xB.ret oX11_poly (r1 := some (.long (zJ y4))) rfl rfl rfl
  · have H := H.2 h3
    refine xB.run oX11_poly 1 (s := (14, [some (.ref 0), some (.int (zI k))], [.long (zJ (-9223372036854775808))], [zH s0 zL0 0, r1, zH s2 zL2 0, r3, r4, r5, r6, r7, r8, r9])) rfl ?_
    obtain rfl := Option.some.inj H
    exact xB.ret oX11_poly (r1 := some (.long (zJ (-9223372036854775808)))) rfl rfl rfl
def d_X11_folds (s0 : zZ) (s2 : zZ) (a : Int) (b : Int) : Option (Int × zZ) := (d_X5_isShare a b).bind fun y1 => if (zr y1) then (if y1 ≠ 0 then ((d_X5_foldsBelow s2 a b).bind fun y4 => some (y4.1, y4.2)) else some ((-2), s2)) else none
set_option maxRecDepth 20000 in
theorem t_X11_folds (s0 : zZ) (r1 : List va_E) (s2 : zZ) (r3 : List va_E) (r4 : List va_E) (r5 : List va_E) (r6 : List va_E) (r7 : List va_E) (r8 : List va_E) (r9 : List va_E) (a : Int) (b : Int) {rr : Int × zZ} (H : d_X11_folds s0 s2 a b = some rr) : xC MX11_folds 2 [.ref 0, .int (zI a), .int (zI b)] ([zH s0 zL0 0, r1, zH s2 zL2 0, r3, r4, r5, r6, r7, r8, r9]) (some (.int (zI rr.1))) ([zH s0 zL0 0, r1, zH rr.2 zL2 0, r3, r4, r5, r6, r7, r8, r9]) := by
  refine ⟨Nat.le_of_ble_eq_true rfl, ?_⟩
  show xBody MX11_folds 2 0 [some (.ref 0), some (.int (zI a)), some (.int (zI b))] [] ([zH s0 zL0 0, r1, zH s2 zL2 0, r3, r4, r5, r6, r7, r8, r9]) _ _
  unfold d_X11_folds at H
  refine xB.run oX11_folds 2 (s := (2, [some (.ref 0), some (.int (zI a)), some (.int (zI b))], [.int (zI b), .int (zI a)], [zH s0 zL0 0, r1, zH s2 zL2 0, r3, r4, r5, r6, r7, r8, r9])) rfl ?_
  obtain ⟨y1, e2, H⟩ := zbd H
  refine xB.call oX11_folds (M2 := MX5_isShare) rfl rfl ((t_X5_isShare (zH s0 zL0 0) r1 (zH s2 zL2 0) r3 r4 r5 r6 r7 r8 r9 a b e2).deep (by decide : 0 ≤ 1)) ?_
  show xBody MX11_folds 2 5 [some (.ref 0), some (.int (zI a)), some (.int (zI b))] [.int (zI y1)] ([zH s0 zL0 0, r1, zH s2 zL2 0, r3, r4, r5, r6, r7, r8, r9]) _ _
  obtain ⟨g6, H⟩ := zgd H
  have H := zif H
  refine xB.brE oX11_folds (P := y1 ≠ 0) rfl (zc_ne (a := y1) (b := 0) ⟨g6, by decide⟩) (fun h3 => ?_) (fun h3 => ?_)
  · have H := H.1 h3
    refine xB.run oX11_folds 4 (s := (17, [some (.ref 0), some (.int (zI a)), some (.int (zI b))], [.int (zI b), .int (zI a), .ref 2048], [zH s0 zL0 0, r1, zH s2 zL2 0, r3, r4, r5, r6, r7, r8, r9])) rfl ?_
    obtain ⟨y4, e5, H⟩ := zbd H
    refine xB.call oX11_folds (M2 := MX5_foldsBelow) rfl rfl ((t_X5_foldsBelow (zH s0 zL0 0) r1 s2 r3 r4 r5 r6 r7 r8 r9 a b e5).deep (by decide : 1 ≤ 1)) ?_
    show xBody MX11_folds 2 20 [some (.ref 0), some (.int (zI a)), some (.int (zI b))] [.int (zI y4.1)] ([zH s0 zL0 0, r1, zH y4.2 zL2 0, r3, r4, r5, r6, r7, r8, r9]) _ _
    obtain rfl := Option.some.inj H
    exact xB.ret oX11_folds (r1 := some (.int (zI y4.1))) rfl rfl rfl
  · have H := H.2 h3
    refine xB.run oX11_folds 1 (s := (10, [some (.ref 0), some (.int (zI a)), some (.int (zI b))], [.int (zI (-2))], [zH s0 zL0 0, r1, zH s2 zL2 0, r3, r4, r5, r6, r7, r8, r9])) rfl ?_
    obtain rfl := Option.some.inj H
    exact xB.ret oX11_folds (r1 := some (.int (zI (-2)))) rfl rfl rfl
def d_X11_fold (s0 : zZ) (s2 : zZ) (a : Int) (b : Int) : Option (Int × zZ) := (d_X5_isShare a b).bind fun y1 => if (zr y1) then (if y1 ≠ 0 then ((d_X5_foldsAt s2 a b).bind fun y4 => some (y4.1, y4.2)) else some ((-2), s2)) else none
set_option maxRecDepth 20000 in
theorem t_X11_fold (s0 : zZ) (r1 : List va_E) (s2 : zZ) (r3 : List va_E) (r4 : List va_E) (r5 : List va_E) (r6 : List va_E) (r7 : List va_E) (r8 : List va_E) (r9 : List va_E) (a : Int) (b : Int) {rr : Int × zZ} (H : d_X11_fold s0 s2 a b = some rr) : xC MX11_fold 2 [.ref 0, .int (zI a), .int (zI b)] ([zH s0 zL0 0, r1, zH s2 zL2 0, r3, r4, r5, r6, r7, r8, r9]) (some (.int (zI rr.1))) ([zH s0 zL0 0, r1, zH rr.2 zL2 0, r3, r4, r5, r6, r7, r8, r9]) := by
  refine ⟨Nat.le_of_ble_eq_true rfl, ?_⟩
  show xBody MX11_fold 2 0 [some (.ref 0), some (.int (zI a)), some (.int (zI b))] [] ([zH s0 zL0 0, r1, zH s2 zL2 0, r3, r4, r5, r6, r7, r8, r9]) _ _
  unfold d_X11_fold at H
  refine xB.run oX11_fold 2 (s := (2, [some (.ref 0), some (.int (zI a)), some (.int (zI b))], [.int (zI b), .int (zI a)], [zH s0 zL0 0, r1, zH s2 zL2 0, r3, r4, r5, r6, r7, r8, r9])) rfl ?_
  obtain ⟨y1, e2, H⟩ := zbd H
  refine xB.call oX11_fold (M2 := MX5_isShare) rfl rfl ((t_X5_isShare (zH s0 zL0 0) r1 (zH s2 zL2 0) r3 r4 r5 r6 r7 r8 r9 a b e2).deep (by decide : 0 ≤ 1)) ?_
  show xBody MX11_fold 2 5 [some (.ref 0), some (.int (zI a)), some (.int (zI b))] [.int (zI y1)] ([zH s0 zL0 0, r1, zH s2 zL2 0, r3, r4, r5, r6, r7, r8, r9]) _ _
  obtain ⟨g6, H⟩ := zgd H
  have H := zif H
  refine xB.brE oX11_fold (P := y1 ≠ 0) rfl (zc_ne (a := y1) (b := 0) ⟨g6, by decide⟩) (fun h3 => ?_) (fun h3 => ?_)
  · have H := H.1 h3
    refine xB.run oX11_fold 4 (s := (17, [some (.ref 0), some (.int (zI a)), some (.int (zI b))], [.int (zI b), .int (zI a), .ref 2048], [zH s0 zL0 0, r1, zH s2 zL2 0, r3, r4, r5, r6, r7, r8, r9])) rfl ?_
    obtain ⟨y4, e5, H⟩ := zbd H
    refine xB.call oX11_fold (M2 := MX5_foldsAt) rfl rfl ((t_X5_foldsAt (zH s0 zL0 0) r1 s2 r3 r4 r5 r6 r7 r8 r9 a b e5).deep (by decide : 1 ≤ 1)) ?_
    show xBody MX11_fold 2 20 [some (.ref 0), some (.int (zI a)), some (.int (zI b))] [.int (zI y4.1)] ([zH s0 zL0 0, r1, zH y4.2 zL2 0, r3, r4, r5, r6, r7, r8, r9]) _ _
    obtain rfl := Option.some.inj H
    exact xB.ret oX11_fold (r1 := some (.int (zI y4.1))) rfl rfl rfl
  · have H := H.2 h3
    refine xB.run oX11_fold 1 (s := (10, [some (.ref 0), some (.int (zI a)), some (.int (zI b))], [.int (zI (-2))], [zH s0 zL0 0, r1, zH s2 zL2 0, r3, r4, r5, r6, r7, r8, r9])) rfl ?_
    obtain rfl := Option.some.inj H
    exact xB.ret oX11_fold (r1 := some (.int (zI (-2)))) rfl rfl rfl
def d_X11_bound (s0 : zZ) (s2 : zZ) (b : Int) : Option (Int × zZ) := (d_X5_isShare 0 b).bind fun y1 => if (zr y1) then (if y1 ≠ 0 then ((d_X5_greatestWithoutFold s2 b).bind fun y4 => some (y4.1, y4.2)) else some ((-2), s2)) else none
set_option maxRecDepth 20000 in
theorem t_X11_bound (s0 : zZ) (r1 : List va_E) (s2 : zZ) (r3 : List va_E) (r4 : List va_E) (r5 : List va_E) (r6 : List va_E) (r7 : List va_E) (r8 : List va_E) (r9 : List va_E) (b : Int) {rr : Int × zZ} (H : d_X11_bound s0 s2 b = some rr) : xC MX11_bound 3 [.ref 0, .int (zI b)] ([zH s0 zL0 0, r1, zH s2 zL2 0, r3, r4, r5, r6, r7, r8, r9]) (some (.int (zI rr.1))) ([zH s0 zL0 0, r1, zH rr.2 zL2 0, r3, r4, r5, r6, r7, r8, r9]) := by
  refine ⟨Nat.le_of_ble_eq_true rfl, ?_⟩
  show xBody MX11_bound 3 0 [some (.ref 0), some (.int (zI b))] [] ([zH s0 zL0 0, r1, zH s2 zL2 0, r3, r4, r5, r6, r7, r8, r9]) _ _
  unfold d_X11_bound at H
  refine xB.run oX11_bound 2 (s := (2, [some (.ref 0), some (.int (zI b))], [.int (zI b), .int (zI 0)], [zH s0 zL0 0, r1, zH s2 zL2 0, r3, r4, r5, r6, r7, r8, r9])) rfl ?_
  obtain ⟨y1, e2, H⟩ := zbd H
  refine xB.call oX11_bound (M2 := MX5_isShare) rfl rfl ((t_X5_isShare (zH s0 zL0 0) r1 (zH s2 zL2 0) r3 r4 r5 r6 r7 r8 r9 0 b e2).deep (by decide : 0 ≤ 2)) ?_
  show xBody MX11_bound 3 5 [some (.ref 0), some (.int (zI b))] [.int (zI y1)] ([zH s0 zL0 0, r1, zH s2 zL2 0, r3, r4, r5, r6, r7, r8, r9]) _ _
  obtain ⟨g6, H⟩ := zgd H
  have H := zif H
  refine xB.brE oX11_bound (P := y1 ≠ 0) rfl (zc_ne (a := y1) (b := 0) ⟨g6, by decide⟩) (fun h3 => ?_) (fun h3 => ?_)
  · have H := H.1 h3
    refine xB.run oX11_bound 3 (s := (16, [some (.ref 0), some (.int (zI b))], [.int (zI b), .ref 2048], [zH s0 zL0 0, r1, zH s2 zL2 0, r3, r4, r5, r6, r7, r8, r9])) rfl ?_
    obtain ⟨y4, e5, H⟩ := zbd H
    refine xB.call oX11_bound (M2 := MX5_greatestWithoutFold) rfl rfl ((t_X5_greatestWithoutFold (zH s0 zL0 0) r1 s2 r3 r4 r5 r6 r7 r8 r9 b e5).deep (by decide : 2 ≤ 2)) ?_
    show xBody MX11_bound 3 19 [some (.ref 0), some (.int (zI b))] [.int (zI y4.1)] ([zH s0 zL0 0, r1, zH y4.2 zL2 0, r3, r4, r5, r6, r7, r8, r9]) _ _
    obtain rfl := Option.some.inj H
    exact xB.ret oX11_bound (r1 := some (.int (zI y4.1))) rfl rfl rfl
  · have H := H.2 h3
    refine xB.run oX11_bound 1 (s := (10, [some (.ref 0), some (.int (zI b))], [.int (zI (-2))], [zH s0 zL0 0, r1, zH s2 zL2 0, r3, r4, r5, r6, r7, r8, r9])) rfl ?_
    obtain rfl := Option.some.inj H
    exact xB.ret oX11_bound (r1 := some (.int (zI (-2)))) rfl rfl rfl
def d_X11_hole (s0 : zZ) (s4 : zZ) (row : Int) (col : Int) (out : Int) : Option (Int × zZ) := (d_X8_isPiece row col).bind fun y1 => if (zr y1) then (if y1 ≠ 0 then ((d_X8_change s4 row col out).bind fun y4 => some (y4.1, y4.2)) else some ((-1), s4)) else none
set_option maxRecDepth 20000 in
theorem t_X11_hole (s0 : zZ) (r1 : List va_E) (r2 : List va_E) (r3 : List va_E) (s4 : zZ) (r5 : List va_E) (r6 : List va_E) (r7 : List va_E) (r8 : List va_E) (r9 : List va_E) (row : Int) (col : Int) (out : Int) {rr : Int × zZ} (H : d_X11_hole s0 s4 row col out = some rr) : xC MX11_hole 2 [.ref 0, .int (zI row), .int (zI col), .int (zI out)] ([zH s0 zL0 0, r1, r2, r3, zH s4 zL4 0, r5, r6, r7, r8, r9]) (some (.int (zI rr.1))) ([zH s0 zL0 0, r1, r2, r3, zH rr.2 zL4 0, r5, r6, r7, r8, r9]) := by
  refine ⟨Nat.le_of_ble_eq_true rfl, ?_⟩
  show xBody MX11_hole 2 0 [some (.ref 0), some (.int (zI row)), some (.int (zI col)), some (.int (zI out))] [] ([zH s0 zL0 0, r1, r2, r3, zH s4 zL4 0, r5, r6, r7, r8, r9]) _ _
  unfold d_X11_hole at H
  refine xB.run oX11_hole 2 (s := (2, [some (.ref 0), some (.int (zI row)), some (.int (zI col)), some (.int (zI out))], [.int (zI col), .int (zI row)], [zH s0 zL0 0, r1, r2, r3, zH s4 zL4 0, r5, r6, r7, r8, r9])) rfl ?_
  obtain ⟨y1, e2, H⟩ := zbd H
  refine xB.call oX11_hole (M2 := MX8_isPiece) rfl rfl ((t_X8_isPiece (zH s0 zL0 0) r1 r2 r3 (zH s4 zL4 0) r5 r6 r7 r8 r9 row col e2).deep (by decide : 0 ≤ 1)) ?_
  show xBody MX11_hole 2 5 [some (.ref 0), some (.int (zI row)), some (.int (zI col)), some (.int (zI out))] [.int (zI y1)] ([zH s0 zL0 0, r1, r2, r3, zH s4 zL4 0, r5, r6, r7, r8, r9]) _ _
  obtain ⟨g6, H⟩ := zgd H
  have H := zif H
  refine xB.brE oX11_hole (P := y1 ≠ 0) rfl (zc_ne (a := y1) (b := 0) ⟨g6, by decide⟩) (fun h3 => ?_) (fun h3 => ?_)
  · have H := H.1 h3
    refine xB.run oX11_hole 5 (s := (17, [some (.ref 0), some (.int (zI row)), some (.int (zI col)), some (.int (zI out))], [.int (zI out), .int (zI col), .int (zI row), .ref 4096], [zH s0 zL0 0, r1, r2, r3, zH s4 zL4 0, r5, r6, r7, r8, r9])) rfl ?_
    obtain ⟨y4, e5, H⟩ := zbd H
    refine xB.call oX11_hole (M2 := MX8_change) rfl rfl ((t_X8_change (zH s0 zL0 0) r1 r2 r3 s4 r5 r6 r7 r8 r9 row col out e5).deep (by decide : 1 ≤ 1)) ?_
    show xBody MX11_hole 2 20 [some (.ref 0), some (.int (zI row)), some (.int (zI col)), some (.int (zI out))] [.int (zI y4.1)] ([zH s0 zL0 0, r1, r2, r3, zH y4.2 zL4 0, r5, r6, r7, r8, r9]) _ _
    obtain rfl := Option.some.inj H
    exact xB.ret oX11_hole (r1 := some (.int (zI y4.1))) rfl rfl rfl
  · have H := H.2 h3
    refine xB.run oX11_hole 1 (s := (9, [some (.ref 0), some (.int (zI row)), some (.int (zI col)), some (.int (zI out))], [.int (zI (-1))], [zH s0 zL0 0, r1, r2, r3, zH s4 zL4 0, r5, r6, r7, r8, r9])) rfl ?_
    obtain rfl := Option.some.inj H
    exact xB.ret oX11_hole (r1 := some (.int (zI (-1)))) rfl rfl rfl
def d_X11_skin (s0 : zZ) (s4 : zZ) (wh : Int) : Option (Int × zZ) := if zr wh then (if wh = 0 then ((d_X8_piecesThere s4).bind fun y3 => some (y3, s4)) else (if wh = 1 then ((d_X8_tornLots s4).bind fun y6 => some (y6.1, y6.2)) else (if wh = 2 then ((d_X8_lakes s4).bind fun y9 => some (y9.1, y9.2)) else (if wh = 3 then ((d_X8_shortestCut s4).bind fun y12 => if (zr y12.1) then (if y12.1 ≠ 0 then some (0, y12.2) else some (1, y12.2)) else none) else (if wh = 4 then ((d_X8_shortestCut s4).bind fun y17 => some (y17.1, y17.2)) else some ((-2), s4)))))) else none
set_option maxRecDepth 20000 in
theorem t_X11_skin (s0 : zZ) (r1 : List va_E) (r2 : List va_E) (r3 : List va_E) (s4 : zZ) (r5 : List va_E) (r6 : List va_E) (r7 : List va_E) (r8 : List va_E) (E9 : va_E) (wh : Int) {rr : Int × zZ} (H : d_X11_skin s0 s4 wh = some rr) : xC MX11_skin 5 [.ref 0, .int (zI wh)] ([zH s0 zL0 0, r1, r2, r3, zH s4 zL4 0, r5, r6, r7, r8, z9 E9]) (some (.int (zI rr.1))) ([zH s0 zL0 0, r1, r2, r3, zH rr.2 zL4 0, r5, r6, r7, r8, z9 E9]) := by
  refine ⟨Nat.le_of_ble_eq_true rfl, ?_⟩
  show xBody MX11_skin 5 0 [some (.ref 0), some (.int (zI wh))] [] ([zH s0 zL0 0, r1, r2, r3, zH s4 zL4 0, r5, r6, r7, r8, z9 E9]) _ _
  unfold d_X11_skin at H
  refine xB.run oX11_skin 1 (s := (1, [some (.ref 0), some (.int (zI wh))], [.int (zI wh)], [zH s0 zL0 0, r1, r2, r3, zH s4 zL4 0, r5, r6, r7, r8, z9 E9])) rfl ?_
  obtain ⟨g1, H⟩ := zgd H
  have H := zif H
  by_cases h2 : wh = 0
  · have H := H.1 h2
    refine xB.next oX11_skin (s := (36, [some (.ref 0), some (.int (zI wh))], [], [zH s0 zL0 0, r1, r2, r3, zH s4 zL4 0, r5, r6, r7, r8, z9 E9])) (xsw_at rfl (by rw [zsw g1 0 _ (by decide), if_pos (show wh = ((0 : Nat) : Int) from h2)])) ?_
    refine xB.run oX11_skin 2 (s := (40, [some (.ref 0), some (.int (zI wh))], [.ref 4096], [zH s0 zL0 0, r1, r2, r3, zH s4 zL4 0, r5, r6, r7, r8, z9 E9])) rfl ?_
    obtain ⟨y3, e4, H⟩ := zbd H
    refine xB.call oX11_skin (M2 := MX8_piecesThere) rfl rfl ((t_X8_piecesThere (zH s0 zL0 0) r1 r2 r3 s4 r5 r6 r7 r8 (z9 E9)  e4).deep (by decide : 0 ≤ 4)) ?_
    show xBody MX11_skin 5 43 [some (.ref 0), some (.int (zI wh))] [.int (zI y3)] ([zH s0 zL0 0, r1, r2, r3, zH s4 zL4 0, r5, r6, r7, r8, z9 E9]) _ _
    obtain rfl := Option.some.inj H
    exact xB.ret oX11_skin (r1 := some (.int (zI y3))) rfl rfl rfl
  · have H := H.2 h2
    have H := zif H
    by_cases h5 : wh = 1
    · have H := H.1 h5
      refine xB.next oX11_skin (s := (44, [some (.ref 0), some (.int (zI wh))], [], [zH s0 zL0 0, r1, r2, r3, zH s4 zL4 0, r5, r6, r7, r8, z9 E9])) (xsw_at rfl (by rw [zsw g1 0 _ (by decide), if_neg (show ¬ wh = ((0 : Nat) : Int) from h2)]; rw [zsw g1 1 _ (by decide), if_pos (show wh = ((1 : Nat) : Int) from h5)])) ?_
      refine xB.run oX11_skin 2 (s := (48, [some (.ref 0), some (.int (zI wh))], [.ref 4096], [zH s0 zL0 0, r1, r2, r3, zH s4 zL4 0, r5, r6, r7, r8, z9 E9])) rfl ?_
      obtain ⟨y6, e7, H⟩ := zbd H
      refine xB.call oX11_skin (M2 := MX8_tornLots) rfl rfl ((t_X8_tornLots (zH s0 zL0 0) r1 r2 r3 s4 r5 r6 r7 r8 E9  e7).deep (by decide : 4 ≤ 4)) ?_
      show xBody MX11_skin 5 51 [some (.ref 0), some (.int (zI wh))] [.int (zI y6.1)] ([zH s0 zL0 0, r1, r2, r3, zH y6.2 zL4 0, r5, r6, r7, r8, z9 E9]) _ _
      obtain rfl := Option.some.inj H
      exact xB.ret oX11_skin (r1 := some (.int (zI y6.1))) rfl rfl rfl
    · have H := H.2 h5
      have H := zif H
      by_cases h8 : wh = 2
      · have H := H.1 h8
        refine xB.next oX11_skin (s := (52, [some (.ref 0), some (.int (zI wh))], [], [zH s0 zL0 0, r1, r2, r3, zH s4 zL4 0, r5, r6, r7, r8, z9 E9])) (xsw_at rfl (by rw [zsw g1 0 _ (by decide), if_neg (show ¬ wh = ((0 : Nat) : Int) from h2)]; rw [zsw g1 1 _ (by decide), if_neg (show ¬ wh = ((1 : Nat) : Int) from h5)]; rw [zsw g1 2 _ (by decide), if_pos (show wh = ((2 : Nat) : Int) from h8)])) ?_
        refine xB.run oX11_skin 2 (s := (56, [some (.ref 0), some (.int (zI wh))], [.ref 4096], [zH s0 zL0 0, r1, r2, r3, zH s4 zL4 0, r5, r6, r7, r8, z9 E9])) rfl ?_
        obtain ⟨y9, e10, H⟩ := zbd H
        refine xB.call oX11_skin (M2 := MX8_lakes) rfl rfl ((t_X8_lakes (zH s0 zL0 0) r1 r2 r3 s4 r5 r6 r7 r8 E9  e10).deep (by decide : 4 ≤ 4)) ?_
        show xBody MX11_skin 5 59 [some (.ref 0), some (.int (zI wh))] [.int (zI y9.1)] ([zH s0 zL0 0, r1, r2, r3, zH y9.2 zL4 0, r5, r6, r7, r8, z9 E9]) _ _
        obtain rfl := Option.some.inj H
        exact xB.ret oX11_skin (r1 := some (.int (zI y9.1))) rfl rfl rfl
      · have H := H.2 h8
        have H := zif H
        by_cases h11 : wh = 3
        · have H := H.1 h11
          refine xB.next oX11_skin (s := (60, [some (.ref 0), some (.int (zI wh))], [], [zH s0 zL0 0, r1, r2, r3, zH s4 zL4 0, r5, r6, r7, r8, z9 E9])) (xsw_at rfl (by rw [zsw g1 0 _ (by decide), if_neg (show ¬ wh = ((0 : Nat) : Int) from h2)]; rw [zsw g1 1 _ (by decide), if_neg (show ¬ wh = ((1 : Nat) : Int) from h5)]; rw [zsw g1 2 _ (by decide), if_neg (show ¬ wh = ((2 : Nat) : Int) from h8)]; rw [zsw g1 3 _ (by decide), if_pos (show wh = ((3 : Nat) : Int) from h11)])) ?_
          refine xB.run oX11_skin 2 (s := (64, [some (.ref 0), some (.int (zI wh))], [.ref 4096], [zH s0 zL0 0, r1, r2, r3, zH s4 zL4 0, r5, r6, r7, r8, z9 E9])) rfl ?_
          obtain ⟨y12, e13, H⟩ := zbd H
          refine xB.call oX11_skin (M2 := MX8_shortestCut) rfl rfl ((t_X8_shortestCut (zH s0 zL0 0) r1 r2 r3 s4 r5 r6 r7 r8 E9  e13).deep (by decide : 3 ≤ 4)) ?_
          show xBody MX11_skin 5 67 [some (.ref 0), some (.int (zI wh))] [.int (zI y12.1)] ([zH s0 zL0 0, r1, r2, r3, zH y12.2 zL4 0, r5, r6, r7, r8, z9 E9]) _ _
          obtain ⟨g15, H⟩ := zgd H
          have H := zif H
          refine xB.brE oX11_skin (P := y12.1 ≠ 0) rfl (zc_ne (a := y12.1) (b := 0) ⟨g15, by decide⟩) (fun h14 => ?_) (fun h14 => ?_)
          · have H := H.1 h14
            refine xB.run oX11_skin 1 (s := (75, [some (.ref 0), some (.int (zI wh))], [.int (zI 0)], [zH s0 zL0 0, r1, r2, r3, zH y12.2 zL4 0, r5, r6, r7, r8, z9 E9])) rfl ?_
            obtain rfl := Option.some.inj H
            exact xB.ret oX11_skin (r1 := some (.int (zI 0))) rfl rfl rfl
          · have H := H.2 h14
            refine xB.run oX11_skin 2 (s := (75, [some (.ref 0), some (.int (zI wh))], [.int (zI 1)], [zH s0 zL0 0, r1, r2, r3, zH y12.2 zL4 0, r5, r6, r7, r8, z9 E9])) rfl ?_
            obtain rfl := Option.some.inj H
            exact xB.ret oX11_skin (r1 := some (.int (zI 1))) rfl rfl rfl
        · have H := H.2 h11
          have H := zif H
          by_cases h16 : wh = 4
          · have H := H.1 h16
            refine xB.next oX11_skin (s := (76, [some (.ref 0), some (.int (zI wh))], [], [zH s0 zL0 0, r1, r2, r3, zH s4 zL4 0, r5, r6, r7, r8, z9 E9])) (xsw_at rfl (by rw [zsw g1 0 _ (by decide), if_neg (show ¬ wh = ((0 : Nat) : Int) from h2)]; rw [zsw g1 1 _ (by decide), if_neg (show ¬ wh = ((1 : Nat) : Int) from h5)]; rw [zsw g1 2 _ (by decide), if_neg (show ¬ wh = ((2 : Nat) : Int) from h8)]; rw [zsw g1 3 _ (by decide), if_neg (show ¬ wh = ((3 : Nat) : Int) from h11)]; rw [zsw g1 4 _ (by decide), if_pos (show wh = ((4 : Nat) : Int) from h16)])) ?_
            refine xB.run oX11_skin 2 (s := (80, [some (.ref 0), some (.int (zI wh))], [.ref 4096], [zH s0 zL0 0, r1, r2, r3, zH s4 zL4 0, r5, r6, r7, r8, z9 E9])) rfl ?_
            obtain ⟨y17, e18, H⟩ := zbd H
            refine xB.call oX11_skin (M2 := MX8_shortestCut) rfl rfl ((t_X8_shortestCut (zH s0 zL0 0) r1 r2 r3 s4 r5 r6 r7 r8 E9  e18).deep (by decide : 3 ≤ 4)) ?_
            show xBody MX11_skin 5 83 [some (.ref 0), some (.int (zI wh))] [.int (zI y17.1)] ([zH s0 zL0 0, r1, r2, r3, zH y17.2 zL4 0, r5, r6, r7, r8, z9 E9]) _ _
            obtain rfl := Option.some.inj H
            exact xB.ret oX11_skin (r1 := some (.int (zI y17.1))) rfl rfl rfl
          · have H := H.2 h16
            refine xB.next oX11_skin (s := (84, [some (.ref 0), some (.int (zI wh))], [], [zH s0 zL0 0, r1, r2, r3, zH s4 zL4 0, r5, r6, r7, r8, z9 E9])) (xsw_at rfl (by rw [zsw g1 0 _ (by decide), if_neg (show ¬ wh = ((0 : Nat) : Int) from h2)]; rw [zsw g1 1 _ (by decide), if_neg (show ¬ wh = ((1 : Nat) : Int) from h5)]; rw [zsw g1 2 _ (by decide), if_neg (show ¬ wh = ((2 : Nat) : Int) from h8)]; rw [zsw g1 3 _ (by decide), if_neg (show ¬ wh = ((3 : Nat) : Int) from h11)]; rw [zsw g1 4 _ (by decide), if_neg (show ¬ wh = ((4 : Nat) : Int) from h16)]; rfl)) ?_
            refine xB.run oX11_skin 1 (s := (86, [some (.ref 0), some (.int (zI wh))], [.int (zI (-2))], [zH s0 zL0 0, r1, r2, r3, zH s4 zL4 0, r5, r6, r7, r8, z9 E9])) rfl ?_
            obtain rfl := Option.some.inj H
            exact xB.ret oX11_skin (r1 := some (.int (zI (-2)))) rfl rfl rfl
def d_X11_sight (s0 : zZ) (s5 : zZ) (m : Int) (lo : Int) (hi : Int) : Option (Int × zZ) := if (zr m) then (if m < 1 then some ((-2), s5) else (if (zr m) then (if (99 : Int) < m then some ((-2), s5) else (if (zr lo) then (if lo < 0 then some ((-2), s5) else (if (zr lo) then (if (99999 : Int) < lo then some ((-2), s5) else (if (zr hi ∧ zr lo) then (if hi < lo then some ((-2), s5) else (if (zr hi) then (if hi ≤ 99999 then ((d_X7_isFull s5).bind fun y7 => if (zr y7) then (if y7 = 0 then ((d_X7_addSight s5 m lo hi).bind fun y10 => some (y10.1, y10.2)) else some ((-4), s5)) else none) else some ((-2), s5)) else none)) else none)) else none)) else none)) else none)) else none
set_option maxRecDepth 20000 in
theorem t_X11_sight (s0 : zZ) (r1 : List va_E) (r2 : List va_E) (r3 : List va_E) (r4 : List va_E) (s5 : zZ) (r6 : List va_E) (r7 : List va_E) (r8 : List va_E) (r9 : List va_E) (m : Int) (lo : Int) (hi : Int) {rr : Int × zZ} (H : d_X11_sight s0 s5 m lo hi = some rr) : xC MX11_sight 2 [.ref 0, .int (zI m), .int (zI lo), .int (zI hi)] ([zH s0 zL0 0, r1, r2, r3, r4, zH s5 zL5 0, r6, r7, r8, r9]) (some (.int (zI rr.1))) ([zH s0 zL0 0, r1, r2, r3, r4, zH rr.2 zL5 0, r6, r7, r8, r9]) := by
  refine ⟨Nat.le_of_ble_eq_true rfl, ?_⟩
  show xBody MX11_sight 2 0 [some (.ref 0), some (.int (zI m)), some (.int (zI lo)), some (.int (zI hi))] [] ([zH s0 zL0 0, r1, r2, r3, r4, zH s5 zL5 0, r6, r7, r8, r9]) _ _
  unfold d_X11_sight at H
  refine xB.run oX11_sight 2 (s := (2, [some (.ref 0), some (.int (zI m)), some (.int (zI lo)), some (.int (zI hi))], [.int (zI 1), .int (zI m)], [zH s0 zL0 0, r1, r2, r3, r4, zH s5 zL5 0, r6, r7, r8, r9])) rfl ?_
  obtain ⟨g18, H⟩ := zgd H
  have H := zif H
  refine xB.brE oX11_sight (P := m < 1) rfl (zc_lt (a := m) (b := 1) ⟨g18, by decide⟩) (fun h1 => ?_) (fun h1 => ?_)
  · have H := H.1 h1
    refine xB.run oX11_sight 1 (s := (36, [some (.ref 0), some (.int (zI m)), some (.int (zI lo)), some (.int (zI hi))], [.int (zI (-2))], [zH s0 zL0 0, r1, r2, r3, r4, zH s5 zL5 0, r6, r7, r8, r9])) rfl ?_
    obtain rfl := Option.some.inj H
    exact xB.ret oX11_sight (r1 := some (.int (zI (-2)))) rfl rfl rfl
  · have H := H.2 h1
    refine xB.run oX11_sight 2 (s := (8, [some (.ref 0), some (.int (zI m)), some (.int (zI lo)), some (.int (zI hi))], [.int (zI 99), .int (zI m)], [zH s0 zL0 0, r1, r2, r3, r4, zH s5 zL5 0, r6, r7, r8, r9])) rfl ?_
    obtain ⟨g17, H⟩ := zgd H
    have H := zif H
    refine xB.brE oX11_sight (P := (99 : Int) < m) rfl (zc_gt (a := m) (b := 99) ⟨g17, by decide⟩) (fun h2 => ?_) (fun h2 => ?_)
    · have H := H.1 h2
      refine xB.run oX11_sight 1 (s := (36, [some (.ref 0), some (.int (zI m)), some (.int (zI lo)), some (.int (zI hi))], [.int (zI (-2))], [zH s0 zL0 0, r1, r2, r3, r4, zH s5 zL5 0, r6, r7, r8, r9])) rfl ?_
      obtain rfl := Option.some.inj H
      exact xB.ret oX11_sight (r1 := some (.int (zI (-2)))) rfl rfl rfl
    · have H := H.2 h2
      refine xB.run oX11_sight 1 (s := (12, [some (.ref 0), some (.int (zI m)), some (.int (zI lo)), some (.int (zI hi))], [.int (zI lo)], [zH s0 zL0 0, r1, r2, r3, r4, zH s5 zL5 0, r6, r7, r8, r9])) rfl ?_
      obtain ⟨g16, H⟩ := zgd H
      have H := zif H
      refine xB.brE oX11_sight (P := lo < 0) rfl (zc_lt (a := lo) (b := 0) ⟨g16, by decide⟩) (fun h3 => ?_) (fun h3 => ?_)
      · have H := H.1 h3
        refine xB.run oX11_sight 1 (s := (36, [some (.ref 0), some (.int (zI m)), some (.int (zI lo)), some (.int (zI hi))], [.int (zI (-2))], [zH s0 zL0 0, r1, r2, r3, r4, zH s5 zL5 0, r6, r7, r8, r9])) rfl ?_
        obtain rfl := Option.some.inj H
        exact xB.ret oX11_sight (r1 := some (.int (zI (-2)))) rfl rfl rfl
      · have H := H.2 h3
        refine xB.run oX11_sight 2 (s := (19, [some (.ref 0), some (.int (zI m)), some (.int (zI lo)), some (.int (zI hi))], [.int (zI 99999), .int (zI lo)], [zH s0 zL0 0, r1, r2, r3, r4, zH s5 zL5 0, r6, r7, r8, r9])) rfl ?_
        obtain ⟨g15, H⟩ := zgd H
        have H := zif H
        refine xB.brE oX11_sight (P := (99999 : Int) < lo) rfl (zc_gt (a := lo) (b := 99999) ⟨g15, by decide⟩) (fun h4 => ?_) (fun h4 => ?_)
        · have H := H.1 h4
          refine xB.run oX11_sight 1 (s := (36, [some (.ref 0), some (.int (zI m)), some (.int (zI lo)), some (.int (zI hi))], [.int (zI (-2))], [zH s0 zL0 0, r1, r2, r3, r4, zH s5 zL5 0, r6, r7, r8, r9])) rfl ?_
          obtain rfl := Option.some.inj H
          exact xB.ret oX11_sight (r1 := some (.int (zI (-2)))) rfl rfl rfl
        · have H := H.2 h4
          refine xB.run oX11_sight 2 (s := (24, [some (.ref 0), some (.int (zI m)), some (.int (zI lo)), some (.int (zI hi))], [.int (zI lo), .int (zI hi)], [zH s0 zL0 0, r1, r2, r3, r4, zH s5 zL5 0, r6, r7, r8, r9])) rfl ?_
          obtain ⟨g14, H⟩ := zgd H
          have H := zif H
          refine xB.brE oX11_sight (P := hi < lo) rfl (zc_lt (a := hi) (b := lo) g14) (fun h5 => ?_) (fun h5 => ?_)
          · have H := H.1 h5
            refine xB.run oX11_sight 1 (s := (36, [some (.ref 0), some (.int (zI m)), some (.int (zI lo)), some (.int (zI hi))], [.int (zI (-2))], [zH s0 zL0 0, r1, r2, r3, r4, zH s5 zL5 0, r6, r7, r8, r9])) rfl ?_
            obtain rfl := Option.some.inj H
            exact xB.ret oX11_sight (r1 := some (.int (zI (-2)))) rfl rfl rfl
          · have H := H.2 h5
            refine xB.run oX11_sight 2 (s := (31, [some (.ref 0), some (.int (zI m)), some (.int (zI lo)), some (.int (zI hi))], [.int (zI 99999), .int (zI hi)], [zH s0 zL0 0, r1, r2, r3, r4, zH s5 zL5 0, r6, r7, r8, r9])) rfl ?_
            obtain ⟨g13, H⟩ := zgd H
            have H := zif H
            refine xB.brE oX11_sight (P := hi ≤ 99999) rfl (zc_le (a := hi) (b := 99999) ⟨g13, by decide⟩) (fun h6 => ?_) (fun h6 => ?_)
            · have H := H.1 h6
              refine xB.run oX11_sight 2 (s := (41, [some (.ref 0), some (.int (zI m)), some (.int (zI lo)), some (.int (zI hi))], [.ref 5120], [zH s0 zL0 0, r1, r2, r3, r4, zH s5 zL5 0, r6, r7, r8, r9])) rfl ?_
              obtain ⟨y7, e8, H⟩ := zbd H
              refine xB.call oX11_sight (M2 := MX7_isFull) rfl rfl ((t_X7_isFull (zH s0 zL0 0) r1 r2 r3 r4 s5 r6 r7 r8 r9  e8).deep (by decide : 0 ≤ 1)) ?_
              show xBody MX11_sight 2 44 [some (.ref 0), some (.int (zI m)), some (.int (zI lo)), some (.int (zI hi))] [.int (zI y7)] ([zH s0 zL0 0, r1, r2, r3, r4, zH s5 zL5 0, r6, r7, r8, r9]) _ _
              obtain ⟨g12, H⟩ := zgd H
              have H := zif H
              refine xB.brE oX11_sight (P := y7 = 0) rfl (zc_eq (a := y7) (b := 0) ⟨g12, by decide⟩) (fun h9 => ?_) (fun h9 => ?_)
              · have H := H.1 h9
                refine xB.run oX11_sight 5 (s := (57, [some (.ref 0), some (.int (zI m)), some (.int (zI lo)), some (.int (zI hi))], [.int (zI hi), .int (zI lo), .int (zI m), .ref 5120], [zH s0 zL0 0, r1, r2, r3, r4, zH s5 zL5 0, r6, r7, r8, r9])) rfl ?_
                obtain ⟨y10, e11, H⟩ := zbd H
                refine xB.call oX11_sight (M2 := MX7_addSight) rfl rfl ((t_X7_addSight (zH s0 zL0 0) r1 r2 r3 r4 s5 r6 r7 r8 r9 m lo hi e11).deep (by decide : 1 ≤ 1)) ?_
                show xBody MX11_sight 2 60 [some (.ref 0), some (.int (zI m)), some (.int (zI lo)), some (.int (zI hi))] [.int (zI y10.1)] ([zH s0 zL0 0, r1, r2, r3, r4, zH y10.2 zL5 0, r6, r7, r8, r9]) _ _
                obtain rfl := Option.some.inj H
                exact xB.ret oX11_sight (r1 := some (.int (zI y10.1))) rfl rfl rfl
              · have H := H.2 h9
                refine xB.run oX11_sight 1 (s := (49, [some (.ref 0), some (.int (zI m)), some (.int (zI lo)), some (.int (zI hi))], [.int (zI (-4))], [zH s0 zL0 0, r1, r2, r3, r4, zH s5 zL5 0, r6, r7, r8, r9])) rfl ?_
                obtain rfl := Option.some.inj H
                exact xB.ret oX11_sight (r1 := some (.int (zI (-4)))) rfl rfl rfl
            · have H := H.2 h6
              refine xB.run oX11_sight 1 (s := (36, [some (.ref 0), some (.int (zI m)), some (.int (zI lo)), some (.int (zI hi))], [.int (zI (-2))], [zH s0 zL0 0, r1, r2, r3, r4, zH s5 zL5 0, r6, r7, r8, r9])) rfl ?_
              obtain rfl := Option.some.inj H
              exact xB.ret oX11_sight (r1 := some (.int (zI (-2)))) rfl rfl rfl
def d_X11_quarrel (s0 : zZ) (s5 : zZ) (a : Int) (b : Int) : Option (Int) := (d_X7_isSight s5 a).bind fun y1 => if (zr y1) then (if y1 = 0 then some (-1) else ((d_X7_isSight s5 b).bind fun y4 => if (zr y4) then (if y4 ≠ 0 then (if (0 ≤ a ∧ a < 32) then (if (0 ≤ b ∧ b < 32) then (if ((0 ≤ ((2 : Int) ^ a.toNat) ∧ zr ((2 : Int) ^ a.toNat)) ∧ (0 ≤ ((2 : Int) ^ b.toNat) ∧ zr ((2 : Int) ^ b.toNat))) then ((d_X7_agree s5 ((((2 : Int) ^ a.toNat).toNat ||| ((2 : Int) ^ b.toNat).toNat : Nat) : Int)).bind fun y7 => if (zr y7) then (if y7 = 0 then some 1 else some 0) else none) else none) else none) else none) else some (-1)) else none)) else none
set_option maxRecDepth 20000 in
theorem t_X11_quarrel (s0 : zZ) (r1 : List va_E) (r2 : List va_E) (r3 : List va_E) (r4 : List va_E) (s5 : zZ) (r6 : List va_E) (r7 : List va_E) (r8 : List va_E) (r9 : List va_E) (a : Int) (b : Int) {rr : Int} (H : d_X11_quarrel s0 s5 a b = some rr) : xC MX11_quarrel 2 [.ref 0, .int (zI a), .int (zI b)] ([zH s0 zL0 0, r1, r2, r3, r4, zH s5 zL5 0, r6, r7, r8, r9]) (some (.int (zI rr))) ([zH s0 zL0 0, r1, r2, r3, r4, zH s5 zL5 0, r6, r7, r8, r9]) := by
  refine ⟨Nat.le_of_ble_eq_true rfl, ?_⟩
  show xBody MX11_quarrel 2 0 [some (.ref 0), some (.int (zI a)), some (.int (zI b))] [] ([zH s0 zL0 0, r1, r2, r3, r4, zH s5 zL5 0, r6, r7, r8, r9]) _ _
  unfold d_X11_quarrel at H
  refine xB.run oX11_quarrel 3 (s := (5, [some (.ref 0), some (.int (zI a)), some (.int (zI b))], [.int (zI a), .ref 5120], [zH s0 zL0 0, r1, r2, r3, r4, zH s5 zL5 0, r6, r7, r8, r9])) rfl ?_
  obtain ⟨y1, e2, H⟩ := zbd H
  refine xB.call oX11_quarrel (M2 := MX7_isSight) rfl rfl ((t_X7_isSight (zH s0 zL0 0) r1 r2 r3 r4 s5 r6 r7 r8 r9 a e2).deep (by decide : 0 ≤ 1)) ?_
  show xBody MX11_quarrel 2 8 [some (.ref 0), some (.int (zI a)), some (.int (zI b))] [.int (zI y1)] ([zH s0 zL0 0, r1, r2, r3, r4, zH s5 zL5 0, r6, r7, r8, r9]) _ _
  obtain ⟨g15, H⟩ := zgd H
  have H := zif H
  refine xB.brE oX11_quarrel (P := y1 = 0) rfl (zc_eq (a := y1) (b := 0) ⟨g15, by decide⟩) (fun h3 => ?_) (fun h3 => ?_)
  · have H := H.1 h3
    refine xB.run oX11_quarrel 1 (s := (23, [some (.ref 0), some (.int (zI a)), some (.int (zI b))], [.int (zI (-1))], [zH s0 zL0 0, r1, r2, r3, r4, zH s5 zL5 0, r6, r7, r8, r9])) rfl ?_
    obtain rfl := Option.some.inj H
    exact xB.ret oX11_quarrel (r1 := some (.int (zI (-1)))) rfl rfl rfl
  · have H := H.2 h3
    refine xB.run oX11_quarrel 3 (s := (16, [some (.ref 0), some (.int (zI a)), some (.int (zI b))], [.int (zI b), .ref 5120], [zH s0 zL0 0, r1, r2, r3, r4, zH s5 zL5 0, r6, r7, r8, r9])) rfl ?_
    obtain ⟨y4, e5, H⟩ := zbd H
    refine xB.call oX11_quarrel (M2 := MX7_isSight) rfl rfl ((t_X7_isSight (zH s0 zL0 0) r1 r2 r3 r4 s5 r6 r7 r8 r9 b e5).deep (by decide : 0 ≤ 1)) ?_
    show xBody MX11_quarrel 2 19 [some (.ref 0), some (.int (zI a)), some (.int (zI b))] [.int (zI y4)] ([zH s0 zL0 0, r1, r2, r3, r4, zH s5 zL5 0, r6, r7, r8, r9]) _ _
    obtain ⟨g14, H⟩ := zgd H
    have H := zif H
    refine xB.brE oX11_quarrel (P := y4 ≠ 0) rfl (zc_ne (a := y4) (b := 0) ⟨g14, by decide⟩) (fun h6 => ?_) (fun h6 => ?_)
    · have H := H.1 h6
      refine xB.run oX11_quarrel 4 (s := (30, [some (.ref 0), some (.int (zI a)), some (.int (zI b))], [.int (zI a), .int (zI 1), .ref 5120], [zH s0 zL0 0, r1, r2, r3, r4, zH s5 zL5 0, r6, r7, r8, r9])) rfl ?_
      obtain ⟨g13, H⟩ := zgd H
      refine zB.opi oX11_quarrel (y := (2 : Int) ^ a.toNat) rfl (zi_shl1 (c := a) g13) ?_
      refine xB.run oX11_quarrel 2 (s := (33, [some (.ref 0), some (.int (zI a)), some (.int (zI b))], [.int (zI b), .int (zI 1), .int (zI ((2 : Int) ^ a.toNat)), .ref 5120], [zH s0 zL0 0, r1, r2, r3, r4, zH s5 zL5 0, r6, r7, r8, r9])) rfl ?_
      obtain ⟨g12, H⟩ := zgd H
      refine zB.opi oX11_quarrel (y := (2 : Int) ^ b.toNat) rfl (zi_shl1 (c := b) g12) ?_
      obtain ⟨g11, H⟩ := zgd H
      refine zB.opi oX11_quarrel rfl (zi_or (a := (2 : Int) ^ a.toNat) (b := (2 : Int) ^ b.toNat) g11.1 g11.2) ?_
      obtain ⟨y7, e8, H⟩ := zbd H
      refine xB.call oX11_quarrel (M2 := MX7_agree) rfl rfl ((t_X7_agree (zH s0 zL0 0) r1 r2 r3 r4 s5 r6 r7 r8 r9 ((((2 : Int) ^ a.toNat).toNat ||| ((2 : Int) ^ b.toNat).toNat : Nat) : Int) e8).deep (by decide : 1 ≤ 1)) ?_
      show xBody MX11_quarrel 2 38 [some (.ref 0), some (.int (zI a)), some (.int (zI b))] [.int (zI y7)] ([zH s0 zL0 0, r1, r2, r3, r4, zH s5 zL5 0, r6, r7, r8, r9]) _ _
      obtain ⟨g10, H⟩ := zgd H
      have H := zif H
      refine xB.brE oX11_quarrel (P := y7 = 0) rfl (zc_eq (a := y7) (b := 0) ⟨g10, by decide⟩) (fun h9 => ?_) (fun h9 => ?_)
      · have H := H.1 h9
        refine xB.run oX11_quarrel 1 (s := (46, [some (.ref 0), some (.int (zI a)), some (.int (zI b))], [.int (zI 1)], [zH s0 zL0 0, r1, r2, r3, r4, zH s5 zL5 0, r6, r7, r8, r9])) rfl ?_
        obtain rfl := Option.some.inj H
        exact xB.ret oX11_quarrel (r1 := some (.int (zI 1))) rfl rfl rfl
      · have H := H.2 h9
        refine xB.run oX11_quarrel 2 (s := (46, [some (.ref 0), some (.int (zI a)), some (.int (zI b))], [.int (zI 0)], [zH s0 zL0 0, r1, r2, r3, r4, zH s5 zL5 0, r6, r7, r8, r9])) rfl ?_
        obtain rfl := Option.some.inj H
        exact xB.ret oX11_quarrel (r1 := some (.int (zI 0))) rfl rfl rfl
    · have H := H.2 h6
      refine xB.run oX11_quarrel 1 (s := (23, [some (.ref 0), some (.int (zI a)), some (.int (zI b))], [.int (zI (-1))], [zH s0 zL0 0, r1, r2, r3, r4, zH s5 zL5 0, r6, r7, r8, r9])) rfl ?_
      obtain rfl := Option.some.inj H
      exact xB.ret oX11_quarrel (r1 := some (.int (zI (-1)))) rfl rfl rfl
def d_X11_most (s0 : zZ) (s5 : zZ) : Option (Int) := (d_X7_greatestAgreeing s5).bind fun y1 => some y1
set_option maxRecDepth 20000 in
theorem t_X11_most (s0 : zZ) (r1 : List va_E) (r2 : List va_E) (r3 : List va_E) (r4 : List va_E) (s5 : zZ) (r6 : List va_E) (r7 : List va_E) (r8 : List va_E) (r9 : List va_E) {rr : Int} (H : d_X11_most s0 s5 = some rr) : xC MX11_most 2 [.ref 0] ([zH s0 zL0 0, r1, r2, r3, r4, zH s5 zL5 0, r6, r7, r8, r9]) (some (.int (zI rr))) ([zH s0 zL0 0, r1, r2, r3, r4, zH s5 zL5 0, r6, r7, r8, r9]) := by
  refine ⟨Nat.le_of_ble_eq_true rfl, ?_⟩
  show xBody MX11_most 2 0 [some (.ref 0)] [] ([zH s0 zL0 0, r1, r2, r3, r4, zH s5 zL5 0, r6, r7, r8, r9]) _ _
  unfold d_X11_most at H
  refine xB.run oX11_most 2 (s := (4, [some (.ref 0)], [.ref 5120], [zH s0 zL0 0, r1, r2, r3, r4, zH s5 zL5 0, r6, r7, r8, r9])) rfl ?_
  obtain ⟨y1, e2, H⟩ := zbd H
  refine xB.call oX11_most (M2 := MX7_greatestAgreeing) rfl rfl ((t_X7_greatestAgreeing (zH s0 zL0 0) r1 r2 r3 r4 s5 r6 r7 r8 r9  e2).deep (by decide : 1 ≤ 1)) ?_
  show xBody MX11_most 2 7 [some (.ref 0)] [.int (zI y1)] ([zH s0 zL0 0, r1, r2, r3, r4, zH s5 zL5 0, r6, r7, r8, r9]) _ _
  obtain rfl := Option.some.inj H
  exact xB.ret oX11_most (r1 := some (.int (zI y1))) rfl rfl rfl
def d_X11_span (s0 : zZ) (s5 : zZ) (set : Int) (en : Int) (wh : Int) : Option (Int) := (d_X7_isSet s5 set).bind fun y1 => if (zr y1) then (if y1 = 0 then some (-9223372036854775808) else (if (zr en) then (if en < 0 then some (-9223372036854775808) else (if (zr en) then (if (1 : Int) < en then some (-9223372036854775808) else ((d_X11_isHalf wh).bind fun y6 => if (zr y6) then (if y6 = 0 then some (-9223372036854775808) else ((d_X7_agree s5 set).bind fun y9 => if (zr y9) then (if y9 ≠ 0 then ((d_X7_endOf s5 set en wh).bind fun y12 => some y12) else some (-9223372036854775808)) else none)) else none)) else none)) else none)) else none
set_option maxRecDepth 20000 in
theorem t_X11_span (s0 : zZ) (r1 : List va_E) (r2 : List va_E) (r3 : List va_E) (r4 : List va_E) (s5 : zZ) (r6 : List va_E) (r7 : List va_E) (r8 : List va_E) (r9 : List va_E) (set : Int) (en : Int) (wh : Int) {rr : Int} (H : d_X11_span s0 s5 set en wh = some rr) : xC MX11_span 4 [.ref 0, .int (zI set), .int (zI en), .int (zI wh)] ([zH s0 zL0 0, r1, r2, r3, r4, zH s5 zL5 0, r6, r7, r8, r9]) (some (.long (zJ rr))) ([zH s0 zL0 0, r1, r2, r3, r4, zH s5 zL5 0, r6, r7, r8, r9]) := by
  refine ⟨Nat.le_of_ble_eq_true rfl, ?_⟩
  show xBody MX11_span 4 0 [some (.ref 0), some (.int (zI set)), some (.int (zI en)), some (.int (zI wh))] [] ([zH s0 zL0 0, r1, r2, r3, r4, zH s5 zL5 0, r6, r7, r8, r9]) _ _
  unfold d_X11_span at H
  refine xB.run oX11_span 3 (s := (5, [some (.ref 0), some (.int (zI set)), some (.int (zI en)), some (.int (zI wh))], [.int (zI set), .ref 5120], [zH s0 zL0 0, r1, r2, r3, r4, zH s5 zL5 0, r6, r7, r8, r9])) rfl ?_
  obtain ⟨y1, e2, H⟩ := zbd H
  refine xB.call oX11_span (M2 := MX7_isSet) rfl rfl ((t_X7_isSet (zH s0 zL0 0) r1 r2 r3 r4 s5 r6 r7 r8 r9 set e2).deep (by decide : 0 ≤ 3)) ?_
  show xBody MX11_span 4 8 [some (.ref 0), some (.int (zI set)), some (.int (zI en)), some (.int (zI wh))] [.int (zI y1)] ([zH s0 zL0 0, r1, r2, r3, r4, zH s5 zL5 0, r6, r7, r8, r9]) _ _
  obtain ⟨g18, H⟩ := zgd H
  have H := zif H
  refine xB.brE oX11_span (P := y1 = 0) rfl (zc_eq (a := y1) (b := 0) ⟨g18, by decide⟩) (fun h3 => ?_) (fun h3 => ?_)
  · have H := H.1 h3
    refine xB.run oX11_span 1 (s := (41, [some (.ref 0), some (.int (zI set)), some (.int (zI en)), some (.int (zI wh))], [.long (zJ (-9223372036854775808))], [zH s0 zL0 0, r1, r2, r3, r4, zH s5 zL5 0, r6, r7, r8, r9])) rfl ?_
    obtain rfl := Option.some.inj H
    exact xB.ret oX11_span (r1 := some (.long (zJ (-9223372036854775808)))) rfl rfl rfl
  · have H := H.2 h3
    refine xB.run oX11_span 1 (s := (12, [some (.ref 0), some (.int (zI set)), some (.int (zI en)), some (.int (zI wh))], [.int (zI en)], [zH s0 zL0 0, r1, r2, r3, r4, zH s5 zL5 0, r6, r7, r8, r9])) rfl ?_
    obtain ⟨g17, H⟩ := zgd H
    have H := zif H
    refine xB.brE oX11_span (P := en < 0) rfl (zc_lt (a := en) (b := 0) ⟨g17, by decide⟩) (fun h4 => ?_) (fun h4 => ?_)
    · have H := H.1 h4
      refine xB.run oX11_span 1 (s := (41, [some (.ref 0), some (.int (zI set)), some (.int (zI en)), some (.int (zI wh))], [.long (zJ (-9223372036854775808))], [zH s0 zL0 0, r1, r2, r3, r4, zH s5 zL5 0, r6, r7, r8, r9])) rfl ?_
      obtain rfl := Option.some.inj H
      exact xB.ret oX11_span (r1 := some (.long (zJ (-9223372036854775808)))) rfl rfl rfl
    · have H := H.2 h4
      refine xB.run oX11_span 2 (s := (17, [some (.ref 0), some (.int (zI set)), some (.int (zI en)), some (.int (zI wh))], [.int (zI 1), .int (zI en)], [zH s0 zL0 0, r1, r2, r3, r4, zH s5 zL5 0, r6, r7, r8, r9])) rfl ?_
      obtain ⟨g16, H⟩ := zgd H
      have H := zif H
      refine xB.brE oX11_span (P := (1 : Int) < en) rfl (zc_gt (a := en) (b := 1) ⟨g16, by decide⟩) (fun h5 => ?_) (fun h5 => ?_)
      · have H := H.1 h5
        refine xB.run oX11_span 1 (s := (41, [some (.ref 0), some (.int (zI set)), some (.int (zI en)), some (.int (zI wh))], [.long (zJ (-9223372036854775808))], [zH s0 zL0 0, r1, r2, r3, r4, zH s5 zL5 0, r6, r7, r8, r9])) rfl ?_
        obtain rfl := Option.some.inj H
        exact xB.ret oX11_span (r1 := some (.long (zJ (-9223372036854775808)))) rfl rfl rfl
      · have H := H.2 h5
        refine xB.run oX11_span 1 (s := (21, [some (.ref 0), some (.int (zI set)), some (.int (zI en)), some (.int (zI wh))], [.int (zI wh)], [zH s0 zL0 0, r1, r2, r3, r4, zH s5 zL5 0, r6, r7, r8, r9])) rfl ?_
        obtain ⟨y6, e7, H⟩ := zbd H
        refine xB.call oX11_span (M2 := MX11_isHalf) rfl rfl ((t_X11_isHalf (zH s0 zL0 0) r1 r2 r3 r4 (zH s5 zL5 0) r6 r7 r8 r9 wh e7).deep (by decide : 0 ≤ 3)) ?_
        show xBody MX11_span 4 24 [some (.ref 0), some (.int (zI set)), some (.int (zI en)), some (.int (zI wh))] [.int (zI y6)] ([zH s0 zL0 0, r1, r2, r3, r4, zH s5 zL5 0, r6, r7, r8, r9]) _ _
        obtain ⟨g15, H⟩ := zgd H
        have H := zif H
        refine xB.brE oX11_span (P := y6 = 0) rfl (zc_eq (a := y6) (b := 0) ⟨g15, by decide⟩) (fun h8 => ?_) (fun h8 => ?_)
        · have H := H.1 h8
          refine xB.run oX11_span 1 (s := (41, [some (.ref 0), some (.int (zI set)), some (.int (zI en)), some (.int (zI wh))], [.long (zJ (-9223372036854775808))], [zH s0 zL0 0, r1, r2, r3, r4, zH s5 zL5 0, r6, r7, r8, r9])) rfl ?_
          obtain rfl := Option.some.inj H
          exact xB.ret oX11_span (r1 := some (.long (zJ (-9223372036854775808)))) rfl rfl rfl
        · have H := H.2 h8
          refine xB.run oX11_span 3 (s := (32, [some (.ref 0), some (.int (zI set)), some (.int (zI en)), some (.int (zI wh))], [.int (zI set), .ref 5120], [zH s0 zL0 0, r1, r2, r3, r4, zH s5 zL5 0, r6, r7, r8, r9])) rfl ?_
          obtain ⟨y9, e10, H⟩ := zbd H
          refine xB.call oX11_span (M2 := MX7_agree) rfl rfl ((t_X7_agree (zH s0 zL0 0) r1 r2 r3 r4 s5 r6 r7 r8 r9 set e10).deep (by decide : 1 ≤ 3)) ?_
          show xBody MX11_span 4 35 [some (.ref 0), some (.int (zI set)), some (.int (zI en)), some (.int (zI wh))] [.int (zI y9)] ([zH s0 zL0 0, r1, r2, r3, r4, zH s5 zL5 0, r6, r7, r8, r9]) _ _
          obtain ⟨g14, H⟩ := zgd H
          have H := zif H
          refine xB.brE oX11_span (P := y9 ≠ 0) rfl (zc_ne (a := y9) (b := 0) ⟨g14, by decide⟩) (fun h11 => ?_) (fun h11 => ?_)
          · have H := H.1 h11
            refine xB.run oX11_span 5 (s := (49, [some (.ref 0), some (.int (zI set)), some (.int (zI en)), some (.int (zI wh))], [.int (zI wh), .int (zI en), .int (zI set), .ref 5120], [zH s0 zL0 0, r1, r2, r3, r4, zH s5 zL5 0, r6, r7, r8, r9])) rfl ?_
            obtain ⟨y12, e13, H⟩ := zbd H
            refine xB.call oX11_span (M2 := MX7_endOf) rfl rfl ((t_X7_endOf (zH s0 zL0 0) r1 r2 r3 r4 s5 r6 r7 r8 r9 set en wh e13).deep (by decide : 3 ≤ 3)) ?_
            show xBody MX11_span 4 52 [some (.ref 0), some (.int (zI set)), some (.int (zI en)), some (.int (zI wh))] [.long (zJ y12)] ([zH s0 zL0 0, r1, r2, r3, r4, zH s5 zL5 0, r6, r7, r8, r9]) _ _
            obtain rfl := Option.some.inj H
            exact xB.ret oX11_span (r1 := some (.long (zJ y12))) rfl rfl rfl
          · have H := H.2 h11
            refine xB.run oX11_span 1 (s := (41, [some (.ref 0), some (.int (zI set)), some (.int (zI en)), some (.int (zI wh))], [.long (zJ (-9223372036854775808))], [zH s0 zL0 0, r1, r2, r3, r4, zH s5 zL5 0, r6, r7, r8, r9])) rfl ?_
            obtain rfl := Option.some.inj H
            exact xB.ret oX11_span (r1 := some (.long (zJ (-9223372036854775808)))) rfl rfl rfl
def d_X11_sheet (s0 : zZ) (s6 : zZ) (k : Int) (lane : Int) (n : Int) : Option (Int × zZ × zZ) := (d_X6_isSheet k).bind fun y1 => if (zr y1) then (if y1 ≠ 0 then ((d_X6_isLane lane).bind fun y4 => if (zr y4) then (if y4 = 0 then some ((-2), upz s0 0 6 0, s6) else (if (zr n) then (if n ≤ 60 then (if (zr n) then (if (0 : Int) ≤ n then ((d_X6_begin s6 k lane n).bind fun y9 => some (1, upz s0 0 6 0, y9)) else ((d_X11_faultAnswer (upz s0 0 6 0) 4).bind fun y11 => some (y11.1, y11.2, s6))) else none) else some ((-2), upz s0 0 6 0, s6)) else none)) else none) else some ((-1), upz s0 0 6 0, s6)) else none
set_option maxRecDepth 20000 in
theorem t_X11_sheet (s0 : zZ) (r1 : List va_E) (r2 : List va_E) (r3 : List va_E) (r4 : List va_E) (r5 : List va_E) (s6 : zZ) (r7 : List va_E) (r8 : List va_E) (r9 : List va_E) (k : Int) (lane : Int) (n : Int) {rr : Int × zZ × zZ} (H : d_X11_sheet s0 s6 k lane n = some rr) : xC MX11_sheet 2 [.ref 0, .int (zI k), .int (zI lane), .int (zI n)] ([zH s0 zL0 0, r1, r2, r3, r4, r5, zH s6 zL6 0, r7, r8, r9]) (some (.int (zI rr.1))) ([zH rr.2.1 zL0 0, r1, r2, r3, r4, r5, zH rr.2.2 zL6 0, r7, r8, r9]) := by
  refine ⟨Nat.le_of_ble_eq_true rfl, ?_⟩
  show xBody MX11_sheet 2 0 [some (.ref 0), some (.int (zI k)), some (.int (zI lane)), some (.int (zI n))] [] ([zH s0 zL0 0, r1, r2, r3, r4, r5, zH s6 zL6 0, r7, r8, r9]) _ _
  unfold d_X11_sheet at H
  refine xB.run oX11_sheet 2 (s := (2, [some (.ref 0), some (.int (zI k)), some (.int (zI lane)), some (.int (zI n))], [.int (zI 0), .ref 0], [zH s0 zL0 0, r1, r2, r3, r4, r5, zH s6 zL6 0, r7, r8, r9])) rfl ?_
  refine zB.putI oX11_sheet (g := 0) (p := 0) (c := 11) (k := 6) (y := 0) (hp1 := [zH (upz s0 0 6 0) zL0 0, r1, r2, r3, r4, r5, zH s6 zL6 0, r7, r8, r9]) rfl rfl (by decide) (by decide) rfl rfl rfl rfl rfl rfl ?_
  refine xB.run oX11_sheet 1 (s := (6, [some (.ref 0), some (.int (zI k)), some (.int (zI lane)), some (.int (zI n))], [.int (zI k)], [zH (upz s0 0 6 0) zL0 0, r1, r2, r3, r4, r5, zH s6 zL6 0, r7, r8, r9])) rfl ?_
  obtain ⟨y1, e2, H⟩ := zbd H
  refine xB.call oX11_sheet (M2 := MX6_isSheet) rfl rfl ((t_X6_isSheet (zH (upz s0 0 6 0) zL0 0) r1 r2 r3 r4 r5 (zH s6 zL6 0) r7 r8 r9 k e2).deep (by decide : 0 ≤ 1)) ?_
  show xBody MX11_sheet 2 9 [some (.ref 0), some (.int (zI k)), some (.int (zI lane)), some (.int (zI n))] [.int (zI y1)] ([zH (upz s0 0 6 0) zL0 0, r1, r2, r3, r4, r5, zH s6 zL6 0, r7, r8, r9]) _ _
  obtain ⟨g16, H⟩ := zgd H
  have H := zif H
  refine xB.brE oX11_sheet (P := y1 ≠ 0) rfl (zc_ne (a := y1) (b := 0) ⟨g16, by decide⟩) (fun h3 => ?_) (fun h3 => ?_)
  · have H := H.1 h3
    refine xB.run oX11_sheet 1 (s := (15, [some (.ref 0), some (.int (zI k)), some (.int (zI lane)), some (.int (zI n))], [.int (zI lane)], [zH (upz s0 0 6 0) zL0 0, r1, r2, r3, r4, r5, zH s6 zL6 0, r7, r8, r9])) rfl ?_
    obtain ⟨y4, e5, H⟩ := zbd H
    refine xB.call oX11_sheet (M2 := MX6_isLane) rfl rfl ((t_X6_isLane (zH (upz s0 0 6 0) zL0 0) r1 r2 r3 r4 r5 (zH s6 zL6 0) r7 r8 r9 lane e5).deep (by decide : 0 ≤ 1)) ?_
    show xBody MX11_sheet 2 18 [some (.ref 0), some (.int (zI k)), some (.int (zI lane)), some (.int (zI n))] [.int (zI y4)] ([zH (upz s0 0 6 0) zL0 0, r1, r2, r3, r4, r5, zH s6 zL6 0, r7, r8, r9]) _ _
    obtain ⟨g15, H⟩ := zgd H
    have H := zif H
    refine xB.brE oX11_sheet (P := y4 = 0) rfl (zc_eq (a := y4) (b := 0) ⟨g15, by decide⟩) (fun h6 => ?_) (fun h6 => ?_)
    · have H := H.1 h6
      refine xB.run oX11_sheet 1 (s := (29, [some (.ref 0), some (.int (zI k)), some (.int (zI lane)), some (.int (zI n))], [.int (zI (-2))], [zH (upz s0 0 6 0) zL0 0, r1, r2, r3, r4, r5, zH s6 zL6 0, r7, r8, r9])) rfl ?_
      obtain rfl := Option.some.inj H
      exact xB.ret oX11_sheet (r1 := some (.int (zI (-2)))) rfl rfl rfl
    · have H := H.2 h6
      refine xB.run oX11_sheet 2 (s := (24, [some (.ref 0), some (.int (zI k)), some (.int (zI lane)), some (.int (zI n))], [.int (zI 60), .int (zI n)], [zH (upz s0 0 6 0) zL0 0, r1, r2, r3, r4, r5, zH s6 zL6 0, r7, r8, r9])) rfl ?_
      obtain ⟨g14, H⟩ := zgd H
      have H := zif H
      refine xB.brE oX11_sheet (P := n ≤ 60) rfl (zc_le (a := n) (b := 60) ⟨g14, by decide⟩) (fun h7 => ?_) (fun h7 => ?_)
      · have H := H.1 h7
        refine xB.run oX11_sheet 1 (s := (31, [some (.ref 0), some (.int (zI k)), some (.int (zI lane)), some (.int (zI n))], [.int (zI n)], [zH (upz s0 0 6 0) zL0 0, r1, r2, r3, r4, r5, zH s6 zL6 0, r7, r8, r9])) rfl ?_
        obtain ⟨g13, H⟩ := zgd H
        have H := zif H
        refine xB.brE oX11_sheet (P := (0 : Int) ≤ n) rfl (zc_ge (a := n) (b := 0) ⟨g13, by decide⟩) (fun h8 => ?_) (fun h8 => ?_)
        · have H := H.1 h8
          refine xB.run oX11_sheet 5 (s := (47, [some (.ref 0), some (.int (zI k)), some (.int (zI lane)), some (.int (zI n))], [.int (zI n), .int (zI lane), .int (zI k), .ref 6144], [zH (upz s0 0 6 0) zL0 0, r1, r2, r3, r4, r5, zH s6 zL6 0, r7, r8, r9])) rfl ?_
          obtain ⟨y9, e10, H⟩ := zbd H
          refine xB.call oX11_sheet (M2 := MX6_begin) rfl rfl ((t_X6_begin (zH (upz s0 0 6 0) zL0 0) r1 r2 r3 r4 r5 s6 r7 r8 r9 k lane n e10).deep (by decide : 1 ≤ 1)) ?_
          show xBody MX11_sheet 2 50 [some (.ref 0), some (.int (zI k)), some (.int (zI lane)), some (.int (zI n))] [] ([zH (upz s0 0 6 0) zL0 0, r1, r2, r3, r4, r5, zH y9 zL6 0, r7, r8, r9]) _ _
          refine xB.run oX11_sheet 1 (s := (51, [some (.ref 0), some (.int (zI k)), some (.int (zI lane)), some (.int (zI n))], [.int (zI 1)], [zH (upz s0 0 6 0) zL0 0, r1, r2, r3, r4, r5, zH y9 zL6 0, r7, r8, r9])) rfl ?_
          obtain rfl := Option.some.inj H
          exact xB.ret oX11_sheet (r1 := some (.int (zI 1))) rfl rfl rfl
        · have H := H.2 h8
          refine xB.run oX11_sheet 2 (s := (36, [some (.ref 0), some (.int (zI k)), some (.int (zI lane)), some (.int (zI n))], [.int (zI 4), .ref 0], [zH (upz s0 0 6 0) zL0 0, r1, r2, r3, r4, r5, zH s6 zL6 0, r7, r8, r9])) rfl ?_
          obtain ⟨y11, e12, H⟩ := zbd H
          refine xB.call oX11_sheet (M2 := MX11_faultAnswer) rfl rfl ((t_X11_faultAnswer (upz s0 0 6 0) r1 r2 r3 r4 r5 (zH s6 zL6 0) r7 r8 r9 4 e12).deep (by decide : 0 ≤ 1)) ?_
          show xBody MX11_sheet 2 39 [some (.ref 0), some (.int (zI k)), some (.int (zI lane)), some (.int (zI n))] [.int (zI y11.1)] ([zH y11.2 zL0 0, r1, r2, r3, r4, r5, zH s6 zL6 0, r7, r8, r9]) _ _
          obtain rfl := Option.some.inj H
          exact xB.ret oX11_sheet (r1 := some (.int (zI y11.1))) rfl rfl rfl
      · have H := H.2 h7
        refine xB.run oX11_sheet 1 (s := (29, [some (.ref 0), some (.int (zI k)), some (.int (zI lane)), some (.int (zI n))], [.int (zI (-2))], [zH (upz s0 0 6 0) zL0 0, r1, r2, r3, r4, r5, zH s6 zL6 0, r7, r8, r9])) rfl ?_
        obtain rfl := Option.some.inj H
        exact xB.ret oX11_sheet (r1 := some (.int (zI (-2)))) rfl rfl rfl
  · have H := H.2 h3
    refine xB.run oX11_sheet 1 (s := (13, [some (.ref 0), some (.int (zI k)), some (.int (zI lane)), some (.int (zI n))], [.int (zI (-1))], [zH (upz s0 0 6 0) zL0 0, r1, r2, r3, r4, r5, zH s6 zL6 0, r7, r8, r9])) rfl ?_
    obtain rfl := Option.some.inj H
    exact xB.ret oX11_sheet (r1 := some (.int (zI (-1)))) rfl rfl rfl
def d_X11_lose (s0 : zZ) (s6 : zZ) (k : Int) : Option (Int × zZ) := (d_X6_isSheet k).bind fun y1 => if (zr y1) then (if y1 ≠ 0 then ((d_X6_drop s6 k).bind fun y4 => some (y4.1, y4.2)) else some ((-1), s6)) else none
set_option maxRecDepth 20000 in
theorem t_X11_lose (s0 : zZ) (r1 : List va_E) (r2 : List va_E) (r3 : List va_E) (r4 : List va_E) (r5 : List va_E) (s6 : zZ) (r7 : List va_E) (r8 : List va_E) (r9 : List va_E) (k : Int) {rr : Int × zZ} (H : d_X11_lose s0 s6 k = some rr) : xC MX11_lose 2 [.ref 0, .int (zI k)] ([zH s0 zL0 0, r1, r2, r3, r4, r5, zH s6 zL6 0, r7, r8, r9]) (some (.int (zI rr.1))) ([zH s0 zL0 0, r1, r2, r3, r4, r5, zH rr.2 zL6 0, r7, r8, r9]) := by
  refine ⟨Nat.le_of_ble_eq_true rfl, ?_⟩
  show xBody MX11_lose 2 0 [some (.ref 0), some (.int (zI k))] [] ([zH s0 zL0 0, r1, r2, r3, r4, r5, zH s6 zL6 0, r7, r8, r9]) _ _
  unfold d_X11_lose at H
  refine xB.run oX11_lose 1 (s := (1, [some (.ref 0), some (.int (zI k))], [.int (zI k)], [zH s0 zL0 0, r1, r2, r3, r4, r5, zH s6 zL6 0, r7, r8, r9])) rfl ?_
  obtain ⟨y1, e2, H⟩ := zbd H
  refine xB.call oX11_lose (M2 := MX6_isSheet) rfl rfl ((t_X6_isSheet (zH s0 zL0 0) r1 r2 r3 r4 r5 (zH s6 zL6 0) r7 r8 r9 k e2).deep (by decide : 0 ≤ 1)) ?_
  show xBody MX11_lose 2 4 [some (.ref 0), some (.int (zI k))] [.int (zI y1)] ([zH s0 zL0 0, r1, r2, r3, r4, r5, zH s6 zL6 0, r7, r8, r9]) _ _
  obtain ⟨g6, H⟩ := zgd H
  have H := zif H
  refine xB.brE oX11_lose (P := y1 ≠ 0) rfl (zc_ne (a := y1) (b := 0) ⟨g6, by decide⟩) (fun h3 => ?_) (fun h3 => ?_)
  · have H := H.1 h3
    refine xB.run oX11_lose 3 (s := (14, [some (.ref 0), some (.int (zI k))], [.int (zI k), .ref 6144], [zH s0 zL0 0, r1, r2, r3, r4, r5, zH s6 zL6 0, r7, r8, r9])) rfl ?_
    obtain ⟨y4, e5, H⟩ := zbd H
    refine xB.call oX11_lose (M2 := MX6_drop) rfl rfl ((t_X6_drop (zH s0 zL0 0) r1 r2 r3 r4 r5 s6 r7 r8 r9 k e5).deep (by decide : 1 ≤ 1)) ?_
    show xBody MX11_lose 2 17 [some (.ref 0), some (.int (zI k))] [.int (zI y4.1)] ([zH s0 zL0 0, r1, r2, r3, r4, r5, zH y4.2 zL6 0, r7, r8, r9]) _ _
    obtain rfl := Option.some.inj H
    exact xB.ret oX11_lose (r1 := some (.int (zI y4.1))) rfl rfl rfl
  · have H := H.2 h3
    refine xB.run oX11_lose 1 (s := (8, [some (.ref 0), some (.int (zI k))], [.int (zI (-1))], [zH s0 zL0 0, r1, r2, r3, r4, r5, zH s6 zL6 0, r7, r8, r9])) rfl ?_
    obtain rfl := Option.some.inj H
    exact xB.ret oX11_lose (r1 := some (.int (zI (-1)))) rfl rfl rfl
def d_X11_put (s0 : zZ) (s6 : zZ) (k : Int) (i : Int) (v : Int) : Option (Int × zZ × zZ) := (d_X6_isSheet k).bind fun y1 => if (zr y1) then (if y1 ≠ 0 then ((d_X6_faultOfCell s6 k i).bind fun y4 => if (zr y4) then (if y4 = 0 then ((d_X6_write s6 k i v).bind fun y7 => some (1, upz s0 0 6 0, y7)) else ((d_X11_faultAnswer (upz s0 0 6 0) y4).bind fun y9 => some (y9.1, y9.2, s6))) else none) else some ((-1), upz s0 0 6 0, s6)) else none
set_option maxRecDepth 20000 in
theorem t_X11_put (s0 : zZ) (r1 : List va_E) (r2 : List va_E) (r3 : List va_E) (r4 : List va_E) (r5 : List va_E) (s6 : zZ) (r7 : List va_E) (r8 : List va_E) (r9 : List va_E) (k : Int) (i : Int) (v : Int) {rr : Int × zZ × zZ} (H : d_X11_put s0 s6 k i v = some rr) : xC MX11_put 3 [.ref 0, .int (zI k), .int (zI i), .int (zI v)] ([zH s0 zL0 0, r1, r2, r3, r4, r5, zH s6 zL6 0, r7, r8, r9]) (some (.int (zI rr.1))) ([zH rr.2.1 zL0 0, r1, r2, r3, r4, r5, zH rr.2.2 zL6 0, r7, r8, r9]) := by
  refine ⟨Nat.le_of_ble_eq_true rfl, ?_⟩
  show xBody MX11_put 3 0 [some (.ref 0), some (.int (zI k)), some (.int (zI i)), some (.int (zI v)), none] [] ([zH s0 zL0 0, r1, r2, r3, r4, r5, zH s6 zL6 0, r7, r8, r9]) _ _
  unfold d_X11_put at H
  refine xB.run oX11_put 2 (s := (2, [some (.ref 0), some (.int (zI k)), some (.int (zI i)), some (.int (zI v)), none], [.int (zI 0), .ref 0], [zH s0 zL0 0, r1, r2, r3, r4, r5, zH s6 zL6 0, r7, r8, r9])) rfl ?_
  refine zB.putI oX11_put (g := 0) (p := 0) (c := 11) (k := 6) (y := 0) (hp1 := [zH (upz s0 0 6 0) zL0 0, r1, r2, r3, r4, r5, zH s6 zL6 0, r7, r8, r9]) rfl rfl (by decide) (by decide) rfl rfl rfl rfl rfl rfl ?_
  refine xB.run oX11_put 1 (s := (6, [some (.ref 0), some (.int (zI k)), some (.int (zI i)), some (.int (zI v)), none], [.int (zI k)], [zH (upz s0 0 6 0) zL0 0, r1, r2, r3, r4, r5, zH s6 zL6 0, r7, r8, r9])) rfl ?_
  obtain ⟨y1, e2, H⟩ := zbd H
  refine xB.call oX11_put (M2 := MX6_isSheet) rfl rfl ((t_X6_isSheet (zH (upz s0 0 6 0) zL0 0) r1 r2 r3 r4 r5 (zH s6 zL6 0) r7 r8 r9 k e2).deep (by decide : 0 ≤ 2)) ?_
  show xBody MX11_put 3 9 [some (.ref 0), some (.int (zI k)), some (.int (zI i)), some (.int (zI v)), none] [.int (zI y1)] ([zH (upz s0 0 6 0) zL0 0, r1, r2, r3, r4, r5, zH s6 zL6 0, r7, r8, r9]) _ _
  obtain ⟨g12, H⟩ := zgd H
  have H := zif H
  refine xB.brE oX11_put (P := y1 ≠ 0) rfl (zc_ne (a := y1) (b := 0) ⟨g12, by decide⟩) (fun h3 => ?_) (fun h3 => ?_)
  · have H := H.1 h3
    refine xB.run oX11_put 4 (s := (20, [some (.ref 0), some (.int (zI k)), some (.int (zI i)), some (.int (zI v)), none], [.int (zI i), .int (zI k), .ref 6144], [zH (upz s0 0 6 0) zL0 0, r1, r2, r3, r4, r5, zH s6 zL6 0, r7, r8, r9])) rfl ?_
    obtain ⟨y4, e5, H⟩ := zbd H
    refine xB.call oX11_put (M2 := MX6_faultOfCell) rfl rfl ((t_X6_faultOfCell (zH (upz s0 0 6 0) zL0 0) r1 r2 r3 r4 r5 s6 r7 r8 r9 k i e5).deep (by decide : 1 ≤ 2)) ?_
    show xBody MX11_put 3 23 [some (.ref 0), some (.int (zI k)), some (.int (zI i)), some (.int (zI v)), none] [.int (zI y4)] ([zH (upz s0 0 6 0) zL0 0, r1, r2, r3, r4, r5, zH s6 zL6 0, r7, r8, r9]) _ _
    refine xB.run oX11_put 2 (s := (27, [some (.ref 0), some (.int (zI k)), some (.int (zI i)), some (.int (zI v)), some (.int (zI y4))], [.int (zI y4)], [zH (upz s0 0 6 0) zL0 0, r1, r2, r3, r4, r5, zH s6 zL6 0, r7, r8, r9])) rfl ?_
    obtain ⟨g11, H⟩ := zgd H
    have H := zif H
    refine xB.brE oX11_put (P := y4 = 0) rfl (zc_eq (a := y4) (b := 0) ⟨g11, by decide⟩) (fun h6 => ?_) (fun h6 => ?_)
    · have H := H.1 h6
      refine xB.run oX11_put 5 (s := (44, [some (.ref 0), some (.int (zI k)), some (.int (zI i)), some (.int (zI v)), some (.int (zI y4))], [.int (zI v), .int (zI i), .int (zI k), .ref 6144], [zH (upz s0 0 6 0) zL0 0, r1, r2, r3, r4, r5, zH s6 zL6 0, r7, r8, r9])) rfl ?_
      obtain ⟨y7, e8, H⟩ := zbd H
      refine xB.call oX11_put (M2 := MX6_write) rfl rfl ((t_X6_write (zH (upz s0 0 6 0) zL0 0) r1 r2 r3 r4 r5 s6 r7 r8 r9 k i v e8).deep (by decide : 2 ≤ 2)) ?_
      show xBody MX11_put 3 47 [some (.ref 0), some (.int (zI k)), some (.int (zI i)), some (.int (zI v)), some (.int (zI y4))] [] ([zH (upz s0 0 6 0) zL0 0, r1, r2, r3, r4, r5, zH y7 zL6 0, r7, r8, r9]) _ _
      refine xB.run oX11_put 1 (s := (48, [some (.ref 0), some (.int (zI k)), some (.int (zI i)), some (.int (zI v)), some (.int (zI y4))], [.int (zI 1)], [zH (upz s0 0 6 0) zL0 0, r1, r2, r3, r4, r5, zH y7 zL6 0, r7, r8, r9])) rfl ?_
      obtain rfl := Option.some.inj H
      exact xB.ret oX11_put (r1 := some (.int (zI 1))) rfl rfl rfl
    · have H := H.2 h6
      refine xB.run oX11_put 2 (s := (33, [some (.ref 0), some (.int (zI k)), some (.int (zI i)), some (.int (zI v)), some (.int (zI y4))], [.int (zI y4), .ref 0], [zH (upz s0 0 6 0) zL0 0, r1, r2, r3, r4, r5, zH s6 zL6 0, r7, r8, r9])) rfl ?_
      obtain ⟨y9, e10, H⟩ := zbd H
      refine xB.call oX11_put (M2 := MX11_faultAnswer) rfl rfl ((t_X11_faultAnswer (upz s0 0 6 0) r1 r2 r3 r4 r5 (zH s6 zL6 0) r7 r8 r9 y4 e10).deep (by decide : 0 ≤ 2)) ?_
      show xBody MX11_put 3 36 [some (.ref 0), some (.int (zI k)), some (.int (zI i)), some (.int (zI v)), some (.int (zI y4))] [.int (zI y9.1)] ([zH y9.2 zL0 0, r1, r2, r3, r4, r5, zH s6 zL6 0, r7, r8, r9]) _ _
      obtain rfl := Option.some.inj H
      exact xB.ret oX11_put (r1 := some (.int (zI y9.1))) rfl rfl rfl
  · have H := H.2 h3
    refine xB.run oX11_put 1 (s := (13, [some (.ref 0), some (.int (zI k)), some (.int (zI i)), some (.int (zI v)), none], [.int (zI (-1))], [zH (upz s0 0 6 0) zL0 0, r1, r2, r3, r4, r5, zH s6 zL6 0, r7, r8, r9])) rfl ?_
    obtain rfl := Option.some.inj H
    exact xB.ret oX11_put (r1 := some (.int (zI (-1)))) rfl rfl rfl
def d_X11_cell (s0 : zZ) (s6 : zZ) (k : Int) (i : Int) (lane : Int) : Option (Int × zZ) := (d_X6_isSheet k).bind fun y1 => if (zr y1) then (if y1 = 0 then some ((-9223372036854775808), upz s0 0 6 0) else ((d_X6_isLane lane).bind fun y4 => if (zr y4) then (if y4 ≠ 0 then ((d_X6_isOtherLane s6 k lane).bind fun y7 => if (zr y7) then (if y7 = 0 then ((d_X6_faultOfCell s6 k i).bind fun y10 => if (zr y10) then (if y10 = 0 then ((d_X6_number s6 k i).bind fun y13 => if zr y13 then some (y13, upz s0 0 6 0) else none) else some ((-9223372036854775808), upz (upz s0 0 6 0) 0 6 y10)) else none) else some ((-9223372036854775808), upz (upz s0 0 6 0) 0 6 2)) else none) else some ((-9223372036854775808), upz s0 0 6 0)) else none)) else none
set_option maxRecDepth 20000 in
theorem t_X11_cell (s0 : zZ) (r1 : List va_E) (r2 : List va_E) (r3 : List va_E) (r4 : List va_E) (r5 : List va_E) (s6 : zZ) (r7 : List va_E) (r8 : List va_E) (r9 : List va_E) (k : Int) (i : Int) (lane : Int) {rr : Int × zZ} (H : d_X11_cell s0 s6 k i lane = some rr) : xC MX11_cell 3 [.ref 0, .int (zI k), .int (zI i), .int (zI lane)] ([zH s0 zL0 0, r1, r2, r3, r4, r5, zH s6 zL6 0, r7, r8, r9]) (some (.long (zJ rr.1))) ([zH rr.2 zL0 0, r1, r2, r3, r4, r5, zH s6 zL6 0, r7, r8, r9]) := by
  refine ⟨Nat.le_of_ble_eq_true rfl, ?_⟩
  show xBody MX11_cell 3 0 [some (.ref 0), some (.int (zI k)), some (.int (zI i)), some (.int (zI lane)), none] [] ([zH s0 zL0 0, r1, r2, r3, r4, r5, zH s6 zL6 0, r7, r8, r9]) _ _
  unfold d_X11_cell at H
  refine xB.run oX11_cell 2 (s := (2, [some (.ref 0), some (.int (zI k)), some (.int (zI i)), some (.int (zI lane)), none], [.int (zI 0), .ref 0], [zH s0 zL0 0, r1, r2, r3, r4, r5, zH s6 zL6 0, r7, r8, r9])) rfl ?_
  refine zB.putI oX11_cell (g := 0) (p := 0) (c := 11) (k := 6) (y := 0) (hp1 := [zH (upz s0 0 6 0) zL0 0, r1, r2, r3, r4, r5, zH s6 zL6 0, r7, r8, r9]) rfl rfl (by decide) (by decide) rfl rfl rfl rfl rfl rfl ?_
  refine xB.run oX11_cell 1 (s := (6, [some (.ref 0), some (.int (zI k)), some (.int (zI i)), some (.int (zI lane)), none], [.int (zI k)], [zH (upz s0 0 6 0) zL0 0, r1, r2, r3, r4, r5, zH s6 zL6 0, r7, r8, r9])) rfl ?_
  obtain ⟨y1, e2, H⟩ := zbd H
  refine xB.call oX11_cell (M2 := MX6_isSheet) rfl rfl ((t_X6_isSheet (zH (upz s0 0 6 0) zL0 0) r1 r2 r3 r4 r5 (zH s6 zL6 0) r7 r8 r9 k e2).deep (by decide : 0 ≤ 2)) ?_
  show xBody MX11_cell 3 9 [some (.ref 0), some (.int (zI k)), some (.int (zI i)), some (.int (zI lane)), none] [.int (zI y1)] ([zH (upz s0 0 6 0) zL0 0, r1, r2, r3, r4, r5, zH s6 zL6 0, r7, r8, r9]) _ _
  obtain ⟨g19, H⟩ := zgd H
  have H := zif H
  refine xB.brE oX11_cell (P := y1 = 0) rfl (zc_eq (a := y1) (b := 0) ⟨g19, by decide⟩) (fun h3 => ?_) (fun h3 => ?_)
  · have H := H.1 h3
    refine xB.run oX11_cell 1 (s := (22, [some (.ref 0), some (.int (zI k)), some (.int (zI i)), some (.int (zI lane)), none], [.long (zJ (-9223372036854775808))], [zH (upz s0 0 6 0) zL0 0, r1, r2, r3, r4, r5, zH s6 zL6 0, r7, r8, r9])) rfl ?_
    obtain rfl := Option.some.inj H
    exact xB.ret oX11_cell (r1 := some (.long (zJ (-9223372036854775808)))) rfl rfl rfl
  · have H := H.2 h3
    refine xB.run oX11_cell 1 (s := (13, [some (.ref 0), some (.int (zI k)), some (.int (zI i)), some (.int (zI lane)), none], [.int (zI lane)], [zH (upz s0 0 6 0) zL0 0, r1, r2, r3, r4, r5, zH s6 zL6 0, r7, r8, r9])) rfl ?_
    obtain ⟨y4, e5, H⟩ := zbd H
    refine xB.call oX11_cell (M2 := MX6_isLane) rfl rfl ((t_X6_isLane (zH (upz s0 0 6 0) zL0 0) r1 r2 r3 r4 r5 (zH s6 zL6 0) r7 r8 r9 lane e5).deep (by decide : 0 ≤ 2)) ?_
    show xBody MX11_cell 3 16 [some (.ref 0), some (.int (zI k)), some (.int (zI i)), some (.int (zI lane)), none] [.int (zI y4)] ([zH (upz s0 0 6 0) zL0 0, r1, r2, r3, r4, r5, zH s6 zL6 0, r7, r8, r9]) _ _
    obtain ⟨g18, H⟩ := zgd H
    have H := zif H
    refine xB.brE oX11_cell (P := y4 ≠ 0) rfl (zc_ne (a := y4) (b := 0) ⟨g18, by decide⟩) (fun h6 => ?_) (fun h6 => ?_)
    · have H := H.1 h6
      refine xB.run oX11_cell 4 (s := (29, [some (.ref 0), some (.int (zI k)), some (.int (zI i)), some (.int (zI lane)), none], [.int (zI lane), .int (zI k), .ref 6144], [zH (upz s0 0 6 0) zL0 0, r1, r2, r3, r4, r5, zH s6 zL6 0, r7, r8, r9])) rfl ?_
      obtain ⟨y7, e8, H⟩ := zbd H
      refine xB.call oX11_cell (M2 := MX6_isOtherLane) rfl rfl ((t_X6_isOtherLane (zH (upz s0 0 6 0) zL0 0) r1 r2 r3 r4 r5 s6 r7 r8 r9 k lane e8).deep (by decide : 1 ≤ 2)) ?_
      show xBody MX11_cell 3 32 [some (.ref 0), some (.int (zI k)), some (.int (zI i)), some (.int (zI lane)), none] [.int (zI y7)] ([zH (upz s0 0 6 0) zL0 0, r1, r2, r3, r4, r5, zH s6 zL6 0, r7, r8, r9]) _ _
      obtain ⟨g17, H⟩ := zgd H
      have H := zif H
      refine xB.brE oX11_cell (P := y7 = 0) rfl (zc_eq (a := y7) (b := 0) ⟨g17, by decide⟩) (fun h9 => ?_) (fun h9 => ?_)
      · have H := H.1 h9
        refine xB.run oX11_cell 4 (s := (45, [some (.ref 0), some (.int (zI k)), some (.int (zI i)), some (.int (zI lane)), none], [.int (zI i), .int (zI k), .ref 6144], [zH (upz s0 0 6 0) zL0 0, r1, r2, r3, r4, r5, zH s6 zL6 0, r7, r8, r9])) rfl ?_
        obtain ⟨y10, e11, H⟩ := zbd H
        refine xB.call oX11_cell (M2 := MX6_faultOfCell) rfl rfl ((t_X6_faultOfCell (zH (upz s0 0 6 0) zL0 0) r1 r2 r3 r4 r5 s6 r7 r8 r9 k i e11).deep (by decide : 1 ≤ 2)) ?_
        show xBody MX11_cell 3 48 [some (.ref 0), some (.int (zI k)), some (.int (zI i)), some (.int (zI lane)), none] [.int (zI y10)] ([zH (upz s0 0 6 0) zL0 0, r1, r2, r3, r4, r5, zH s6 zL6 0, r7, r8, r9]) _ _
        refine xB.run oX11_cell 2 (s := (52, [some (.ref 0), some (.int (zI k)), some (.int (zI i)), some (.int (zI lane)), some (.int (zI y10))], [.int (zI y10)], [zH (upz s0 0 6 0) zL0 0, r1, r2, r3, r4, r5, zH s6 zL6 0, r7, r8, r9])) rfl ?_
        obtain ⟨g16, H⟩ := zgd H
        have H := zif H
        refine xB.brE oX11_cell (P := y10 = 0) rfl (zc_eq (a := y10) (b := 0) ⟨g16, by decide⟩) (fun h12 => ?_) (fun h12 => ?_)
        · have H := H.1 h12
          refine xB.run oX11_cell 4 (s := (71, [some (.ref 0), some (.int (zI k)), some (.int (zI i)), some (.int (zI lane)), some (.int (zI y10))], [.int (zI i), .int (zI k), .ref 6144], [zH (upz s0 0 6 0) zL0 0, r1, r2, r3, r4, r5, zH s6 zL6 0, r7, r8, r9])) rfl ?_
          obtain ⟨y13, e14, H⟩ := zbd H
          refine xB.call oX11_cell (M2 := MX6_number) rfl rfl ((t_X6_number (zH (upz s0 0 6 0) zL0 0) r1 r2 r3 r4 r5 s6 r7 r8 r9 k i e14).deep (by decide : 2 ≤ 2)) ?_
          show xBody MX11_cell 3 74 [some (.ref 0), some (.int (zI k)), some (.int (zI i)), some (.int (zI lane)), some (.int (zI y10))] [.int (zI y13)] ([zH (upz s0 0 6 0) zL0 0, r1, r2, r3, r4, r5, zH s6 zL6 0, r7, r8, r9]) _ _
          obtain ⟨g15, H⟩ := zgd H
          refine zB.opl oX11_cell rfl (zi_i2l g15) ?_
          obtain rfl := Option.some.inj H
          exact xB.ret oX11_cell (r1 := some (.long (zJ y13))) rfl rfl rfl
        · have H := H.2 h12
          refine xB.run oX11_cell 2 (s := (58, [some (.ref 0), some (.int (zI k)), some (.int (zI i)), some (.int (zI lane)), some (.int (zI y10))], [.int (zI y10), .ref 0], [zH (upz s0 0 6 0) zL0 0, r1, r2, r3, r4, r5, zH s6 zL6 0, r7, r8, r9])) rfl ?_
          refine zB.putI oX11_cell (g := 0) (p := 0) (c := 11) (k := 6) (y := 0) (hp1 := [zH (upz (upz s0 0 6 0) 0 6 y10) zL0 0, r1, r2, r3, r4, r5, zH s6 zL6 0, r7, r8, r9]) rfl rfl (by decide) (by decide) rfl rfl rfl rfl rfl rfl ?_
          refine xB.run oX11_cell 1 (s := (64, [some (.ref 0), some (.int (zI k)), some (.int (zI i)), some (.int (zI lane)), some (.int (zI y10))], [.long (zJ (-9223372036854775808))], [zH (upz (upz s0 0 6 0) 0 6 y10) zL0 0, r1, r2, r3, r4, r5, zH s6 zL6 0, r7, r8, r9])) rfl ?_
          obtain rfl := Option.some.inj H
          exact xB.ret oX11_cell (r1 := some (.long (zJ (-9223372036854775808)))) rfl rfl rfl
      · have H := H.2 h9
        refine xB.run oX11_cell 7 (s := (58, [some (.ref 0), some (.int (zI k)), some (.int (zI i)), some (.int (zI lane)), some (.int (zI 2))], [.int (zI 2), .ref 0], [zH (upz s0 0 6 0) zL0 0, r1, r2, r3, r4, r5, zH s6 zL6 0, r7, r8, r9])) rfl ?_
        refine zB.putI oX11_cell (g := 0) (p := 0) (c := 11) (k := 6) (y := 0) (hp1 := [zH (upz (upz s0 0 6 0) 0 6 2) zL0 0, r1, r2, r3, r4, r5, zH s6 zL6 0, r7, r8, r9]) rfl rfl (by decide) (by decide) rfl rfl rfl rfl rfl rfl ?_
        refine xB.run oX11_cell 1 (s := (64, [some (.ref 0), some (.int (zI k)), some (.int (zI i)), some (.int (zI lane)), some (.int (zI 2))], [.long (zJ (-9223372036854775808))], [zH (upz (upz s0 0 6 0) 0 6 2) zL0 0, r1, r2, r3, r4, r5, zH s6 zL6 0, r7, r8, r9])) rfl ?_
        obtain rfl := Option.some.inj H
        exact xB.ret oX11_cell (r1 := some (.long (zJ (-9223372036854775808)))) rfl rfl rfl
    · have H := H.2 h6
      refine xB.run oX11_cell 1 (s := (22, [some (.ref 0), some (.int (zI k)), some (.int (zI i)), some (.int (zI lane)), none], [.long (zJ (-9223372036854775808))], [zH (upz s0 0 6 0) zL0 0, r1, r2, r3, r4, r5, zH s6 zL6 0, r7, r8, r9])) rfl ?_
      obtain rfl := Option.some.inj H
      exact xB.ret oX11_cell (r1 := some (.long (zJ (-9223372036854775808)))) rfl rfl rfl
def d_X11_fault (s0 : zZ) : Option (Int) := some (s0 0 6)
set_option maxRecDepth 20000 in
theorem t_X11_fault (s0 : zZ) (r1 : List va_E) (r2 : List va_E) (r3 : List va_E) (r4 : List va_E) (r5 : List va_E) (r6 : List va_E) (r7 : List va_E) (r8 : List va_E) (r9 : List va_E) {rr : Int} (H : d_X11_fault s0 = some rr) : xC MX11_fault 0 [.ref 0] ([zH s0 zL0 0, r1, r2, r3, r4, r5, r6, r7, r8, r9]) (some (.int (zI rr))) ([zH s0 zL0 0, r1, r2, r3, r4, r5, r6, r7, r8, r9]) := by
  refine ⟨Nat.le_of_ble_eq_true rfl, ?_⟩
  show xBody MX11_fault 0 0 [some (.ref 0)] [] ([zH s0 zL0 0, r1, r2, r3, r4, r5, r6, r7, r8, r9]) _ _
  unfold d_X11_fault at H
  refine xB.run oX11_fault 2 (s := (4, [some (.ref 0)], [.int (zI (s0 0 6))], [zH s0 zL0 0, r1, r2, r3, r4, r5, r6, r7, r8, r9])) rfl ?_
  obtain rfl := Option.some.inj H
  exact xB.ret oX11_fault (r1 := some (.int (zI (s0 0 6)))) rfl rfl rfl
