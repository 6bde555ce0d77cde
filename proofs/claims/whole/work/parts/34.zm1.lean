/-! 34.zm1 -/
def d_X12_fails (s7 : zZ) (k : Int) : Option (Int × zZ) := some ((-10) - k, upz s7 0 0 k)
set_option maxRecDepth 20000 in
theorem t_X12_fails (r0 : List va_E) (r1 : List va_E) (r2 : List va_E) (r3 : List va_E) (r4 : List va_E) (r5 : List va_E) (r6 : List va_E) (s7 : zZ) (r8 : List va_E) (r9 : List va_E) (k : Int) {rr : Int × zZ} (H : d_X12_fails s7 k = some rr) : xC MX12_fails 0 [.ref 7168, .int (zI k)] ([r0, r1, r2, r3, r4, r5, r6, zH s7 zL7 0, r8, r9]) (some (.int (zI rr.1))) ([r0, r1, r2, r3, r4, r5, r6, zH rr.2 zL7 0, r8, r9]) := by
  refine ⟨Nat.le_of_ble_eq_true rfl, ?_⟩
  show xBody MX12_fails 0 0 [some (.ref 7168), some (.int (zI k))] [] ([r0, r1, r2, r3, r4, r5, r6, zH s7 zL7 0, r8, r9]) _ _
  unfold d_X12_fails at H
  refine xB.run oX12_fails 2 (s := (2, [some (.ref 7168), some (.int (zI k))], [.int (zI k), .ref 7168], [r0, r1, r2, r3, r4, r5, r6, zH s7 zL7 0, r8, r9])) rfl ?_
  refine zB.putI oX12_fails (g := 7) (p := 0) (c := 12) (k := 0) (y := 0) (hp1 := [r0, r1, r2, r3, r4, r5, r6, zH (upz s7 0 0 k) zL7 0, r8, r9]) rfl rfl (by decide) (by decide) rfl rfl rfl rfl rfl rfl ?_
  refine xB.run oX12_fails 2 (s := (8, [some (.ref 7168), some (.int (zI k))], [.int (zI k), .int (zI (-10))], [r0, r1, r2, r3, r4, r5, r6, zH (upz s7 0 0 k) zL7 0, r8, r9])) rfl ?_
  refine zB.opi oX12_fails rfl (zi_sub (-10) k) ?_
  obtain rfl := Option.some.inj H
  exact xB.ret oX12_fails (r1 := some (.int (zI ((-10) - k)))) rfl rfl rfl
def d_X12_lost (s7 : zZ) (k : Int) : Option (Int × zZ) := some ((-9223372036854775808), upz s7 0 0 k)
set_option maxRecDepth 20000 in
theorem t_X12_lost (r0 : List va_E) (r1 : List va_E) (r2 : List va_E) (r3 : List va_E) (r4 : List va_E) (r5 : List va_E) (r6 : List va_E) (s7 : zZ) (r8 : List va_E) (r9 : List va_E) (k : Int) {rr : Int × zZ} (H : d_X12_lost s7 k = some rr) : xC MX12_lost 0 [.ref 7168, .int (zI k)] ([r0, r1, r2, r3, r4, r5, r6, zH s7 zL7 0, r8, r9]) (some (.long (zJ rr.1))) ([r0, r1, r2, r3, r4, r5, r6, zH rr.2 zL7 0, r8, r9]) := by
  refine ⟨Nat.le_of_ble_eq_true rfl, ?_⟩
  show xBody MX12_lost 0 0 [some (.ref 7168), some (.int (zI k))] [] ([r0, r1, r2, r3, r4, r5, r6, zH s7 zL7 0, r8, r9]) _ _
  unfold d_X12_lost at H
  refine xB.run oX12_lost 2 (s := (2, [some (.ref 7168), some (.int (zI k))], [.int (zI k), .ref 7168], [r0, r1, r2, r3, r4, r5, r6, zH s7 zL7 0, r8, r9])) rfl ?_
  refine zB.putI oX12_lost (g := 7) (p := 0) (c := 12) (k := 0) (y := 0) (hp1 := [r0, r1, r2, r3, r4, r5, r6, zH (upz s7 0 0 k) zL7 0, r8, r9]) rfl rfl (by decide) (by decide) rfl rfl rfl rfl rfl rfl ?_
  refine xB.run oX12_lost 1 (s := (8, [some (.ref 7168), some (.int (zI k))], [.long (zJ (-9223372036854775808))], [r0, r1, r2, r3, r4, r5, r6, zH (upz s7 0 0 k) zL7 0, r8, r9])) rfl ?_
  obtain rfl := Option.some.inj H
  exact xB.ret oX12_lost (r1 := some (.long (zJ (-9223372036854775808)))) rfl rfl rfl
def d_X12_codeAt (s7 : zZ) : Option (Int) := if (zr (s7 0 9) ∧ zr (s7 0 10)) then (if (s7 0 10) ≤ (s7 0 9) then some (-9) else (if (0 ≤ (s7 0 9) ∧ (s7 0 9) < 240) then some (s7 3 (s7 0 9).toNat) else none)) else none
set_option maxRecDepth 20000 in
theorem t_X12_codeAt (r0 : List va_E) (r1 : List va_E) (r2 : List va_E) (r3 : List va_E) (r4 : List va_E) (r5 : List va_E) (r6 : List va_E) (s7 : zZ) (r8 : List va_E) (r9 : List va_E) {rr : Int} (H : d_X12_codeAt s7 = some rr) : xC MX12_codeAt 0 [.ref 7168] ([r0, r1, r2, r3, r4, r5, r6, zH s7 zL7 0, r8, r9]) (some (.int (zI rr))) ([r0, r1, r2, r3, r4, r5, r6, zH s7 zL7 0, r8, r9]) := by
  refine ⟨Nat.le_of_ble_eq_true rfl, ?_⟩
  show xBody MX12_codeAt 0 0 [some (.ref 7168)] [] ([r0, r1, r2, r3, r4, r5, r6, zH s7 zL7 0, r8, r9]) _ _
  unfold d_X12_codeAt at H
  refine xB.run oX12_codeAt 4 (s := (8, [some (.ref 7168)], [.int (zI (s7 0 10)), .int (zI (s7 0 9))], [r0, r1, r2, r3, r4, r5, r6, zH s7 zL7 0, r8, r9])) rfl ?_
  obtain ⟨g3, H⟩ := zgd H
  have H := zif H
  refine xB.brE oX12_codeAt (P := (s7 0 10) ≤ (s7 0 9)) rfl (zc_ge (a := s7 0 9) (b := s7 0 10) g3) (fun h1 => ?_) (fun h1 => ?_)
  · have H := H.1 h1
    refine xB.run oX12_codeAt 1 (s := (25, [some (.ref 7168)], [.int (zI (-9))], [r0, r1, r2, r3, r4, r5, r6, zH s7 zL7 0, r8, r9])) rfl ?_
    obtain rfl := Option.some.inj H
    exact xB.ret oX12_codeAt (r1 := some (.int (zI (-9)))) rfl rfl rfl
  · have H := H.2 h1
    refine xB.run oX12_codeAt 4 (s := (19, [some (.ref 7168)], [.int (zI (s7 0 9)), .ref 7171], [r0, r1, r2, r3, r4, r5, r6, zH s7 zL7 0, r8, r9])) rfl ?_
    obtain ⟨g2, H⟩ := zgd H
    refine zB.iald oX12_codeAt (g := 7) (p := 3) (N := 240) (i := s7 0 9) rfl rfl (by decide) rfl rfl (by decide) g2 ?_
    refine xB.run oX12_codeAt 1 (s := (25, [some (.ref 7168)], [.int (zI (s7 3 (s7 0 9).toNat))], [r0, r1, r2, r3, r4, r5, r6, zH s7 zL7 0, r8, r9])) rfl ?_
    obtain rfl := Option.some.inj H
    exact xB.ret oX12_codeAt (r1 := some (.int (zI (s7 3 (s7 0 9).toNat)))) rfl rfl rfl
def d_X12_isCode (s7 : zZ) (code : Int) : Option (Int × zZ) := (d_X12_codeAt s7).bind fun y1 => if (zr y1 ∧ zr code) then (if y1 ≠ code then some (0, upz s7 0 11 (s7 0 9)) else (if (zr (s7 0 9) ∧ zr (s7 0 10)) then (if (s7 0 10) ≤ (s7 0 9) then some (0, upz s7 0 11 (s7 0 9)) else some (1, upz s7 0 9 ((s7 0 9) + 1))) else none)) else none
set_option maxRecDepth 20000 in
theorem t_X12_isCode (r0 : List va_E) (r1 : List va_E) (r2 : List va_E) (r3 : List va_E) (r4 : List va_E) (r5 : List va_E) (r6 : List va_E) (s7 : zZ) (r8 : List va_E) (r9 : List va_E) (code : Int) {rr : Int × zZ} (H : d_X12_isCode s7 code = some rr) : xC MX12_isCode 1 [.ref 7168, .int (zI code)] ([r0, r1, r2, r3, r4, r5, r6, zH s7 zL7 0, r8, r9]) (some (.int (zI rr.1))) ([r0, r1, r2, r3, r4, r5, r6, zH rr.2 zL7 0, r8, r9]) := by
  refine ⟨Nat.le_of_ble_eq_true rfl, ?_⟩
  show xBody MX12_isCode 1 0 [some (.ref 7168), some (.int (zI code))] [] ([r0, r1, r2, r3, r4, r5, r6, zH s7 zL7 0, r8, r9]) _ _
  unfold d_X12_isCode at H
  refine xB.run oX12_isCode 1 (s := (1, [some (.ref 7168), some (.int (zI code))], [.ref 7168], [r0, r1, r2, r3, r4, r5, r6, zH s7 zL7 0, r8, r9])) rfl ?_
  obtain ⟨y1, e2, H⟩ := zbd H
  refine xB.call oX12_isCode (M2 := MX12_codeAt) rfl rfl ((t_X12_codeAt r0 r1 r2 r3 r4 r5 r6 s7 r8 r9  e2).deep (by decide : 0 ≤ 0)) ?_
  show xBody MX12_isCode 1 4 [some (.ref 7168), some (.int (zI code))] [.int (zI y1)] ([r0, r1, r2, r3, r4, r5, r6, zH s7 zL7 0, r8, r9]) _ _
  refine xB.run oX12_isCode 1 (s := (5, [some (.ref 7168), some (.int (zI code))], [.int (zI code), .int (zI y1)], [r0, r1, r2, r3, r4, r5, r6, zH s7 zL7 0, r8, r9])) rfl ?_
  obtain ⟨g6, H⟩ := zgd H
  have H := zif H
  refine xB.brE oX12_isCode (P := y1 ≠ code) rfl (zc_ne (a := y1) (b := code) g6) (fun h3 => ?_) (fun h3 => ?_)
  · have H := H.1 h3
    refine xB.run oX12_isCode 3 (s := (36, [some (.ref 7168), some (.int (zI code))], [.int (zI (s7 0 9)), .ref 7168], [r0, r1, r2, r3, r4, r5, r6, zH s7 zL7 0, r8, r9])) rfl ?_
    refine zB.putI oX12_isCode (g := 7) (p := 0) (c := 12) (k := 11) (y := 0) (hp1 := [r0, r1, r2, r3, r4, r5, r6, zH (upz s7 0 11 (s7 0 9)) zL7 0, r8, r9]) rfl rfl (by decide) (by decide) rfl rfl rfl rfl rfl rfl ?_
    refine xB.run oX12_isCode 1 (s := (40, [some (.ref 7168), some (.int (zI code))], [.int (zI 0)], [r0, r1, r2, r3, r4, r5, r6, zH (upz s7 0 11 (s7 0 9)) zL7 0, r8, r9])) rfl ?_
    obtain rfl := Option.some.inj H
    exact xB.ret oX12_isCode (r1 := some (.int (zI 0))) rfl rfl rfl
  · have H := H.2 h3
    refine xB.run oX12_isCode 4 (s := (16, [some (.ref 7168), some (.int (zI code))], [.int (zI (s7 0 10)), .int (zI (s7 0 9))], [r0, r1, r2, r3, r4, r5, r6, zH s7 zL7 0, r8, r9])) rfl ?_
    obtain ⟨g5, H⟩ := zgd H
    have H := zif H
    refine xB.brE oX12_isCode (P := (s7 0 10) ≤ (s7 0 9)) rfl (zc_ge (a := s7 0 9) (b := s7 0 10) g5) (fun h4 => ?_) (fun h4 => ?_)
    · have H := H.1 h4
      refine xB.run oX12_isCode 3 (s := (36, [some (.ref 7168), some (.int (zI code))], [.int (zI (s7 0 9)), .ref 7168], [r0, r1, r2, r3, r4, r5, r6, zH s7 zL7 0, r8, r9])) rfl ?_
      refine zB.putI oX12_isCode (g := 7) (p := 0) (c := 12) (k := 11) (y := 0) (hp1 := [r0, r1, r2, r3, r4, r5, r6, zH (upz s7 0 11 (s7 0 9)) zL7 0, r8, r9]) rfl rfl (by decide) (by decide) rfl rfl rfl rfl rfl rfl ?_
      refine xB.run oX12_isCode 1 (s := (40, [some (.ref 7168), some (.int (zI code))], [.int (zI 0)], [r0, r1, r2, r3, r4, r5, r6, zH (upz s7 0 11 (s7 0 9)) zL7 0, r8, r9])) rfl ?_
      obtain rfl := Option.some.inj H
      exact xB.ret oX12_isCode (r1 := some (.int (zI 0))) rfl rfl rfl
    · have H := H.2 h4
      refine xB.run oX12_isCode 4 (s := (25, [some (.ref 7168), some (.int (zI code))], [.int (zI 1), .int (zI (s7 0 9)), .ref 7168], [r0, r1, r2, r3, r4, r5, r6, zH s7 zL7 0, r8, r9])) rfl ?_
      refine zB.opi oX12_isCode rfl (zi_add (s7 0 9) 1) ?_
      refine zB.putI oX12_isCode (g := 7) (p := 0) (c := 12) (k := 9) (y := 0) (hp1 := [r0, r1, r2, r3, r4, r5, r6, zH (upz s7 0 9 ((s7 0 9) + 1)) zL7 0, r8, r9]) rfl rfl (by decide) (by decide) rfl rfl rfl rfl rfl rfl ?_
      refine xB.run oX12_isCode 1 (s := (30, [some (.ref 7168), some (.int (zI code))], [.int (zI 1)], [r0, r1, r2, r3, r4, r5, r6, zH (upz s7 0 9 ((s7 0 9) + 1)) zL7 0, r8, r9])) rfl ?_
      obtain rfl := Option.some.inj H
      exact xB.ret oX12_isCode (r1 := some (.int (zI 1))) rfl rfl rfl
def d_X12_number_8 (least : Int) (most : Int) (first : Int) : Nat → Int → zZ → Option (Int × zZ)
  | 0, _, _ => none
  | uN + 1, v, s7 => if (zr (s7 0 9) ∧ zr (first + 3)) then (if (first + 3) ≤ (s7 0 9) then some (v, s7) else ((d_X12_codeAt s7).bind fun y2 => if zr y2 then ((d_X12_within y2 48 57).bind fun y4 => if (zr y4) then (if y4 = 0 then some (v, s7) else ((d_X12_codeAt s7).bind fun y7 => d_X12_number_8 least most first uN (((10 * v) + y7) - 48) (upz s7 0 9 ((s7 0 9) + 1)))) else none) else none)) else none
def d_X12_number (s7 : zZ) (least : Int) (most : Int) : Option (Int × zZ) := (d_X12_number_8 least most (s7 0 9) zF 0 s7).bind fun y12 => if (zr (y12.2 0 9) ∧ zr (s7 0 9)) then (if (y12.2 0 9) = (s7 0 9) then some ((-1), upz y12.2 0 11 (s7 0 9)) else (if zr y12.1 then (if zr least then (if zr most then ((d_X12_within y12.1 least most).bind fun y15 => if (zr y15) then (if y15 ≠ 0 then some (y12.1, y12.2) else some ((-1), upz y12.2 0 11 (s7 0 9))) else none) else none) else none) else none)) else none
set_option maxRecDepth 20000 in
theorem l_X12_number_8 (r0 : List va_E) (r1 : List va_E) (r2 : List va_E) (r3 : List va_E) (r4 : List va_E) (r5 : List va_E) (r6 : List va_E) (r8 : List va_E) (r9 : List va_E) (least : Int) (most : Int) (first : Int) {r : Option Value} {hp1 : xH} : ∀ (uN : Nat) (v : Int) (s7 : zZ) {uX : Int × zZ}, d_X12_number_8 least most first uN v s7 = some uX → (xBody MX12_number 1 63 [some (.ref 7168), some (.int (zI least)), some (.int (zI most)), some (.int (zI first)), some (.int (zI uX.1))] [] ([r0, r1, r2, r3, r4, r5, r6, zH uX.2 zL7 0, r8, r9]) r hp1) → xBody MX12_number 1 8 [some (.ref 7168), some (.int (zI least)), some (.int (zI most)), some (.int (zI first)), some (.int (zI v))] [] ([r0, r1, r2, r3, r4, r5, r6, zH s7 zL7 0, r8, r9]) r hp1 := by
  intro uN
  induction uN with
  | zero => intro v s7 uX H K; cases H
  | succ uN ih =>
    intro v s7 uX H K
    unfold d_X12_number_8 at H
    refine xB.run oX12_number 4 (s := (14, [some (.ref 7168), some (.int (zI least)), some (.int (zI most)), some (.int (zI first)), some (.int (zI v))], [.int (zI 3), .int (zI first), .int (zI (s7 0 9))], [r0, r1, r2, r3, r4, r5, r6, zH s7 zL7 0, r8, r9])) rfl ?_
    refine zB.opi oX12_number rfl (zi_add first 3) ?_
    obtain ⟨g11, H⟩ := zgd H
    have H := zif H
    refine xB.brE oX12_number (P := (first + 3) ≤ (s7 0 9)) rfl (zc_ge (a := s7 0 9) (b := first + 3) g11) (fun h1 => ?_) (fun h1 => ?_)
    · have H := H.1 h1
      obtain rfl := Option.some.inj H
      exact K
    · have H := H.2 h1
      refine xB.run oX12_number 1 (s := (19, [some (.ref 7168), some (.int (zI least)), some (.int (zI most)), some (.int (zI first)), some (.int (zI v))], [.ref 7168], [r0, r1, r2, r3, r4, r5, r6, zH s7 zL7 0, r8, r9])) rfl ?_
      obtain ⟨y2, e3, H⟩ := zbd H
      refine xB.call oX12_number (M2 := MX12_codeAt) rfl rfl ((t_X12_codeAt r0 r1 r2 r3 r4 r5 r6 s7 r8 r9  e3).deep (by decide : 0 ≤ 0)) ?_
      show xBody MX12_number 1 22 [some (.ref 7168), some (.int (zI least)), some (.int (zI most)), some (.int (zI first)), some (.int (zI v))] [.int (zI y2)] ([r0, r1, r2, r3, r4, r5, r6, zH s7 zL7 0, r8, r9]) _ _
      obtain ⟨g10, H⟩ := zgd H
      refine zB.opl oX12_number rfl (zi_i2l g10) ?_
      refine xB.run oX12_number 2 (s := (29, [some (.ref 7168), some (.int (zI least)), some (.int (zI most)), some (.int (zI first)), some (.int (zI v))], [.long (zJ 57), .long (zJ 48), .long (zJ y2)], [r0, r1, r2, r3, r4, r5, r6, zH s7 zL7 0, r8, r9])) rfl ?_
      obtain ⟨y4, e5, H⟩ := zbd H
      refine xB.call oX12_number (M2 := MX12_within) rfl rfl ((t_X12_within r0 r1 r2 r3 r4 r5 r6 (zH s7 zL7 0) r8 r9 y2 48 57 e5).deep (by decide : 0 ≤ 0)) ?_
      show xBody MX12_number 1 32 [some (.ref 7168), some (.int (zI least)), some (.int (zI most)), some (.int (zI first)), some (.int (zI v))] [.int (zI y4)] ([r0, r1, r2, r3, r4, r5, r6, zH s7 zL7 0, r8, r9]) _ _
      obtain ⟨g9, H⟩ := zgd H
      have H := zif H
      refine xB.brE oX12_number (P := y4 = 0) rfl (zc_eq (a := y4) (b := 0) ⟨g9, by decide⟩) (fun h6 => ?_) (fun h6 => ?_)
      · have H := H.1 h6
        obtain rfl := Option.some.inj H
        exact K
      · have H := H.2 h6
        refine xB.run oX12_number 2 (s := (39, [some (.ref 7168), some (.int (zI least)), some (.int (zI most)), some (.int (zI first)), some (.int (zI v))], [.int (zI v), .int (zI 10)], [r0, r1, r2, r3, r4, r5, r6, zH s7 zL7 0, r8, r9])) rfl ?_
        refine zB.opi oX12_number rfl (zi_mul 10 v) ?_
        refine xB.run oX12_number 1 (s := (41, [some (.ref 7168), some (.int (zI least)), some (.int (zI most)), some (.int (zI first)), some (.int (zI v))], [.ref 7168, .int (zI (10 * v))], [r0, r1, r2, r3, r4, r5, r6, zH s7 zL7 0, r8, r9])) rfl ?_
        obtain ⟨y7, e8, H⟩ := zbd H
        refine xB.call oX12_number (M2 := MX12_codeAt) rfl rfl ((t_X12_codeAt r0 r1 r2 r3 r4 r5 r6 s7 r8 r9  e8).deep (by decide : 0 ≤ 0)) ?_
        show xBody MX12_number 1 44 [some (.ref 7168), some (.int (zI least)), some (.int (zI most)), some (.int (zI first)), some (.int (zI v))] [.int (zI y7), .int (zI (10 * v))] ([r0, r1, r2, r3, r4, r5, r6, zH s7 zL7 0, r8, r9]) _ _
        refine zB.opi oX12_number rfl (zi_add (10 * v) y7) ?_
        refine xB.run oX12_number 1 (s := (47, [some (.ref 7168), some (.int (zI least)), some (.int (zI most)), some (.int (zI first)), some (.int (zI v))], [.int (zI 48), .int (zI ((10 * v) + y7))], [r0, r1, r2, r3, r4, r5, r6, zH s7 zL7 0, r8, r9])) rfl ?_
        refine zB.opi oX12_number rfl (zi_sub ((10 * v) + y7) 48) ?_
        refine xB.run oX12_number 5 (s := (56, [some (.ref 7168), some (.int (zI least)), some (.int (zI most)), some (.int (zI first)), some (.int (zI (((10 * v) + y7) - 48)))], [.int (zI 1), .int (zI (s7 0 9)), .ref 7168], [r0, r1, r2, r3, r4, r5, r6, zH s7 zL7 0, r8, r9])) rfl ?_
        refine zB.opi oX12_number rfl (zi_add (s7 0 9) 1) ?_
        refine zB.putI oX12_number (g := 7) (p := 0) (c := 12) (k := 9) (y := 0) (hp1 := [r0, r1, r2, r3, r4, r5, r6, zH (upz s7 0 9 ((s7 0 9) + 1)) zL7 0, r8, r9]) rfl rfl (by decide) (by decide) rfl rfl rfl rfl rfl rfl ?_
        refine xB.run oX12_number 1 (s := (8, [some (.ref 7168), some (.int (zI least)), some (.int (zI most)), some (.int (zI first)), some (.int (zI (((10 * v) + y7) - 48)))], [], [r0, r1, r2, r3, r4, r5, r6, zH (upz s7 0 9 ((s7 0 9) + 1)) zL7 0, r8, r9])) rfl ?_
        exact ih (((10 * v) + y7) - 48) (upz s7 0 9 ((s7 0 9) + 1)) H K
set_option maxRecDepth 20000 in
theorem t_X12_number (r0 : List va_E) (r1 : List va_E) (r2 : List va_E) (r3 : List va_E) (r4 : List va_E) (r5 : List va_E) (r6 : List va_E) (s7 : zZ) (r8 : List va_E) (r9 : List va_E) (least : Int) (most : Int) {rr : Int × zZ} (H : d_X12_number s7 least most = some rr) : xC MX12_number 1 [.ref 7168, .int (zI least), .int (zI most)] ([r0, r1, r2, r3, r4, r5, r6, zH s7 zL7 0, r8, r9]) (some (.int (zI rr.1))) ([r0, r1, r2, r3, r4, r5, r6, zH rr.2 zL7 0, r8, r9]) := by
  refine ⟨Nat.le_of_ble_eq_true rfl, ?_⟩
  show xBody MX12_number 1 0 [some (.ref 7168), some (.int (zI least)), some (.int (zI most)), none, none] [] ([r0, r1, r2, r3, r4, r5, r6, zH s7 zL7 0, r8, r9]) _ _
  unfold d_X12_number at H
  refine xB.run oX12_number 5 (s := (8, [some (.ref 7168), some (.int (zI least)), some (.int (zI most)), some (.int (zI (s7 0 9))), some (.int (zI 0))], [], [r0, r1, r2, r3, r4, r5, r6, zH s7 zL7 0, r8, r9])) rfl ?_
  obtain ⟨y12, e13, H⟩ := zbd H
  refine l_X12_number_8 r0 r1 r2 r3 r4 r5 r6 r8 r9 least most (s7 0 9) _ 0 s7 e13 ?_
  refine xB.run oX12_number 3 (s := (68, [some (.ref 7168), some (.int (zI least)), some (.int (zI most)), some (.int (zI (s7 0 9))), some (.int (zI y12.1))], [.int (zI (s7 0 9)), .int (zI (y12.2 0 9))], [r0, r1, r2, r3, r4, r5, r6, zH y12.2 zL7 0, r8, r9])) rfl ?_
  obtain ⟨g22, H⟩ := zgd H
  have H := zif H
  refine xB.brE oX12_number (P := (y12.2 0 9) = (s7 0 9)) rfl (zc_eq (a := y12.2 0 9) (b := s7 0 9) g22) (fun h14 => ?_) (fun h14 => ?_)
  · have H := H.1 h14
    refine xB.run oX12_number 2 (s := (86, [some (.ref 7168), some (.int (zI least)), some (.int (zI most)), some (.int (zI (s7 0 9))), some (.int (zI y12.1))], [.int (zI (s7 0 9)), .ref 7168], [r0, r1, r2, r3, r4, r5, r6, zH y12.2 zL7 0, r8, r9])) rfl ?_
    refine zB.putI oX12_number (g := 7) (p := 0) (c := 12) (k := 11) (y := 0) (hp1 := [r0, r1, r2, r3, r4, r5, r6, zH (upz y12.2 0 11 (s7 0 9)) zL7 0, r8, r9]) rfl rfl (by decide) (by decide) rfl rfl rfl rfl rfl rfl ?_
    refine xB.run oX12_number 1 (s := (90, [some (.ref 7168), some (.int (zI least)), some (.int (zI most)), some (.int (zI (s7 0 9))), some (.int (zI y12.1))], [.int (zI (-1))], [r0, r1, r2, r3, r4, r5, r6, zH (upz y12.2 0 11 (s7 0 9)) zL7 0, r8, r9])) rfl ?_
    obtain rfl := Option.some.inj H
    exact xB.ret oX12_number (r1 := some (.int (zI (-1)))) rfl rfl rfl
  · have H := H.2 h14
    refine xB.run oX12_number 1 (s := (73, [some (.ref 7168), some (.int (zI least)), some (.int (zI most)), some (.int (zI (s7 0 9))), some (.int (zI y12.1))], [.int (zI y12.1)], [r0, r1, r2, r3, r4, r5, r6, zH y12.2 zL7 0, r8, r9])) rfl ?_
    obtain ⟨g21, H⟩ := zgd H
    refine zB.opl oX12_number rfl (zi_i2l g21) ?_
    refine xB.run oX12_number 1 (s := (75, [some (.ref 7168), some (.int (zI least)), some (.int (zI most)), some (.int (zI (s7 0 9))), some (.int (zI y12.1))], [.int (zI least), .long (zJ y12.1)], [r0, r1, r2, r3, r4, r5, r6, zH y12.2 zL7 0, r8, r9])) rfl ?_
    obtain ⟨g20, H⟩ := zgd H
    refine zB.opl oX12_number rfl (zi_i2l g20) ?_
    refine xB.run oX12_number 1 (s := (77, [some (.ref 7168), some (.int (zI least)), some (.int (zI most)), some (.int (zI (s7 0 9))), some (.int (zI y12.1))], [.int (zI most), .long (zJ least), .long (zJ y12.1)], [r0, r1, r2, r3, r4, r5, r6, zH y12.2 zL7 0, r8, r9])) rfl ?_
    obtain ⟨g19, H⟩ := zgd H
    refine zB.opl oX12_number rfl (zi_i2l g19) ?_
    obtain ⟨y15, e16, H⟩ := zbd H
    refine xB.call oX12_number (M2 := MX12_within) rfl rfl ((t_X12_within r0 r1 r2 r3 r4 r5 r6 (zH y12.2 zL7 0) r8 r9 y12.1 least most e16).deep (by decide : 0 ≤ 0)) ?_
    show xBody MX12_number 1 81 [some (.ref 7168), some (.int (zI least)), some (.int (zI most)), some (.int (zI (s7 0 9))), some (.int (zI y12.1))] [.int (zI y15)] ([r0, r1, r2, r3, r4, r5, r6, zH y12.2 zL7 0, r8, r9]) _ _
    obtain ⟨g18, H⟩ := zgd H
    have H := zif H
    refine xB.brE oX12_number (P := y15 ≠ 0) rfl (zc_ne (a := y15) (b := 0) ⟨g18, by decide⟩) (fun h17 => ?_) (fun h17 => ?_)
    · have H := H.1 h17
      refine xB.run oX12_number 1 (s := (93, [some (.ref 7168), some (.int (zI least)), some (.int (zI most)), some (.int (zI (s7 0 9))), some (.int (zI y12.1))], [.int (zI y12.1)], [r0, r1, r2, r3, r4, r5, r6, zH y12.2 zL7 0, r8, r9])) rfl ?_
      obtain rfl := Option.some.inj H
      exact xB.ret oX12_number (r1 := some (.int (zI y12.1))) rfl rfl rfl
    · have H := H.2 h17
      refine xB.run oX12_number 2 (s := (86, [some (.ref 7168), some (.int (zI least)), some (.int (zI most)), some (.int (zI (s7 0 9))), some (.int (zI y12.1))], [.int (zI (s7 0 9)), .ref 7168], [r0, r1, r2, r3, r4, r5, r6, zH y12.2 zL7 0, r8, r9])) rfl ?_
      refine zB.putI oX12_number (g := 7) (p := 0) (c := 12) (k := 11) (y := 0) (hp1 := [r0, r1, r2, r3, r4, r5, r6, zH (upz y12.2 0 11 (s7 0 9)) zL7 0, r8, r9]) rfl rfl (by decide) (by decide) rfl rfl rfl rfl rfl rfl ?_
      refine xB.run oX12_number 1 (s := (90, [some (.ref 7168), some (.int (zI least)), some (.int (zI most)), some (.int (zI (s7 0 9))), some (.int (zI y12.1))], [.int (zI (-1))], [r0, r1, r2, r3, r4, r5, r6, zH (upz y12.2 0 11 (s7 0 9)) zL7 0, r8, r9])) rfl ?_
      obtain rfl := Option.some.inj H
      exact xB.ret oX12_number (r1 := some (.int (zI (-1)))) rfl rfl rfl
def d_X12_isItem (s7 : zZ) (pl : Int) : Option (Int × zZ) := (d_X12_isCode s7 114).bind fun y1 => if (zr y1.1) then (if y1.1 ≠ 0 then ((d_X12_number y1.2 0 99).bind fun y4 => if (0 ≤ pl ∧ pl < 16) then (if (0 ≤ pl ∧ pl < 16) then (if (zr ((upz y4.2 4 pl.toNat y4.1) 4 pl.toNat)) then (if ((upz y4.2 4 pl.toNat y4.1) 4 pl.toNat) < 0 then some (0, upz y4.2 4 pl.toNat y4.1) else ((d_X12_isCode (upz y4.2 4 pl.toNat y4.1) 44).bind fun y7 => if (zr y7.1) then (if y7.1 ≠ 0 then ((d_X12_number y7.2 1 99).bind fun y10 => if (0 ≤ pl ∧ pl < 16) then (if (0 ≤ pl ∧ pl < 16) then (if (zr ((upz y10.2 5 pl.toNat y10.1) 5 pl.toNat)) then (if (0 : Int) ≤ ((upz y10.2 5 pl.toNat y10.1) 5 pl.toNat) then (if (0 ≤ pl ∧ pl < 16) then ((d_X12_codeAt (upz (upz y10.2 5 pl.toNat y10.1) 6 pl.toNat 0)).bind fun y13 => if (zr y13) then (if y13 ≠ 119 then (if (0 ≤ pl ∧ pl < 16) then (if (zr ((upz (upz y10.2 5 pl.toNat y10.1) 6 pl.toNat 0) 6 pl.toNat)) then (if ((upz (upz y10.2 5 pl.toNat y10.1) 6 pl.toNat 0) 6 pl.toNat) < 0 then some (0, upz (upz y10.2 5 pl.toNat y10.1) 6 pl.toNat 0) else some (1, upz (upz y10.2 5 pl.toNat y10.1) 6 pl.toNat 0)) else none) else none) else ((d_X12_number (upz (upz (upz y10.2 5 pl.toNat y10.1) 6 pl.toNat 0) 0 9 (((upz (upz y10.2 5 pl.toNat y10.1) 6 pl.toNat 0) 0 9) + 1)) 0 999).bind fun y19 => if (0 ≤ pl ∧ pl < 16) then (if (0 ≤ pl ∧ pl < 16) then (if (zr ((upz y19.2 6 pl.toNat y19.1) 6 pl.toNat)) then (if ((upz y19.2 6 pl.toNat y19.1) 6 pl.toNat) < 0 then some (0, upz y19.2 6 pl.toNat y19.1) else some (1, upz y19.2 6 pl.toNat y19.1)) else none) else none) else none)) else none) else none) else some (0, upz y10.2 5 pl.toNat y10.1)) else none) else none) else none) else some (0, y7.2)) else none)) else none) else none) else none) else some (0, y1.2)) else none
set_option maxRecDepth 20000 in
theorem t_X12_isItem (r0 : List va_E) (r1 : List va_E) (r2 : List va_E) (r3 : List va_E) (r4 : List va_E) (r5 : List va_E) (r6 : List va_E) (s7 : zZ) (r8 : List va_E) (r9 : List va_E) (pl : Int) {rr : Int × zZ} (H : d_X12_isItem s7 pl = some rr) : xC MX12_isItem 2 [.ref 7168, .int (zI pl)] ([r0, r1, r2, r3, r4, r5, r6, zH s7 zL7 0, r8, r9]) (some (.int (zI rr.1))) ([r0, r1, r2, r3, r4, r5, r6, zH rr.2 zL7 0, r8, r9]) := by
  refine ⟨Nat.le_of_ble_eq_true rfl, ?_⟩
  show xBody MX12_isItem 2 0 [some (.ref 7168), some (.int (zI pl))] [] ([r0, r1, r2, r3, r4, r5, r6, zH s7 zL7 0, r8, r9]) _ _
  unfold d_X12_isItem at H
  refine xB.run oX12_isItem 2 (s := (3, [some (.ref 7168), some (.int (zI pl))], [.int (zI 114), .ref 7168], [r0, r1, r2, r3, r4, r5, r6, zH s7 zL7 0, r8, r9])) rfl ?_
  obtain ⟨y1, e2, H⟩ := zbd H
  refine xB.call oX12_isItem (M2 := MX12_isCode) rfl rfl ((t_X12_isCode r0 r1 r2 r3 r4 r5 r6 s7 r8 r9 114 e2).deep (by decide : 1 ≤ 1)) ?_
  show xBody MX12_isItem 2 6 [some (.ref 7168), some (.int (zI pl))] [.int (zI y1.1)] ([r0, r1, r2, r3, r4, r5, r6, zH y1.2 zL7 0, r8, r9]) _ _
  obtain ⟨g34, H⟩ := zgd H
  have H := zif H
  refine xB.brE oX12_isItem (P := y1.1 ≠ 0) rfl (zc_ne (a := y1.1) (b := 0) ⟨g34, by decide⟩) (fun h3 => ?_) (fun h3 => ?_)
  · have H := H.1 h3
    refine xB.run oX12_isItem 6 (s := (20, [some (.ref 7168), some (.int (zI pl))], [.int (zI 99), .int (zI 0), .ref 7168, .int (zI pl), .ref 7172], [r0, r1, r2, r3, r4, r5, r6, zH y1.2 zL7 0, r8, r9])) rfl ?_
    obtain ⟨y4, e5, H⟩ := zbd H
    refine xB.call oX12_isItem (M2 := MX12_number) rfl rfl ((t_X12_number r0 r1 r2 r3 r4 r5 r6 y1.2 r8 r9 0 99 e5).deep (by decide : 1 ≤ 1)) ?_
    show xBody MX12_isItem 2 23 [some (.ref 7168), some (.int (zI pl))] [.int (zI y4.1), .int (zI pl), .ref 7172] ([r0, r1, r2, r3, r4, r5, r6, zH y4.2 zL7 0, r8, r9]) _ _
    obtain ⟨g33, H⟩ := zgd H
    refine zB.iast oX12_isItem (g := 7) (p := 4) (N := 16) (i := pl) (hp1 := [r0, r1, r2, r3, r4, r5, r6, zH (upz y4.2 4 pl.toNat y4.1) zL7 0, r8, r9]) rfl rfl (by decide) (by decide) rfl rfl (by decide) g33 rfl ?_
    refine xB.run oX12_isItem 3 (s := (29, [some (.ref 7168), some (.int (zI pl))], [.int (zI pl), .ref 7172], [r0, r1, r2, r3, r4, r5, r6, zH (upz y4.2 4 pl.toNat y4.1) zL7 0, r8, r9])) rfl ?_
    obtain ⟨g32, H⟩ := zgd H
    refine zB.iald oX12_isItem (g := 7) (p := 4) (N := 16) (i := pl) rfl rfl (by decide) rfl rfl (by decide) g32 ?_
    obtain ⟨g31, H⟩ := zgd H
    have H := zif H
    refine xB.brE oX12_isItem (P := ((upz y4.2 4 pl.toNat y4.1) 4 pl.toNat) < 0) rfl (zc_lt (a := (upz y4.2 4 pl.toNat y4.1) 4 pl.toNat) (b := 0) ⟨g31, by decide⟩) (fun h6 => ?_) (fun h6 => ?_)
    · have H := H.1 h6
      refine xB.run oX12_isItem 1 (s := (43, [some (.ref 7168), some (.int (zI pl))], [.int (zI 0)], [r0, r1, r2, r3, r4, r5, r6, zH (upz y4.2 4 pl.toNat y4.1) zL7 0, r8, r9])) rfl ?_
      obtain rfl := Option.some.inj H
      exact xB.ret oX12_isItem (r1 := some (.int (zI 0))) rfl rfl rfl
    · have H := H.2 h6
      refine xB.run oX12_isItem 2 (s := (36, [some (.ref 7168), some (.int (zI pl))], [.int (zI 44), .ref 7168], [r0, r1, r2, r3, r4, r5, r6, zH (upz y4.2 4 pl.toNat y4.1) zL7 0, r8, r9])) rfl ?_
      obtain ⟨y7, e8, H⟩ := zbd H
      refine xB.call oX12_isItem (M2 := MX12_isCode) rfl rfl ((t_X12_isCode r0 r1 r2 r3 r4 r5 r6 (upz y4.2 4 pl.toNat y4.1) r8 r9 44 e8).deep (by decide : 1 ≤ 1)) ?_
      show xBody MX12_isItem 2 39 [some (.ref 7168), some (.int (zI pl))] [.int (zI y7.1)] ([r0, r1, r2, r3, r4, r5, r6, zH y7.2 zL7 0, r8, r9]) _ _
      obtain ⟨g30, H⟩ := zgd H
      have H := zif H
      refine xB.brE oX12_isItem (P := y7.1 ≠ 0) rfl (zc_ne (a := y7.1) (b := 0) ⟨g30, by decide⟩) (fun h9 => ?_) (fun h9 => ?_)
      · have H := H.1 h9
        refine xB.run oX12_isItem 6 (s := (53, [some (.ref 7168), some (.int (zI pl))], [.int (zI 99), .int (zI 1), .ref 7168, .int (zI pl), .ref 7173], [r0, r1, r2, r3, r4, r5, r6, zH y7.2 zL7 0, r8, r9])) rfl ?_
        obtain ⟨y10, e11, H⟩ := zbd H
        refine xB.call oX12_isItem (M2 := MX12_number) rfl rfl ((t_X12_number r0 r1 r2 r3 r4 r5 r6 y7.2 r8 r9 1 99 e11).deep (by decide : 1 ≤ 1)) ?_
        show xBody MX12_isItem 2 56 [some (.ref 7168), some (.int (zI pl))] [.int (zI y10.1), .int (zI pl), .ref 7173] ([r0, r1, r2, r3, r4, r5, r6, zH y10.2 zL7 0, r8, r9]) _ _
        obtain ⟨g29, H⟩ := zgd H
        refine zB.iast oX12_isItem (g := 7) (p := 5) (N := 16) (i := pl) (hp1 := [r0, r1, r2, r3, r4, r5, r6, zH (upz y10.2 5 pl.toNat y10.1) zL7 0, r8, r9]) rfl rfl (by decide) (by decide) rfl rfl (by decide) g29 rfl ?_
        refine xB.run oX12_isItem 3 (s := (62, [some (.ref 7168), some (.int (zI pl))], [.int (zI pl), .ref 7173], [r0, r1, r2, r3, r4, r5, r6, zH (upz y10.2 5 pl.toNat y10.1) zL7 0, r8, r9])) rfl ?_
        obtain ⟨g28, H⟩ := zgd H
        refine zB.iald oX12_isItem (g := 7) (p := 5) (N := 16) (i := pl) rfl rfl (by decide) rfl rfl (by decide) g28 ?_
        obtain ⟨g27, H⟩ := zgd H
        have H := zif H
        refine xB.brE oX12_isItem (P := (0 : Int) ≤ ((upz y10.2 5 pl.toNat y10.1) 5 pl.toNat)) rfl (zc_ge (a := (upz y10.2 5 pl.toNat y10.1) 5 pl.toNat) (b := 0) ⟨g27, by decide⟩) (fun h12 => ?_) (fun h12 => ?_)
        · have H := H.1 h12
          refine xB.run oX12_isItem 4 (s := (74, [some (.ref 7168), some (.int (zI pl))], [.int (zI 0), .int (zI pl), .ref 7174], [r0, r1, r2, r3, r4, r5, r6, zH (upz y10.2 5 pl.toNat y10.1) zL7 0, r8, r9])) rfl ?_
          obtain ⟨g26, H⟩ := zgd H
          refine zB.iast oX12_isItem (g := 7) (p := 6) (N := 16) (i := pl) (hp1 := [r0, r1, r2, r3, r4, r5, r6, zH (upz (upz y10.2 5 pl.toNat y10.1) 6 pl.toNat 0) zL7 0, r8, r9]) rfl rfl (by decide) (by decide) rfl rfl (by decide) g26 rfl ?_
          refine xB.run oX12_isItem 1 (s := (76, [some (.ref 7168), some (.int (zI pl))], [.ref 7168], [r0, r1, r2, r3, r4, r5, r6, zH (upz (upz y10.2 5 pl.toNat y10.1) 6 pl.toNat 0) zL7 0, r8, r9])) rfl ?_
          obtain ⟨y13, e14, H⟩ := zbd H
          refine xB.call oX12_isItem (M2 := MX12_codeAt) rfl rfl ((t_X12_codeAt r0 r1 r2 r3 r4 r5 r6 (upz (upz y10.2 5 pl.toNat y10.1) 6 pl.toNat 0) r8 r9  e14).deep (by decide : 0 ≤ 1)) ?_
          show xBody MX12_isItem 2 79 [some (.ref 7168), some (.int (zI pl))] [.int (zI y13)] ([r0, r1, r2, r3, r4, r5, r6, zH (upz (upz y10.2 5 pl.toNat y10.1) 6 pl.toNat 0) zL7 0, r8, r9]) _ _
          refine xB.run oX12_isItem 1 (s := (81, [some (.ref 7168), some (.int (zI pl))], [.int (zI 119), .int (zI y13)], [r0, r1, r2, r3, r4, r5, r6, zH (upz (upz y10.2 5 pl.toNat y10.1) 6 pl.toNat 0) zL7 0, r8, r9])) rfl ?_
          obtain ⟨g25, H⟩ := zgd H
          have H := zif H
          refine xB.brE oX12_isItem (P := y13 ≠ 119) rfl (zc_ne (a := y13) (b := 119) ⟨g25, by decide⟩) (fun h15 => ?_) (fun h15 => ?_)
          · have H := H.1 h15
            refine xB.run oX12_isItem 3 (s := (113, [some (.ref 7168), some (.int (zI pl))], [.int (zI pl), .ref 7174], [r0, r1, r2, r3, r4, r5, r6, zH (upz (upz y10.2 5 pl.toNat y10.1) 6 pl.toNat 0) zL7 0, r8, r9])) rfl ?_
            obtain ⟨g18, H⟩ := zgd H
            refine zB.iald oX12_isItem (g := 7) (p := 6) (N := 16) (i := pl) rfl rfl (by decide) rfl rfl (by decide) g18 ?_
            obtain ⟨g17, H⟩ := zgd H
            have H := zif H
            refine xB.brE oX12_isItem (P := ((upz (upz y10.2 5 pl.toNat y10.1) 6 pl.toNat 0) 6 pl.toNat) < 0) rfl (zc_lt (a := (upz (upz y10.2 5 pl.toNat y10.1) 6 pl.toNat 0) 6 pl.toNat) (b := 0) ⟨g17, by decide⟩) (fun h16 => ?_) (fun h16 => ?_)
            · have H := H.1 h16
              refine xB.run oX12_isItem 1 (s := (122, [some (.ref 7168), some (.int (zI pl))], [.int (zI 0)], [r0, r1, r2, r3, r4, r5, r6, zH (upz (upz y10.2 5 pl.toNat y10.1) 6 pl.toNat 0) zL7 0, r8, r9])) rfl ?_
              obtain rfl := Option.some.inj H
              exact xB.ret oX12_isItem (r1 := some (.int (zI 0))) rfl rfl rfl
            · have H := H.2 h16
              refine xB.run oX12_isItem 2 (s := (122, [some (.ref 7168), some (.int (zI pl))], [.int (zI 1)], [r0, r1, r2, r3, r4, r5, r6, zH (upz (upz y10.2 5 pl.toNat y10.1) 6 pl.toNat 0) zL7 0, r8, r9])) rfl ?_
              obtain rfl := Option.some.inj H
              exact xB.ret oX12_isItem (r1 := some (.int (zI 1))) rfl rfl rfl
          · have H := H.2 h15
            refine xB.run oX12_isItem 4 (s := (90, [some (.ref 7168), some (.int (zI pl))], [.int (zI 1), .int (zI ((upz (upz y10.2 5 pl.toNat y10.1) 6 pl.toNat 0) 0 9)), .ref 7168], [r0, r1, r2, r3, r4, r5, r6, zH (upz (upz y10.2 5 pl.toNat y10.1) 6 pl.toNat 0) zL7 0, r8, r9])) rfl ?_
            refine zB.opi oX12_isItem rfl (zi_add ((upz (upz y10.2 5 pl.toNat y10.1) 6 pl.toNat 0) 0 9) 1) ?_
            refine zB.putI oX12_isItem (g := 7) (p := 0) (c := 12) (k := 9) (y := 0) (hp1 := [r0, r1, r2, r3, r4, r5, r6, zH (upz (upz (upz y10.2 5 pl.toNat y10.1) 6 pl.toNat 0) 0 9 (((upz (upz y10.2 5 pl.toNat y10.1) 6 pl.toNat 0) 0 9) + 1)) zL7 0, r8, r9]) rfl rfl (by decide) (by decide) rfl rfl rfl rfl rfl rfl ?_
            refine xB.run oX12_isItem 6 (s := (104, [some (.ref 7168), some (.int (zI pl))], [.int (zI 999), .int (zI 0), .ref 7168, .int (zI pl), .ref 7174], [r0, r1, r2, r3, r4, r5, r6, zH (upz (upz (upz y10.2 5 pl.toNat y10.1) 6 pl.toNat 0) 0 9 (((upz (upz y10.2 5 pl.toNat y10.1) 6 pl.toNat 0) 0 9) + 1)) zL7 0, r8, r9])) rfl ?_
            obtain ⟨y19, e20, H⟩ := zbd H
            refine xB.call oX12_isItem (M2 := MX12_number) rfl rfl ((t_X12_number r0 r1 r2 r3 r4 r5 r6 (upz (upz (upz y10.2 5 pl.toNat y10.1) 6 pl.toNat 0) 0 9 (((upz (upz y10.2 5 pl.toNat y10.1) 6 pl.toNat 0) 0 9) + 1)) r8 r9 0 999 e20).deep (by decide : 1 ≤ 1)) ?_
            show xBody MX12_isItem 2 107 [some (.ref 7168), some (.int (zI pl))] [.int (zI y19.1), .int (zI pl), .ref 7174] ([r0, r1, r2, r3, r4, r5, r6, zH y19.2 zL7 0, r8, r9]) _ _
            obtain ⟨g24, H⟩ := zgd H
            refine zB.iast oX12_isItem (g := 7) (p := 6) (N := 16) (i := pl) (hp1 := [r0, r1, r2, r3, r4, r5, r6, zH (upz y19.2 6 pl.toNat y19.1) zL7 0, r8, r9]) rfl rfl (by decide) (by decide) rfl rfl (by decide) g24 rfl ?_
            refine xB.run oX12_isItem 3 (s := (113, [some (.ref 7168), some (.int (zI pl))], [.int (zI pl), .ref 7174], [r0, r1, r2, r3, r4, r5, r6, zH (upz y19.2 6 pl.toNat y19.1) zL7 0, r8, r9])) rfl ?_
            obtain ⟨g23, H⟩ := zgd H
            refine zB.iald oX12_isItem (g := 7) (p := 6) (N := 16) (i := pl) rfl rfl (by decide) rfl rfl (by decide) g23 ?_
            obtain ⟨g22, H⟩ := zgd H
            have H := zif H
            refine xB.brE oX12_isItem (P := ((upz y19.2 6 pl.toNat y19.1) 6 pl.toNat) < 0) rfl (zc_lt (a := (upz y19.2 6 pl.toNat y19.1) 6 pl.toNat) (b := 0) ⟨g22, by decide⟩) (fun h21 => ?_) (fun h21 => ?_)
            · have H := H.1 h21
              refine xB.run oX12_isItem 1 (s := (122, [some (.ref 7168), some (.int (zI pl))], [.int (zI 0)], [r0, r1, r2, r3, r4, r5, r6, zH (upz y19.2 6 pl.toNat y19.1) zL7 0, r8, r9])) rfl ?_
              obtain rfl := Option.some.inj H
              exact xB.ret oX12_isItem (r1 := some (.int (zI 0))) rfl rfl rfl
            · have H := H.2 h21
              refine xB.run oX12_isItem 2 (s := (122, [some (.ref 7168), some (.int (zI pl))], [.int (zI 1)], [r0, r1, r2, r3, r4, r5, r6, zH (upz y19.2 6 pl.toNat y19.1) zL7 0, r8, r9])) rfl ?_
              obtain rfl := Option.some.inj H
              exact xB.ret oX12_isItem (r1 := some (.int (zI 1))) rfl rfl rfl
        · have H := H.2 h12
          refine xB.run oX12_isItem 1 (s := (67, [some (.ref 7168), some (.int (zI pl))], [.int (zI 0)], [r0, r1, r2, r3, r4, r5, r6, zH (upz y10.2 5 pl.toNat y10.1) zL7 0, r8, r9])) rfl ?_
          obtain rfl := Option.some.inj H
          exact xB.ret oX12_isItem (r1 := some (.int (zI 0))) rfl rfl rfl
      · have H := H.2 h9
        refine xB.run oX12_isItem 1 (s := (43, [some (.ref 7168), some (.int (zI pl))], [.int (zI 0)], [r0, r1, r2, r3, r4, r5, r6, zH y7.2 zL7 0, r8, r9])) rfl ?_
        obtain rfl := Option.some.inj H
        exact xB.ret oX12_isItem (r1 := some (.int (zI 0))) rfl rfl rfl
  · have H := H.2 h3
    refine xB.run oX12_isItem 1 (s := (10, [some (.ref 7168), some (.int (zI pl))], [.int (zI 0)], [r0, r1, r2, r3, r4, r5, r6, zH y1.2 zL7 0, r8, r9])) rfl ?_
    obtain rfl := Option.some.inj H
    exact xB.ret oX12_isItem (r1 := some (.int (zI 0))) rfl rfl rfl
def d_X12_items_2  : Nat → Int → zZ → Option (Int × zZ)
  | 0, _, _ => none
  | uN + 1, it, s7 => (d_X12_isItem s7 (8 + it)).bind fun y1 => if (zr y1.1) then (if y1.1 ≠ 0 then (if (zr (y1.2 0 9) ∧ zr (y1.2 0 10)) then (if (y1.2 0 9) ≠ (y1.2 0 10) then ((d_X12_codeAt y1.2).bind fun y5 => if (zr y5) then (if y5 ≠ 59 then some ((-1), upz y1.2 0 11 (y1.2 0 9)) else (if (zr (it + 1)) then (if (it + 1) ≠ 8 then (d_X12_items_2 uN (it + 1) (upz y1.2 0 9 ((y1.2 0 9) + 1))) else some ((-1), upz y1.2 0 11 (y1.2 0 9))) else none)) else none) else some (it + 1, y1.2)) else none) else some ((-1), y1.2)) else none
def d_X12_items (s7 : zZ) : Option (Int × zZ) := (d_X12_items_2 zF 0 s7).bind fun y13 => some y13
set_option maxRecDepth 20000 in
theorem l_X12_items_2 (r0 : List va_E) (r1 : List va_E) (r2 : List va_E) (r3 : List va_E) (r4 : List va_E) (r5 : List va_E) (r6 : List va_E) (r8 : List va_E) (r9 : List va_E) {r : Option Value} {hp1 : xH} : ∀ (uN : Nat) (it : Int) (s7 : zZ) {uX : Int × zZ}, d_X12_items_2 uN it s7 = some uX → (r = some (.int (zI uX.1)) ∧ hp1 = [r0, r1, r2, r3, r4, r5, r6, zH uX.2 zL7 0, r8, r9]) → xBody MX12_items 3 2 [some (.ref 7168), some (.int (zI it))] [] ([r0, r1, r2, r3, r4, r5, r6, zH s7 zL7 0, r8, r9]) r hp1 := by
  intro uN
  induction uN with
  | zero => intro it s7 uX H K; cases H
  | succ uN ih =>
    intro it s7 uX H K
    unfold d_X12_items_2 at H
    refine xB.run oX12_items 3 (s := (6, [some (.ref 7168), some (.int (zI it))], [.int (zI it), .int (zI 8), .ref 7168], [r0, r1, r2, r3, r4, r5, r6, zH s7 zL7 0, r8, r9])) rfl ?_
    refine zB.opi oX12_items rfl (zi_add 8 it) ?_
    obtain ⟨y1, e2, H⟩ := zbd H
    refine xB.call oX12_items (M2 := MX12_isItem) rfl rfl ((t_X12_isItem r0 r1 r2 r3 r4 r5 r6 s7 r8 r9 (8 + it) e2).deep (by decide : 2 ≤ 2)) ?_
    show xBody MX12_items 3 10 [some (.ref 7168), some (.int (zI it))] [.int (zI y1.1)] ([r0, r1, r2, r3, r4, r5, r6, zH y1.2 zL7 0, r8, r9]) _ _
    obtain ⟨g12, H⟩ := zgd H
    have H := zif H
    refine xB.brE oX12_items (P := y1.1 ≠ 0) rfl (zc_ne (a := y1.1) (b := 0) ⟨g12, by decide⟩) (fun h3 => ?_) (fun h3 => ?_)
    · have H := H.1 h3
      refine zB.inc oX12_items rfl (lv2 := [some (.ref 7168), some (.int (zI (it + 1)))]) (zi_inc (a := 0) (zi_addp1 it) _ rfl) ?_
      refine xB.run oX12_items 4 (s := (26, [some (.ref 7168), some (.int (zI (it + 1)))], [.int (zI (y1.2 0 10)), .int (zI (y1.2 0 9))], [r0, r1, r2, r3, r4, r5, r6, zH y1.2 zL7 0, r8, r9])) rfl ?_
      obtain ⟨g11, H⟩ := zgd H
      have H := zif H
      refine xB.brE oX12_items (P := (y1.2 0 9) ≠ (y1.2 0 10)) rfl (zc_ne (a := y1.2 0 9) (b := y1.2 0 10) g11) (fun h4 => ?_) (fun h4 => ?_)
      · have H := H.1 h4
        refine xB.run oX12_items 1 (s := (32, [some (.ref 7168), some (.int (zI (it + 1)))], [.ref 7168], [r0, r1, r2, r3, r4, r5, r6, zH y1.2 zL7 0, r8, r9])) rfl ?_
        obtain ⟨y5, e6, H⟩ := zbd H
        refine xB.call oX12_items (M2 := MX12_codeAt) rfl rfl ((t_X12_codeAt r0 r1 r2 r3 r4 r5 r6 y1.2 r8 r9  e6).deep (by decide : 0 ≤ 2)) ?_
        show xBody MX12_items 3 35 [some (.ref 7168), some (.int (zI (it + 1)))] [.int (zI y5)] ([r0, r1, r2, r3, r4, r5, r6, zH y1.2 zL7 0, r8, r9]) _ _
        refine xB.run oX12_items 1 (s := (37, [some (.ref 7168), some (.int (zI (it + 1)))], [.int (zI 59), .int (zI y5)], [r0, r1, r2, r3, r4, r5, r6, zH y1.2 zL7 0, r8, r9])) rfl ?_
        obtain ⟨g10, H⟩ := zgd H
        have H := zif H
        refine xB.brE oX12_items (P := y5 ≠ 59) rfl (zc_ne (a := y5) (b := 59) ⟨g10, by decide⟩) (fun h7 => ?_) (fun h7 => ?_)
        · have H := H.1 h7
          refine xB.run oX12_items 3 (s := (51, [some (.ref 7168), some (.int (zI (it + 1)))], [.int (zI (y1.2 0 9)), .ref 7168], [r0, r1, r2, r3, r4, r5, r6, zH y1.2 zL7 0, r8, r9])) rfl ?_
          refine zB.putI oX12_items (g := 7) (p := 0) (c := 12) (k := 11) (y := 0) (hp1 := [r0, r1, r2, r3, r4, r5, r6, zH (upz y1.2 0 11 (y1.2 0 9)) zL7 0, r8, r9]) rfl rfl (by decide) (by decide) rfl rfl rfl rfl rfl rfl ?_
          refine xB.run oX12_items 1 (s := (55, [some (.ref 7168), some (.int (zI (it + 1)))], [.int (zI (-1))], [r0, r1, r2, r3, r4, r5, r6, zH (upz y1.2 0 11 (y1.2 0 9)) zL7 0, r8, r9])) rfl ?_
          obtain rfl := Option.some.inj H
          obtain ⟨kr, kh⟩ := K
          subst kr kh
          exact xB.ret oX12_items (r1 := some (.int (zI (-1)))) rfl rfl rfl
        · have H := H.2 h7
          refine xB.run oX12_items 2 (s := (43, [some (.ref 7168), some (.int (zI (it + 1)))], [.int (zI 8), .int (zI (it + 1))], [r0, r1, r2, r3, r4, r5, r6, zH y1.2 zL7 0, r8, r9])) rfl ?_
          obtain ⟨g9, H⟩ := zgd H
          have H := zif H
          refine xB.brE oX12_items (P := (it + 1) ≠ 8) rfl (zc_ne (a := it + 1) (b := 8) ⟨g9, by decide⟩) (fun h8 => ?_) (fun h8 => ?_)
          · have H := H.1 h8
            refine xB.run oX12_items 4 (s := (62, [some (.ref 7168), some (.int (zI (it + 1)))], [.int (zI 1), .int (zI (y1.2 0 9)), .ref 7168], [r0, r1, r2, r3, r4, r5, r6, zH y1.2 zL7 0, r8, r9])) rfl ?_
            refine zB.opi oX12_items rfl (zi_add (y1.2 0 9) 1) ?_
            refine zB.putI oX12_items (g := 7) (p := 0) (c := 12) (k := 9) (y := 0) (hp1 := [r0, r1, r2, r3, r4, r5, r6, zH (upz y1.2 0 9 ((y1.2 0 9) + 1)) zL7 0, r8, r9]) rfl rfl (by decide) (by decide) rfl rfl rfl rfl rfl rfl ?_
            refine xB.run oX12_items 1 (s := (2, [some (.ref 7168), some (.int (zI (it + 1)))], [], [r0, r1, r2, r3, r4, r5, r6, zH (upz y1.2 0 9 ((y1.2 0 9) + 1)) zL7 0, r8, r9])) rfl ?_
            exact ih (it + 1) (upz y1.2 0 9 ((y1.2 0 9) + 1)) H K
          · have H := H.2 h8
            refine xB.run oX12_items 3 (s := (51, [some (.ref 7168), some (.int (zI (it + 1)))], [.int (zI (y1.2 0 9)), .ref 7168], [r0, r1, r2, r3, r4, r5, r6, zH y1.2 zL7 0, r8, r9])) rfl ?_
            refine zB.putI oX12_items (g := 7) (p := 0) (c := 12) (k := 11) (y := 0) (hp1 := [r0, r1, r2, r3, r4, r5, r6, zH (upz y1.2 0 11 (y1.2 0 9)) zL7 0, r8, r9]) rfl rfl (by decide) (by decide) rfl rfl rfl rfl rfl rfl ?_
            refine xB.run oX12_items 1 (s := (55, [some (.ref 7168), some (.int (zI (it + 1)))], [.int (zI (-1))], [r0, r1, r2, r3, r4, r5, r6, zH (upz y1.2 0 11 (y1.2 0 9)) zL7 0, r8, r9])) rfl ?_
            obtain rfl := Option.some.inj H
            obtain ⟨kr, kh⟩ := K
            subst kr kh
            exact xB.ret oX12_items (r1 := some (.int (zI (-1)))) rfl rfl rfl
      · have H := H.2 h4
        refine xB.run oX12_items 1 (s := (30, [some (.ref 7168), some (.int (zI (it + 1)))], [.int (zI (it + 1))], [r0, r1, r2, r3, r4, r5, r6, zH y1.2 zL7 0, r8, r9])) rfl ?_
        obtain rfl := Option.some.inj H
        obtain ⟨kr, kh⟩ := K
        subst kr kh
        exact xB.ret oX12_items (r1 := some (.int (zI (it + 1)))) rfl rfl rfl
    · have H := H.2 h3
      refine xB.run oX12_items 1 (s := (14, [some (.ref 7168), some (.int (zI it))], [.int (zI (-1))], [r0, r1, r2, r3, r4, r5, r6, zH y1.2 zL7 0, r8, r9])) rfl ?_
      obtain rfl := Option.some.inj H
      obtain ⟨kr, kh⟩ := K
      subst kr kh
      exact xB.ret oX12_items (r1 := some (.int (zI (-1)))) rfl rfl rfl
set_option maxRecDepth 20000 in
theorem t_X12_items (r0 : List va_E) (r1 : List va_E) (r2 : List va_E) (r3 : List va_E) (r4 : List va_E) (r5 : List va_E) (r6 : List va_E) (s7 : zZ) (r8 : List va_E) (r9 : List va_E) {rr : Int × zZ} (H : d_X12_items s7 = some rr) : xC MX12_items 3 [.ref 7168] ([r0, r1, r2, r3, r4, r5, r6, zH s7 zL7 0, r8, r9]) (some (.int (zI rr.1))) ([r0, r1, r2, r3, r4, r5, r6, zH rr.2 zL7 0, r8, r9]) := by
  refine ⟨Nat.le_of_ble_eq_true rfl, ?_⟩
  show xBody MX12_items 3 0 [some (.ref 7168), none] [] ([r0, r1, r2, r3, r4, r5, r6, zH s7 zL7 0, r8, r9]) _ _
  unfold d_X12_items at H
  refine xB.run oX12_items 2 (s := (2, [some (.ref 7168), some (.int (zI 0))], [], [r0, r1, r2, r3, r4, r5, r6, zH s7 zL7 0, r8, r9])) rfl ?_
  obtain ⟨y13, e14, H⟩ := zbd H
  refine l_X12_items_2 r0 r1 r2 r3 r4 r5 r6 r8 r9  _ 0 s7 e14 ?_
  obtain rfl := Option.some.inj H
  exact ⟨rfl, rfl⟩
def d_X12_text_166 (sh : Int) (lane : Int) (i : Int) (n : Int) (from_ : Int) (many : Int) : Nat → Int → zZ → Option (Int × zZ)
  | 0, _, _ => none
  | uN + 1, p, s7 => if (zr p ∧ zr many) then (if many ≤ p then some (p, s7) else (if (0 ≤ (8 + p) ∧ (8 + p) < 16) then (if (0 ≤ p ∧ p < 16) then (if (0 ≤ (8 + p) ∧ (8 + p) < 16) then (if (0 ≤ p ∧ p < 16) then (if (0 ≤ (8 + p) ∧ (8 + p) < 16) then (if (0 ≤ p ∧ p < 16) then (d_X12_text_166 sh lane i n from_ many uN (p + 1) (upz (upz (upz s7 4 p.toNat (s7 4 (8 + p).toNat)) 5 p.toNat ((upz s7 4 p.toNat (s7 4 (8 + p).toNat)) 5 (8 + p).toNat)) 6 p.toNat ((upz (upz s7 4 p.toNat (s7 4 (8 + p).toNat)) 5 p.toNat ((upz s7 4 p.toNat (s7 4 (8 + p).toNat)) 5 (8 + p).toNat)) 6 (8 + p).toNat))) else none) else none) else none) else none) else none) else none)) else none
def d_X12_text (s7 : zZ) (sh : Int) (lane : Int) (i : Int) (n : Int) : Option (Int × zZ) := (d_X12_isSheet sh).bind fun y1 => if (zr y1) then (if y1 ≠ 0 then ((d_X12_isLane lane).bind fun y4 => if (zr y4) then (if y4 ≠ 0 then (if (0 ≤ sh ∧ sh < 4) then (if (zr ((upz s7 0 0 0) 1 sh.toNat)) then (if ((upz s7 0 0 0) 1 sh.toNat) = (-9) then (if (0 ≤ sh ∧ sh < 4) then (if (zr ((upz s7 0 0 0) 1 sh.toNat)) then (if ((upz s7 0 0 0) 1 sh.toNat) ≠ (-9) then (if (zr n) then (if (0 : Int) ≤ n then (if (zr i) then (if i < 0 then ((d_X12_fails (upz s7 0 0 0) 3).bind fun y11 => some (y11.1, y11.2)) else (if (0 ≤ sh ∧ sh < 4) then (if (zr i ∧ zr ((upz s7 0 0 0) 2 sh.toNat)) then (if ((upz s7 0 0 0) 2 sh.toNat) < i then ((d_X12_fails (upz s7 0 0 0) 3).bind fun y14 => some (y14.1, y14.2)) else (if (0 ≤ sh ∧ sh < 4) then (if (zr n ∧ zr (((upz s7 0 0 0) 2 sh.toNat) - i)) then (if n ≤ (((upz s7 0 0 0) 2 sh.toNat) - i) then ((d_X12_items (upz (upz (upz s7 0 0 0) 0 9 ((60 * sh) + i)) 0 10 (((60 * sh) + i) + n))).bind fun y17 => if (zr y17.1) then (if (0 : Int) ≤ y17.1 then ((d_X12_text_166 sh lane i n ((60 * sh) + i) y17.1 zF 0 (upz y17.2 0 5 y17.1)).bind fun y28 => some (y17.1, y28.2)) else some ((-100) - ((y17.2 0 11) - ((60 * sh) + i)), y17.2)) else none) else ((d_X12_fails (upz s7 0 0 0) 3).bind fun y31 => some (y31.1, y31.2))) else none) else none)) else none) else none)) else none) else ((d_X12_fails (upz s7 0 0 0) 4).bind fun y38 => some (y38.1, y38.2))) else none) else ((d_X12_fails (upz s7 0 0 0) 1).bind fun y41 => some (y41.1, y41.2))) else none) else none) else (if (0 ≤ sh ∧ sh < 4) then (if (zr ((upz s7 0 0 0) 1 sh.toNat) ∧ zr lane) then (if ((upz s7 0 0 0) 1 sh.toNat) = lane then (if (0 ≤ sh ∧ sh < 4) then (if (zr ((upz s7 0 0 0) 1 sh.toNat)) then (if ((upz s7 0 0 0) 1 sh.toNat) ≠ (-9) then (if (zr n) then (if (0 : Int) ≤ n then (if (zr i) then (if i < 0 then ((d_X12_fails (upz s7 0 0 0) 3).bind fun y49 => some (y49.1, y49.2)) else (if (0 ≤ sh ∧ sh < 4) then (if (zr i ∧ zr ((upz s7 0 0 0) 2 sh.toNat)) then (if ((upz s7 0 0 0) 2 sh.toNat) < i then ((d_X12_fails (upz s7 0 0 0) 3).bind fun y52 => some (y52.1, y52.2)) else (if (0 ≤ sh ∧ sh < 4) then (if (zr n ∧ zr (((upz s7 0 0 0) 2 sh.toNat) - i)) then (if n ≤ (((upz s7 0 0 0) 2 sh.toNat) - i) then ((d_X12_items (upz (upz (upz s7 0 0 0) 0 9 ((60 * sh) + i)) 0 10 (((60 * sh) + i) + n))).bind fun y55 => if (zr y55.1) then (if (0 : Int) ≤ y55.1 then ((d_X12_text_166 sh lane i n ((60 * sh) + i) y55.1 zF 0 (upz y55.2 0 5 y55.1)).bind fun y58 => some (y55.1, y58.2)) else some ((-100) - ((y55.2 0 11) - ((60 * sh) + i)), y55.2)) else none) else ((d_X12_fails (upz s7 0 0 0) 3).bind fun y61 => some (y61.1, y61.2))) else none) else none)) else none) else none)) else none) else ((d_X12_fails (upz s7 0 0 0) 4).bind fun y68 => some (y68.1, y68.2))) else none) else ((d_X12_fails (upz s7 0 0 0) 1).bind fun y71 => some (y71.1, y71.2))) else none) else none) else ((d_X12_fails (upz s7 0 0 0) 2).bind fun y75 => some (y75.1, y75.2))) else none) else none)) else none) else none) else some ((-2), upz s7 0 0 0)) else none) else some ((-1), upz s7 0 0 0)) else none
set_option maxRecDepth 20000 in
theorem l_X12_text_166 (r0 : List va_E) (r1 : List va_E) (r2 : List va_E) (r3 : List va_E) (r4 : List va_E) (r5 : List va_E) (r6 : List va_E) (r8 : List va_E) (r9 : List va_E) (sh : Int) (lane : Int) (i : Int) (n : Int) (from_ : Int) (many : Int) {r : Option Value} {hp1 : xH} : ∀ (uN : Nat) (p : Int) (s7 : zZ) {uX : Int × zZ}, d_X12_text_166 sh lane i n from_ many uN p s7 = some uX → (xBody MX12_text 4 230 [some (.ref 7168), some (.int (zI sh)), some (.int (zI lane)), some (.int (zI i)), some (.int (zI n)), some (.int (zI from_)), some (.int (zI many)), some (.int (zI uX.1))] [] ([r0, r1, r2, r3, r4, r5, r6, zH uX.2 zL7 0, r8, r9]) r hp1) → xBody MX12_text 4 166 [some (.ref 7168), some (.int (zI sh)), some (.int (zI lane)), some (.int (zI i)), some (.int (zI n)), some (.int (zI from_)), some (.int (zI many)), some (.int (zI p))] [] ([r0, r1, r2, r3, r4, r5, r6, zH s7 zL7 0, r8, r9]) r hp1 := by
  intro uN
  induction uN with
  | zero => intro p s7 uX H K; cases H
  | succ uN ih =>
    intro p s7 uX H K
    unfold d_X12_text_166 at H
    refine xB.run oX12_text 2 (s := (170, [some (.ref 7168), some (.int (zI sh)), some (.int (zI lane)), some (.int (zI i)), some (.int (zI n)), some (.int (zI from_)), some (.int (zI many)), some (.int (zI p))], [.int (zI many), .int (zI p)], [r0, r1, r2, r3, r4, r5, r6, zH s7 zL7 0, r8, r9])) rfl ?_
    obtain ⟨g27, H⟩ := zgd H
    have H := zif H
    refine xB.brE oX12_text (P := many ≤ p) rfl (zc_ge (a := p) (b := many) g27) (fun h20 => ?_) (fun h20 => ?_)
    · have H := H.1 h20
      obtain rfl := Option.some.inj H
      exact K
    · have H := H.2 h20
      refine xB.run oX12_text 7 (s := (187, [some (.ref 7168), some (.int (zI sh)), some (.int (zI lane)), some (.int (zI i)), some (.int (zI n)), some (.int (zI from_)), some (.int (zI many)), some (.int (zI p))], [.int (zI p), .int (zI 8), .ref 7172, .int (zI p), .ref 7172], [r0, r1, r2, r3, r4, r5, r6, zH s7 zL7 0, r8, r9])) rfl ?_
      refine zB.opi oX12_text rfl (zi_add 8 p) ?_
      obtain ⟨g26, H⟩ := zgd H
      refine zB.iald oX12_text (g := 7) (p := 4) (N := 16) (i := 8 + p) rfl rfl (by decide) rfl rfl (by decide) g26 ?_
      obtain ⟨g25, H⟩ := zgd H
      refine zB.iast oX12_text (g := 7) (p := 4) (N := 16) (i := p) (hp1 := [r0, r1, r2, r3, r4, r5, r6, zH (upz s7 4 p.toNat (s7 4 (8 + p).toNat)) zL7 0, r8, r9]) rfl rfl (by decide) (by decide) rfl rfl (by decide) g25 rfl ?_
      refine xB.run oX12_text 7 (s := (204, [some (.ref 7168), some (.int (zI sh)), some (.int (zI lane)), some (.int (zI i)), some (.int (zI n)), some (.int (zI from_)), some (.int (zI many)), some (.int (zI p))], [.int (zI p), .int (zI 8), .ref 7173, .int (zI p), .ref 7173], [r0, r1, r2, r3, r4, r5, r6, zH (upz s7 4 p.toNat (s7 4 (8 + p).toNat)) zL7 0, r8, r9])) rfl ?_
      refine zB.opi oX12_text rfl (zi_add 8 p) ?_
      obtain ⟨g24, H⟩ := zgd H
      refine zB.iald oX12_text (g := 7) (p := 5) (N := 16) (i := 8 + p) rfl rfl (by decide) rfl rfl (by decide) g24 ?_
      obtain ⟨g23, H⟩ := zgd H
      refine zB.iast oX12_text (g := 7) (p := 5) (N := 16) (i := p) (hp1 := [r0, r1, r2, r3, r4, r5, r6, zH (upz (upz s7 4 p.toNat (s7 4 (8 + p).toNat)) 5 p.toNat ((upz s7 4 p.toNat (s7 4 (8 + p).toNat)) 5 (8 + p).toNat)) zL7 0, r8, r9]) rfl rfl (by decide) (by decide) rfl rfl (by decide) g23 rfl ?_
      refine xB.run oX12_text 7 (s := (221, [some (.ref 7168), some (.int (zI sh)), some (.int (zI lane)), some (.int (zI i)), some (.int (zI n)), some (.int (zI from_)), some (.int (zI many)), some (.int (zI p))], [.int (zI p), .int (zI 8), .ref 7174, .int (zI p), .ref 7174], [r0, r1, r2, r3, r4, r5, r6, zH (upz (upz s7 4 p.toNat (s7 4 (8 + p).toNat)) 5 p.toNat ((upz s7 4 p.toNat (s7 4 (8 + p).toNat)) 5 (8 + p).toNat)) zL7 0, r8, r9])) rfl ?_
      refine zB.opi oX12_text rfl (zi_add 8 p) ?_
      obtain ⟨g22, H⟩ := zgd H
      refine zB.iald oX12_text (g := 7) (p := 6) (N := 16) (i := 8 + p) rfl rfl (by decide) rfl rfl (by decide) g22 ?_
      obtain ⟨g21, H⟩ := zgd H
      refine zB.iast oX12_text (g := 7) (p := 6) (N := 16) (i := p) (hp1 := [r0, r1, r2, r3, r4, r5, r6, zH (upz (upz (upz s7 4 p.toNat (s7 4 (8 + p).toNat)) 5 p.toNat ((upz s7 4 p.toNat (s7 4 (8 + p).toNat)) 5 (8 + p).toNat)) 6 p.toNat ((upz (upz s7 4 p.toNat (s7 4 (8 + p).toNat)) 5 p.toNat ((upz s7 4 p.toNat (s7 4 (8 + p).toNat)) 5 (8 + p).toNat)) 6 (8 + p).toNat)) zL7 0, r8, r9]) rfl rfl (by decide) (by decide) rfl rfl (by decide) g21 rfl ?_
      refine zB.inc oX12_text rfl (lv2 := [some (.ref 7168), some (.int (zI sh)), some (.int (zI lane)), some (.int (zI i)), some (.int (zI n)), some (.int (zI from_)), some (.int (zI many)), some (.int (zI (p + 1)))]) (zi_inc (a := 0) (zi_addp1 p) _ rfl) ?_
      refine xB.run oX12_text 1 (s := (166, [some (.ref 7168), some (.int (zI sh)), some (.int (zI lane)), some (.int (zI i)), some (.int (zI n)), some (.int (zI from_)), some (.int (zI many)), some (.int (zI (p + 1)))], [], [r0, r1, r2, r3, r4, r5, r6, zH (upz (upz (upz s7 4 p.toNat (s7 4 (8 + p).toNat)) 5 p.toNat ((upz s7 4 p.toNat (s7 4 (8 + p).toNat)) 5 (8 + p).toNat)) 6 p.toNat ((upz (upz s7 4 p.toNat (s7 4 (8 + p).toNat)) 5 p.toNat ((upz s7 4 p.toNat (s7 4 (8 + p).toNat)) 5 (8 + p).toNat)) 6 (8 + p).toNat)) zL7 0, r8, r9])) rfl ?_
      exact ih (p + 1) (upz (upz (upz s7 4 p.toNat (s7 4 (8 + p).toNat)) 5 p.toNat ((upz s7 4 p.toNat (s7 4 (8 + p).toNat)) 5 (8 + p).toNat)) 6 p.toNat ((upz (upz s7 4 p.toNat (s7 4 (8 + p).toNat)) 5 p.toNat ((upz s7 4 p.toNat (s7 4 (8 + p).toNat)) 5 (8 + p).toNat)) 6 (8 + p).toNat)) H K
set_option maxRecDepth 20000 in
theorem t_X12_text (r0 : List va_E) (r1 : List va_E) (r2 : List va_E) (r3 : List va_E) (r4 : List va_E) (r5 : List va_E) (r6 : List va_E) (s7 : zZ) (r8 : List va_E) (r9 : List va_E) (sh : Int) (lane : Int) (i : Int) (n : Int) {rr : Int × zZ} (H : d_X12_text s7 sh lane i n = some rr) : xC MX12_text 4 [.ref 7168, .int (zI sh), .int (zI lane), .int (zI i), .int (zI n)] ([r0, r1, r2, r3, r4, r5, r6, zH s7 zL7 0, r8, r9]) (some (.int (zI rr.1))) ([r0, r1, r2, r3, r4, r5, r6, zH rr.2 zL7 0, r8, r9]) := by
  refine ⟨Nat.le_of_ble_eq_true rfl, ?_⟩
  show xBody MX12_text 4 0 [some (.ref 7168), some (.int (zI sh)), some (.int (zI lane)), some (.int (zI i)), some (.int (zI n)), none, none, none] [] ([r0, r1, r2, r3, r4, r5, r6, zH s7 zL7 0, r8, r9]) _ _
  unfold d_X12_text at H
  refine xB.run oX12_text 2 (s := (2, [some (.ref 7168), some (.int (zI sh)), some (.int (zI lane)), some (.int (zI i)), some (.int (zI n)), none, none, none], [.int (zI 0), .ref 7168], [r0, r1, r2, r3, r4, r5, r6, zH s7 zL7 0, r8, r9])) rfl ?_
  refine zB.putI oX12_text (g := 7) (p := 0) (c := 12) (k := 0) (y := 0) (hp1 := [r0, r1, r2, r3, r4, r5, r6, zH (upz s7 0 0 0) zL7 0, r8, r9]) rfl rfl (by decide) (by decide) rfl rfl rfl rfl rfl rfl ?_
  refine xB.run oX12_text 1 (s := (6, [some (.ref 7168), some (.int (zI sh)), some (.int (zI lane)), some (.int (zI i)), some (.int (zI n)), none, none, none], [.int (zI sh)], [r0, r1, r2, r3, r4, r5, r6, zH (upz s7 0 0 0) zL7 0, r8, r9])) rfl ?_
  obtain ⟨y1, e2, H⟩ := zbd H
  refine xB.call oX12_text (M2 := MX12_isSheet) rfl rfl ((t_X12_isSheet r0 r1 r2 r3 r4 r5 r6 (zH (upz s7 0 0 0) zL7 0) r8 r9 sh e2).deep (by decide : 1 ≤ 3)) ?_
  show xBody MX12_text 4 9 [some (.ref 7168), some (.int (zI sh)), some (.int (zI lane)), some (.int (zI i)), some (.int (zI n)), none, none, none] [.int (zI y1)] ([r0, r1, r2, r3, r4, r5, r6, zH (upz s7 0 0 0) zL7 0, r8, r9]) _ _
  obtain ⟨g82, H⟩ := zgd H
  have H := zif H
  refine xB.brE oX12_text (P := y1 ≠ 0) rfl (zc_ne (a := y1) (b := 0) ⟨g82, by decide⟩) (fun h3 => ?_) (fun h3 => ?_)
  · have H := H.1 h3
    refine xB.run oX12_text 1 (s := (15, [some (.ref 7168), some (.int (zI sh)), some (.int (zI lane)), some (.int (zI i)), some (.int (zI n)), none, none, none], [.int (zI lane)], [r0, r1, r2, r3, r4, r5, r6, zH (upz s7 0 0 0) zL7 0, r8, r9])) rfl ?_
    obtain ⟨y4, e5, H⟩ := zbd H
    refine xB.call oX12_text (M2 := MX12_isLane) rfl rfl ((t_X12_isLane r0 r1 r2 r3 r4 r5 r6 (zH (upz s7 0 0 0) zL7 0) r8 r9 lane e5).deep (by decide : 1 ≤ 3)) ?_
    show xBody MX12_text 4 18 [some (.ref 7168), some (.int (zI sh)), some (.int (zI lane)), some (.int (zI i)), some (.int (zI n)), none, none, none] [.int (zI y4)] ([r0, r1, r2, r3, r4, r5, r6, zH (upz s7 0 0 0) zL7 0, r8, r9]) _ _
    obtain ⟨g81, H⟩ := zgd H
    have H := zif H
    refine xB.brE oX12_text (P := y4 ≠ 0) rfl (zc_ne (a := y4) (b := 0) ⟨g81, by decide⟩) (fun h6 => ?_) (fun h6 => ?_)
    · have H := H.1 h6
      refine xB.run oX12_text 3 (s := (29, [some (.ref 7168), some (.int (zI sh)), some (.int (zI lane)), some (.int (zI i)), some (.int (zI n)), none, none, none], [.int (zI sh), .ref 7169], [r0, r1, r2, r3, r4, r5, r6, zH (upz s7 0 0 0) zL7 0, r8, r9])) rfl ?_
      obtain ⟨g80, H⟩ := zgd H
      refine zB.iald oX12_text (g := 7) (p := 1) (N := 4) (i := sh) rfl rfl (by decide) rfl rfl (by decide) g80 ?_
      refine xB.run oX12_text 1 (s := (32, [some (.ref 7168), some (.int (zI sh)), some (.int (zI lane)), some (.int (zI i)), some (.int (zI n)), none, none, none], [.int (zI (-9)), .int (zI ((upz s7 0 0 0) 1 sh.toNat))], [r0, r1, r2, r3, r4, r5, r6, zH (upz s7 0 0 0) zL7 0, r8, r9])) rfl ?_
      obtain ⟨g79, H⟩ := zgd H
      have H := zif H
      refine xB.brE oX12_text (P := ((upz s7 0 0 0) 1 sh.toNat) = (-9)) rfl (zc_eq (a := (upz s7 0 0 0) 1 sh.toNat) (b := (-9)) ⟨g79, by decide⟩) (fun h7 => ?_) (fun h7 => ?_)
      · have H := H.1 h7
        refine xB.run oX12_text 3 (s := (56, [some (.ref 7168), some (.int (zI sh)), some (.int (zI lane)), some (.int (zI i)), some (.int (zI n)), none, none, none], [.int (zI sh), .ref 7169], [r0, r1, r2, r3, r4, r5, r6, zH (upz s7 0 0 0) zL7 0, r8, r9])) rfl ?_
        obtain ⟨g44, H⟩ := zgd H
        refine zB.iald oX12_text (g := 7) (p := 1) (N := 4) (i := sh) rfl rfl (by decide) rfl rfl (by decide) g44 ?_
        refine xB.run oX12_text 1 (s := (59, [some (.ref 7168), some (.int (zI sh)), some (.int (zI lane)), some (.int (zI i)), some (.int (zI n)), none, none, none], [.int (zI (-9)), .int (zI ((upz s7 0 0 0) 1 sh.toNat))], [r0, r1, r2, r3, r4, r5, r6, zH (upz s7 0 0 0) zL7 0, r8, r9])) rfl ?_
        obtain ⟨g43, H⟩ := zgd H
        have H := zif H
        refine xB.brE oX12_text (P := ((upz s7 0 0 0) 1 sh.toNat) ≠ (-9)) rfl (zc_ne (a := (upz s7 0 0 0) 1 sh.toNat) (b := (-9)) ⟨g43, by decide⟩) (fun h8 => ?_) (fun h8 => ?_)
        · have H := H.1 h8
          refine xB.run oX12_text 1 (s := (70, [some (.ref 7168), some (.int (zI sh)), some (.int (zI lane)), some (.int (zI i)), some (.int (zI n)), none, none, none], [.int (zI n)], [r0, r1, r2, r3, r4, r5, r6, zH (upz s7 0 0 0) zL7 0, r8, r9])) rfl ?_
          obtain ⟨g40, H⟩ := zgd H
          have H := zif H
          refine xB.brE oX12_text (P := (0 : Int) ≤ n) rfl (zc_ge (a := n) (b := 0) ⟨g40, by decide⟩) (fun h9 => ?_) (fun h9 => ?_)
          · have H := H.1 h9
            refine xB.run oX12_text 1 (s := (80, [some (.ref 7168), some (.int (zI sh)), some (.int (zI lane)), some (.int (zI i)), some (.int (zI n)), none, none, none], [.int (zI i)], [r0, r1, r2, r3, r4, r5, r6, zH (upz s7 0 0 0) zL7 0, r8, r9])) rfl ?_
            obtain ⟨g37, H⟩ := zgd H
            have H := zif H
            refine xB.brE oX12_text (P := i < 0) rfl (zc_lt (a := i) (b := 0) ⟨g37, by decide⟩) (fun h10 => ?_) (fun h10 => ?_)
            · have H := H.1 h10
              refine xB.run oX12_text 2 (s := (108, [some (.ref 7168), some (.int (zI sh)), some (.int (zI lane)), some (.int (zI i)), some (.int (zI n)), none, none, none], [.int (zI 3), .ref 7168], [r0, r1, r2, r3, r4, r5, r6, zH (upz s7 0 0 0) zL7 0, r8, r9])) rfl ?_
              obtain ⟨y11, e12, H⟩ := zbd H
              refine xB.call oX12_text (M2 := MX12_fails) rfl rfl ((t_X12_fails r0 r1 r2 r3 r4 r5 r6 (upz s7 0 0 0) r8 r9 3 e12).deep (by decide : 0 ≤ 3)) ?_
              show xBody MX12_text 4 111 [some (.ref 7168), some (.int (zI sh)), some (.int (zI lane)), some (.int (zI i)), some (.int (zI n)), none, none, none] [.int (zI y11.1)] ([r0, r1, r2, r3, r4, r5, r6, zH y11.2 zL7 0, r8, r9]) _ _
              obtain rfl := Option.some.inj H
              exact xB.ret oX12_text (r1 := some (.int (zI y11.1))) rfl rfl rfl
            · have H := H.2 h10
              refine xB.run oX12_text 4 (s := (89, [some (.ref 7168), some (.int (zI sh)), some (.int (zI lane)), some (.int (zI i)), some (.int (zI n)), none, none, none], [.int (zI sh), .ref 7170, .int (zI i)], [r0, r1, r2, r3, r4, r5, r6, zH (upz s7 0 0 0) zL7 0, r8, r9])) rfl ?_
              obtain ⟨g36, H⟩ := zgd H
              refine zB.iald oX12_text (g := 7) (p := 2) (N := 4) (i := sh) rfl rfl (by decide) rfl rfl (by decide) g36 ?_
              obtain ⟨g35, H⟩ := zgd H
              have H := zif H
              refine xB.brE oX12_text (P := ((upz s7 0 0 0) 2 sh.toNat) < i) rfl (zc_gt (a := i) (b := (upz s7 0 0 0) 2 sh.toNat) g35) (fun h13 => ?_) (fun h13 => ?_)
              · have H := H.1 h13
                refine xB.run oX12_text 2 (s := (108, [some (.ref 7168), some (.int (zI sh)), some (.int (zI lane)), some (.int (zI i)), some (.int (zI n)), none, none, none], [.int (zI 3), .ref 7168], [r0, r1, r2, r3, r4, r5, r6, zH (upz s7 0 0 0) zL7 0, r8, r9])) rfl ?_
                obtain ⟨y14, e15, H⟩ := zbd H
                refine xB.call oX12_text (M2 := MX12_fails) rfl rfl ((t_X12_fails r0 r1 r2 r3 r4 r5 r6 (upz s7 0 0 0) r8 r9 3 e15).deep (by decide : 0 ≤ 3)) ?_
                show xBody MX12_text 4 111 [some (.ref 7168), some (.int (zI sh)), some (.int (zI lane)), some (.int (zI i)), some (.int (zI n)), none, none, none] [.int (zI y14.1)] ([r0, r1, r2, r3, r4, r5, r6, zH y14.2 zL7 0, r8, r9]) _ _
                obtain rfl := Option.some.inj H
                exact xB.ret oX12_text (r1 := some (.int (zI y14.1))) rfl rfl rfl
              · have H := H.2 h13
                refine xB.run oX12_text 4 (s := (100, [some (.ref 7168), some (.int (zI sh)), some (.int (zI lane)), some (.int (zI i)), some (.int (zI n)), none, none, none], [.int (zI sh), .ref 7170, .int (zI n)], [r0, r1, r2, r3, r4, r5, r6, zH (upz s7 0 0 0) zL7 0, r8, r9])) rfl ?_
                obtain ⟨g34, H⟩ := zgd H
                refine zB.iald oX12_text (g := 7) (p := 2) (N := 4) (i := sh) rfl rfl (by decide) rfl rfl (by decide) g34 ?_
                refine xB.run oX12_text 1 (s := (102, [some (.ref 7168), some (.int (zI sh)), some (.int (zI lane)), some (.int (zI i)), some (.int (zI n)), none, none, none], [.int (zI i), .int (zI ((upz s7 0 0 0) 2 sh.toNat)), .int (zI n)], [r0, r1, r2, r3, r4, r5, r6, zH (upz s7 0 0 0) zL7 0, r8, r9])) rfl ?_
                refine zB.opi oX12_text rfl (zi_sub ((upz s7 0 0 0) 2 sh.toNat) i) ?_
                obtain ⟨g33, H⟩ := zgd H
                have H := zif H
                refine xB.brE oX12_text (P := n ≤ (((upz s7 0 0 0) 2 sh.toNat) - i)) rfl (zc_le (a := n) (b := ((upz s7 0 0 0) 2 sh.toNat) - i) g33) (fun h16 => ?_) (fun h16 => ?_)
                · have H := H.1 h16
                  refine xB.run oX12_text 2 (s := (115, [some (.ref 7168), some (.int (zI sh)), some (.int (zI lane)), some (.int (zI i)), some (.int (zI n)), none, none, none], [.int (zI sh), .int (zI 60)], [r0, r1, r2, r3, r4, r5, r6, zH (upz s7 0 0 0) zL7 0, r8, r9])) rfl ?_
                  refine zB.opi oX12_text rfl (zi_mul 60 sh) ?_
                  refine xB.run oX12_text 1 (s := (117, [some (.ref 7168), some (.int (zI sh)), some (.int (zI lane)), some (.int (zI i)), some (.int (zI n)), none, none, none], [.int (zI i), .int (zI (60 * sh))], [r0, r1, r2, r3, r4, r5, r6, zH (upz s7 0 0 0) zL7 0, r8, r9])) rfl ?_
                  refine zB.opi oX12_text rfl (zi_add (60 * sh) i) ?_
                  refine xB.run oX12_text 3 (s := (123, [some (.ref 7168), some (.int (zI sh)), some (.int (zI lane)), some (.int (zI i)), some (.int (zI n)), some (.int (zI ((60 * sh) + i))), none, none], [.int (zI ((60 * sh) + i)), .ref 7168], [r0, r1, r2, r3, r4, r5, r6, zH (upz s7 0 0 0) zL7 0, r8, r9])) rfl ?_
                  refine zB.putI oX12_text (g := 7) (p := 0) (c := 12) (k := 9) (y := 0) (hp1 := [r0, r1, r2, r3, r4, r5, r6, zH (upz (upz s7 0 0 0) 0 9 ((60 * sh) + i)) zL7 0, r8, r9]) rfl rfl (by decide) (by decide) rfl rfl rfl rfl rfl rfl ?_
                  refine xB.run oX12_text 3 (s := (131, [some (.ref 7168), some (.int (zI sh)), some (.int (zI lane)), some (.int (zI i)), some (.int (zI n)), some (.int (zI ((60 * sh) + i))), none, none], [.int (zI n), .int (zI ((60 * sh) + i)), .ref 7168], [r0, r1, r2, r3, r4, r5, r6, zH (upz (upz s7 0 0 0) 0 9 ((60 * sh) + i)) zL7 0, r8, r9])) rfl ?_
                  refine zB.opi oX12_text rfl (zi_add ((60 * sh) + i) n) ?_
                  refine zB.putI oX12_text (g := 7) (p := 0) (c := 12) (k := 10) (y := 0) (hp1 := [r0, r1, r2, r3, r4, r5, r6, zH (upz (upz (upz s7 0 0 0) 0 9 ((60 * sh) + i)) 0 10 (((60 * sh) + i) + n)) zL7 0, r8, r9]) rfl rfl (by decide) (by decide) rfl rfl rfl rfl rfl rfl ?_
                  refine xB.run oX12_text 1 (s := (136, [some (.ref 7168), some (.int (zI sh)), some (.int (zI lane)), some (.int (zI i)), some (.int (zI n)), some (.int (zI ((60 * sh) + i))), none, none], [.ref 7168], [r0, r1, r2, r3, r4, r5, r6, zH (upz (upz (upz s7 0 0 0) 0 9 ((60 * sh) + i)) 0 10 (((60 * sh) + i) + n)) zL7 0, r8, r9])) rfl ?_
                  obtain ⟨y17, e18, H⟩ := zbd H
                  refine xB.call oX12_text (M2 := MX12_items) rfl rfl ((t_X12_items r0 r1 r2 r3 r4 r5 r6 (upz (upz (upz s7 0 0 0) 0 9 ((60 * sh) + i)) 0 10 (((60 * sh) + i) + n)) r8 r9  e18).deep (by decide : 3 ≤ 3)) ?_
                  show xBody MX12_text 4 139 [some (.ref 7168), some (.int (zI sh)), some (.int (zI lane)), some (.int (zI i)), some (.int (zI n)), some (.int (zI ((60 * sh) + i))), none, none] [.int (zI y17.1)] ([r0, r1, r2, r3, r4, r5, r6, zH y17.2 zL7 0, r8, r9]) _ _
                  refine xB.run oX12_text 2 (s := (143, [some (.ref 7168), some (.int (zI sh)), some (.int (zI lane)), some (.int (zI i)), some (.int (zI n)), some (.int (zI ((60 * sh) + i))), some (.int (zI y17.1)), none], [.int (zI y17.1)], [r0, r1, r2, r3, r4, r5, r6, zH y17.2 zL7 0, r8, r9])) rfl ?_
                  obtain ⟨g30, H⟩ := zgd H
                  have H := zif H
                  refine xB.brE oX12_text (P := (0 : Int) ≤ y17.1) rfl (zc_ge (a := y17.1) (b := 0) ⟨g30, by decide⟩) (fun h19 => ?_) (fun h19 => ?_)
                  · have H := H.1 h19
                    refine xB.run oX12_text 2 (s := (160, [some (.ref 7168), some (.int (zI sh)), some (.int (zI lane)), some (.int (zI i)), some (.int (zI n)), some (.int (zI ((60 * sh) + i))), some (.int (zI y17.1)), none], [.int (zI y17.1), .ref 7168], [r0, r1, r2, r3, r4, r5, r6, zH y17.2 zL7 0, r8, r9])) rfl ?_
                    refine zB.putI oX12_text (g := 7) (p := 0) (c := 12) (k := 5) (y := 0) (hp1 := [r0, r1, r2, r3, r4, r5, r6, zH (upz y17.2 0 5 y17.1) zL7 0, r8, r9]) rfl rfl (by decide) (by decide) rfl rfl rfl rfl rfl rfl ?_
                    refine xB.run oX12_text 2 (s := (166, [some (.ref 7168), some (.int (zI sh)), some (.int (zI lane)), some (.int (zI i)), some (.int (zI n)), some (.int (zI ((60 * sh) + i))), some (.int (zI y17.1)), some (.int (zI 0))], [], [r0, r1, r2, r3, r4, r5, r6, zH (upz y17.2 0 5 y17.1) zL7 0, r8, r9])) rfl ?_
                    obtain ⟨y28, e29, H⟩ := zbd H
                    refine l_X12_text_166 r0 r1 r2 r3 r4 r5 r6 r8 r9 sh lane i n ((60 * sh) + i) y17.1 _ 0 (upz y17.2 0 5 y17.1) e29 ?_
                    refine xB.run oX12_text 1 (s := (232, [some (.ref 7168), some (.int (zI sh)), some (.int (zI lane)), some (.int (zI i)), some (.int (zI n)), some (.int (zI ((60 * sh) + i))), some (.int (zI y17.1)), some (.int (zI y28.1))], [.int (zI y17.1)], [r0, r1, r2, r3, r4, r5, r6, zH y28.2 zL7 0, r8, r9])) rfl ?_
                    obtain rfl := Option.some.inj H
                    exact xB.ret oX12_text (r1 := some (.int (zI y17.1))) rfl rfl rfl
                  · have H := H.2 h19
                    refine xB.run oX12_text 4 (s := (154, [some (.ref 7168), some (.int (zI sh)), some (.int (zI lane)), some (.int (zI i)), some (.int (zI n)), some (.int (zI ((60 * sh) + i))), some (.int (zI y17.1)), none], [.int (zI ((60 * sh) + i)), .int (zI (y17.2 0 11)), .int (zI (-100))], [r0, r1, r2, r3, r4, r5, r6, zH y17.2 zL7 0, r8, r9])) rfl ?_
                    refine zB.opi oX12_text rfl (zi_sub (y17.2 0 11) ((60 * sh) + i)) ?_
                    refine zB.opi oX12_text rfl (zi_sub (-100) ((y17.2 0 11) - ((60 * sh) + i))) ?_
                    obtain rfl := Option.some.inj H
                    exact xB.ret oX12_text (r1 := some (.int (zI ((-100) - ((y17.2 0 11) - ((60 * sh) + i)))))) rfl rfl rfl
                · have H := H.2 h16
                  refine xB.run oX12_text 2 (s := (108, [some (.ref 7168), some (.int (zI sh)), some (.int (zI lane)), some (.int (zI i)), some (.int (zI n)), none, none, none], [.int (zI 3), .ref 7168], [r0, r1, r2, r3, r4, r5, r6, zH (upz s7 0 0 0) zL7 0, r8, r9])) rfl ?_
                  obtain ⟨y31, e32, H⟩ := zbd H
                  refine xB.call oX12_text (M2 := MX12_fails) rfl rfl ((t_X12_fails r0 r1 r2 r3 r4 r5 r6 (upz s7 0 0 0) r8 r9 3 e32).deep (by decide : 0 ≤ 3)) ?_
                  show xBody MX12_text 4 111 [some (.ref 7168), some (.int (zI sh)), some (.int (zI lane)), some (.int (zI i)), some (.int (zI n)), none, none, none] [.int (zI y31.1)] ([r0, r1, r2, r3, r4, r5, r6, zH y31.2 zL7 0, r8, r9]) _ _
                  obtain rfl := Option.some.inj H
                  exact xB.ret oX12_text (r1 := some (.int (zI y31.1))) rfl rfl rfl
          · have H := H.2 h9
            refine xB.run oX12_text 2 (s := (75, [some (.ref 7168), some (.int (zI sh)), some (.int (zI lane)), some (.int (zI i)), some (.int (zI n)), none, none, none], [.int (zI 4), .ref 7168], [r0, r1, r2, r3, r4, r5, r6, zH (upz s7 0 0 0) zL7 0, r8, r9])) rfl ?_
            obtain ⟨y38, e39, H⟩ := zbd H
            refine xB.call oX12_text (M2 := MX12_fails) rfl rfl ((t_X12_fails r0 r1 r2 r3 r4 r5 r6 (upz s7 0 0 0) r8 r9 4 e39).deep (by decide : 0 ≤ 3)) ?_
            show xBody MX12_text 4 78 [some (.ref 7168), some (.int (zI sh)), some (.int (zI lane)), some (.int (zI i)), some (.int (zI n)), none, none, none] [.int (zI y38.1)] ([r0, r1, r2, r3, r4, r5, r6, zH y38.2 zL7 0, r8, r9]) _ _
            obtain rfl := Option.some.inj H
            exact xB.ret oX12_text (r1 := some (.int (zI y38.1))) rfl rfl rfl
        · have H := H.2 h8
          refine xB.run oX12_text 2 (s := (64, [some (.ref 7168), some (.int (zI sh)), some (.int (zI lane)), some (.int (zI i)), some (.int (zI n)), none, none, none], [.int (zI 1), .ref 7168], [r0, r1, r2, r3, r4, r5, r6, zH (upz s7 0 0 0) zL7 0, r8, r9])) rfl ?_
          obtain ⟨y41, e42, H⟩ := zbd H
          refine xB.call oX12_text (M2 := MX12_fails) rfl rfl ((t_X12_fails r0 r1 r2 r3 r4 r5 r6 (upz s7 0 0 0) r8 r9 1 e42).deep (by decide : 0 ≤ 3)) ?_
          show xBody MX12_text 4 67 [some (.ref 7168), some (.int (zI sh)), some (.int (zI lane)), some (.int (zI i)), some (.int (zI n)), none, none, none] [.int (zI y41.1)] ([r0, r1, r2, r3, r4, r5, r6, zH y41.2 zL7 0, r8, r9]) _ _
          obtain rfl := Option.some.inj H
          exact xB.ret oX12_text (r1 := some (.int (zI y41.1))) rfl rfl rfl
      · have H := H.2 h7
        refine xB.run oX12_text 3 (s := (40, [some (.ref 7168), some (.int (zI sh)), some (.int (zI lane)), some (.int (zI i)), some (.int (zI n)), none, none, none], [.int (zI sh), .ref 7169], [r0, r1, r2, r3, r4, r5, r6, zH (upz s7 0 0 0) zL7 0, r8, r9])) rfl ?_
        obtain ⟨g78, H⟩ := zgd H
        refine zB.iald oX12_text (g := 7) (p := 1) (N := 4) (i := sh) rfl rfl (by decide) rfl rfl (by decide) g78 ?_
        refine xB.run oX12_text 1 (s := (42, [some (.ref 7168), some (.int (zI sh)), some (.int (zI lane)), some (.int (zI i)), some (.int (zI n)), none, none, none], [.int (zI lane), .int (zI ((upz s7 0 0 0) 1 sh.toNat))], [r0, r1, r2, r3, r4, r5, r6, zH (upz s7 0 0 0) zL7 0, r8, r9])) rfl ?_
        obtain ⟨g77, H⟩ := zgd H
        have H := zif H
        refine xB.brE oX12_text (P := ((upz s7 0 0 0) 1 sh.toNat) = lane) rfl (zc_eq (a := (upz s7 0 0 0) 1 sh.toNat) (b := lane) g77) (fun h45 => ?_) (fun h45 => ?_)
        · have H := H.1 h45
          refine xB.run oX12_text 3 (s := (56, [some (.ref 7168), some (.int (zI sh)), some (.int (zI lane)), some (.int (zI i)), some (.int (zI n)), none, none, none], [.int (zI sh), .ref 7169], [r0, r1, r2, r3, r4, r5, r6, zH (upz s7 0 0 0) zL7 0, r8, r9])) rfl ?_
          obtain ⟨g74, H⟩ := zgd H
          refine zB.iald oX12_text (g := 7) (p := 1) (N := 4) (i := sh) rfl rfl (by decide) rfl rfl (by decide) g74 ?_
          refine xB.run oX12_text 1 (s := (59, [some (.ref 7168), some (.int (zI sh)), some (.int (zI lane)), some (.int (zI i)), some (.int (zI n)), none, none, none], [.int (zI (-9)), .int (zI ((upz s7 0 0 0) 1 sh.toNat))], [r0, r1, r2, r3, r4, r5, r6, zH (upz s7 0 0 0) zL7 0, r8, r9])) rfl ?_
          obtain ⟨g73, H⟩ := zgd H
          have H := zif H
          refine xB.brE oX12_text (P := ((upz s7 0 0 0) 1 sh.toNat) ≠ (-9)) rfl (zc_ne (a := (upz s7 0 0 0) 1 sh.toNat) (b := (-9)) ⟨g73, by decide⟩) (fun h46 => ?_) (fun h46 => ?_)
          · have H := H.1 h46
            refine xB.run oX12_text 1 (s := (70, [some (.ref 7168), some (.int (zI sh)), some (.int (zI lane)), some (.int (zI i)), some (.int (zI n)), none, none, none], [.int (zI n)], [r0, r1, r2, r3, r4, r5, r6, zH (upz s7 0 0 0) zL7 0, r8, r9])) rfl ?_
            obtain ⟨g70, H⟩ := zgd H
            have H := zif H
            refine xB.brE oX12_text (P := (0 : Int) ≤ n) rfl (zc_ge (a := n) (b := 0) ⟨g70, by decide⟩) (fun h47 => ?_) (fun h47 => ?_)
            · have H := H.1 h47
              refine xB.run oX12_text 1 (s := (80, [some (.ref 7168), some (.int (zI sh)), some (.int (zI lane)), some (.int (zI i)), some (.int (zI n)), none, none, none], [.int (zI i)], [r0, r1, r2, r3, r4, r5, r6, zH (upz s7 0 0 0) zL7 0, r8, r9])) rfl ?_
              obtain ⟨g67, H⟩ := zgd H
              have H := zif H
              refine xB.brE oX12_text (P := i < 0) rfl (zc_lt (a := i) (b := 0) ⟨g67, by decide⟩) (fun h48 => ?_) (fun h48 => ?_)
              · have H := H.1 h48
                refine xB.run oX12_text 2 (s := (108, [some (.ref 7168), some (.int (zI sh)), some (.int (zI lane)), some (.int (zI i)), some (.int (zI n)), none, none, none], [.int (zI 3), .ref 7168], [r0, r1, r2, r3, r4, r5, r6, zH (upz s7 0 0 0) zL7 0, r8, r9])) rfl ?_
                obtain ⟨y49, e50, H⟩ := zbd H
                refine xB.call oX12_text (M2 := MX12_fails) rfl rfl ((t_X12_fails r0 r1 r2 r3 r4 r5 r6 (upz s7 0 0 0) r8 r9 3 e50).deep (by decide : 0 ≤ 3)) ?_
                show xBody MX12_text 4 111 [some (.ref 7168), some (.int (zI sh)), some (.int (zI lane)), some (.int (zI i)), some (.int (zI n)), none, none, none] [.int (zI y49.1)] ([r0, r1, r2, r3, r4, r5, r6, zH y49.2 zL7 0, r8, r9]) _ _
                obtain rfl := Option.some.inj H
                exact xB.ret oX12_text (r1 := some (.int (zI y49.1))) rfl rfl rfl
              · have H := H.2 h48
                refine xB.run oX12_text 4 (s := (89, [some (.ref 7168), some (.int (zI sh)), some (.int (zI lane)), some (.int (zI i)), some (.int (zI n)), none, none, none], [.int (zI sh), .ref 7170, .int (zI i)], [r0, r1, r2, r3, r4, r5, r6, zH (upz s7 0 0 0) zL7 0, r8, r9])) rfl ?_
                obtain ⟨g66, H⟩ := zgd H
                refine zB.iald oX12_text (g := 7) (p := 2) (N := 4) (i := sh) rfl rfl (by decide) rfl rfl (by decide) g66 ?_
                obtain ⟨g65, H⟩ := zgd H
                have H := zif H
                refine xB.brE oX12_text (P := ((upz s7 0 0 0) 2 sh.toNat) < i) rfl (zc_gt (a := i) (b := (upz s7 0 0 0) 2 sh.toNat) g65) (fun h51 => ?_) (fun h51 => ?_)
                · have H := H.1 h51
                  refine xB.run oX12_text 2 (s := (108, [some (.ref 7168), some (.int (zI sh)), some (.int (zI lane)), some (.int (zI i)), some (.int (zI n)), none, none, none], [.int (zI 3), .ref 7168], [r0, r1, r2, r3, r4, r5, r6, zH (upz s7 0 0 0) zL7 0, r8, r9])) rfl ?_
                  obtain ⟨y52, e53, H⟩ := zbd H
                  refine xB.call oX12_text (M2 := MX12_fails) rfl rfl ((t_X12_fails r0 r1 r2 r3 r4 r5 r6 (upz s7 0 0 0) r8 r9 3 e53).deep (by decide : 0 ≤ 3)) ?_
                  show xBody MX12_text 4 111 [some (.ref 7168), some (.int (zI sh)), some (.int (zI lane)), some (.int (zI i)), some (.int (zI n)), none, none, none] [.int (zI y52.1)] ([r0, r1, r2, r3, r4, r5, r6, zH y52.2 zL7 0, r8, r9]) _ _
                  obtain rfl := Option.some.inj H
                  exact xB.ret oX12_text (r1 := some (.int (zI y52.1))) rfl rfl rfl
                · have H := H.2 h51
                  refine xB.run oX12_text 4 (s := (100, [some (.ref 7168), some (.int (zI sh)), some (.int (zI lane)), some (.int (zI i)), some (.int (zI n)), none, none, none], [.int (zI sh), .ref 7170, .int (zI n)], [r0, r1, r2, r3, r4, r5, r6, zH (upz s7 0 0 0) zL7 0, r8, r9])) rfl ?_
                  obtain ⟨g64, H⟩ := zgd H
                  refine zB.iald oX12_text (g := 7) (p := 2) (N := 4) (i := sh) rfl rfl (by decide) rfl rfl (by decide) g64 ?_
                  refine xB.run oX12_text 1 (s := (102, [some (.ref 7168), some (.int (zI sh)), some (.int (zI lane)), some (.int (zI i)), some (.int (zI n)), none, none, none], [.int (zI i), .int (zI ((upz s7 0 0 0) 2 sh.toNat)), .int (zI n)], [r0, r1, r2, r3, r4, r5, r6, zH (upz s7 0 0 0) zL7 0, r8, r9])) rfl ?_
                  refine zB.opi oX12_text rfl (zi_sub ((upz s7 0 0 0) 2 sh.toNat) i) ?_
                  obtain ⟨g63, H⟩ := zgd H
                  have H := zif H
                  refine xB.brE oX12_text (P := n ≤ (((upz s7 0 0 0) 2 sh.toNat) - i)) rfl (zc_le (a := n) (b := ((upz s7 0 0 0) 2 sh.toNat) - i) g63) (fun h54 => ?_) (fun h54 => ?_)
                  · have H := H.1 h54
                    refine xB.run oX12_text 2 (s := (115, [some (.ref 7168), some (.int (zI sh)), some (.int (zI lane)), some (.int (zI i)), some (.int (zI n)), none, none, none], [.int (zI sh), .int (zI 60)], [r0, r1, r2, r3, r4, r5, r6, zH (upz s7 0 0 0) zL7 0, r8, r9])) rfl ?_
                    refine zB.opi oX12_text rfl (zi_mul 60 sh) ?_
                    refine xB.run oX12_text 1 (s := (117, [some (.ref 7168), some (.int (zI sh)), some (.int (zI lane)), some (.int (zI i)), some (.int (zI n)), none, none, none], [.int (zI i), .int (zI (60 * sh))], [r0, r1, r2, r3, r4, r5, r6, zH (upz s7 0 0 0) zL7 0, r8, r9])) rfl ?_
                    refine zB.opi oX12_text rfl (zi_add (60 * sh) i) ?_
                    refine xB.run oX12_text 3 (s := (123, [some (.ref 7168), some (.int (zI sh)), some (.int (zI lane)), some (.int (zI i)), some (.int (zI n)), some (.int (zI ((60 * sh) + i))), none, none], [.int (zI ((60 * sh) + i)), .ref 7168], [r0, r1, r2, r3, r4, r5, r6, zH (upz s7 0 0 0) zL7 0, r8, r9])) rfl ?_
                    refine zB.putI oX12_text (g := 7) (p := 0) (c := 12) (k := 9) (y := 0) (hp1 := [r0, r1, r2, r3, r4, r5, r6, zH (upz (upz s7 0 0 0) 0 9 ((60 * sh) + i)) zL7 0, r8, r9]) rfl rfl (by decide) (by decide) rfl rfl rfl rfl rfl rfl ?_
                    refine xB.run oX12_text 3 (s := (131, [some (.ref 7168), some (.int (zI sh)), some (.int (zI lane)), some (.int (zI i)), some (.int (zI n)), some (.int (zI ((60 * sh) + i))), none, none], [.int (zI n), .int (zI ((60 * sh) + i)), .ref 7168], [r0, r1, r2, r3, r4, r5, r6, zH (upz (upz s7 0 0 0) 0 9 ((60 * sh) + i)) zL7 0, r8, r9])) rfl ?_
                    refine zB.opi oX12_text rfl (zi_add ((60 * sh) + i) n) ?_
                    refine zB.putI oX12_text (g := 7) (p := 0) (c := 12) (k := 10) (y := 0) (hp1 := [r0, r1, r2, r3, r4, r5, r6, zH (upz (upz (upz s7 0 0 0) 0 9 ((60 * sh) + i)) 0 10 (((60 * sh) + i) + n)) zL7 0, r8, r9]) rfl rfl (by decide) (by decide) rfl rfl rfl rfl rfl rfl ?_
                    refine xB.run oX12_text 1 (s := (136, [some (.ref 7168), some (.int (zI sh)), some (.int (zI lane)), some (.int (zI i)), some (.int (zI n)), some (.int (zI ((60 * sh) + i))), none, none], [.ref 7168], [r0, r1, r2, r3, r4, r5, r6, zH (upz (upz (upz s7 0 0 0) 0 9 ((60 * sh) + i)) 0 10 (((60 * sh) + i) + n)) zL7 0, r8, r9])) rfl ?_
                    obtain ⟨y55, e56, H⟩ := zbd H
                    refine xB.call oX12_text (M2 := MX12_items) rfl rfl ((t_X12_items r0 r1 r2 r3 r4 r5 r6 (upz (upz (upz s7 0 0 0) 0 9 ((60 * sh) + i)) 0 10 (((60 * sh) + i) + n)) r8 r9  e56).deep (by decide : 3 ≤ 3)) ?_
                    show xBody MX12_text 4 139 [some (.ref 7168), some (.int (zI sh)), some (.int (zI lane)), some (.int (zI i)), some (.int (zI n)), some (.int (zI ((60 * sh) + i))), none, none] [.int (zI y55.1)] ([r0, r1, r2, r3, r4, r5, r6, zH y55.2 zL7 0, r8, r9]) _ _
                    refine xB.run oX12_text 2 (s := (143, [some (.ref 7168), some (.int (zI sh)), some (.int (zI lane)), some (.int (zI i)), some (.int (zI n)), some (.int (zI ((60 * sh) + i))), some (.int (zI y55.1)), none], [.int (zI y55.1)], [r0, r1, r2, r3, r4, r5, r6, zH y55.2 zL7 0, r8, r9])) rfl ?_
                    obtain ⟨g60, H⟩ := zgd H
                    have H := zif H
                    refine xB.brE oX12_text (P := (0 : Int) ≤ y55.1) rfl (zc_ge (a := y55.1) (b := 0) ⟨g60, by decide⟩) (fun h57 => ?_) (fun h57 => ?_)
                    · have H := H.1 h57
                      refine xB.run oX12_text 2 (s := (160, [some (.ref 7168), some (.int (zI sh)), some (.int (zI lane)), some (.int (zI i)), some (.int (zI n)), some (.int (zI ((60 * sh) + i))), some (.int (zI y55.1)), none], [.int (zI y55.1), .ref 7168], [r0, r1, r2, r3, r4, r5, r6, zH y55.2 zL7 0, r8, r9])) rfl ?_
                      refine zB.putI oX12_text (g := 7) (p := 0) (c := 12) (k := 5) (y := 0) (hp1 := [r0, r1, r2, r3, r4, r5, r6, zH (upz y55.2 0 5 y55.1) zL7 0, r8, r9]) rfl rfl (by decide) (by decide) rfl rfl rfl rfl rfl rfl ?_
                      refine xB.run oX12_text 2 (s := (166, [some (.ref 7168), some (.int (zI sh)), some (.int (zI lane)), some (.int (zI i)), some (.int (zI n)), some (.int (zI ((60 * sh) + i))), some (.int (zI y55.1)), some (.int (zI 0))], [], [r0, r1, r2, r3, r4, r5, r6, zH (upz y55.2 0 5 y55.1) zL7 0, r8, r9])) rfl ?_
                      obtain ⟨y58, e59, H⟩ := zbd H
                      refine l_X12_text_166 r0 r1 r2 r3 r4 r5 r6 r8 r9 sh lane i n ((60 * sh) + i) y55.1 _ 0 (upz y55.2 0 5 y55.1) e59 ?_
                      refine xB.run oX12_text 1 (s := (232, [some (.ref 7168), some (.int (zI sh)), some (.int (zI lane)), some (.int (zI i)), some (.int (zI n)), some (.int (zI ((60 * sh) + i))), some (.int (zI y55.1)), some (.int (zI y58.1))], [.int (zI y55.1)], [r0, r1, r2, r3, r4, r5, r6, zH y58.2 zL7 0, r8, r9])) rfl ?_
                      obtain rfl := Option.some.inj H
                      exact xB.ret oX12_text (r1 := some (.int (zI y55.1))) rfl rfl rfl
                    · have H := H.2 h57
                      refine xB.run oX12_text 4 (s := (154, [some (.ref 7168), some (.int (zI sh)), some (.int (zI lane)), some (.int (zI i)), some (.int (zI n)), some (.int (zI ((60 * sh) + i))), some (.int (zI y55.1)), none], [.int (zI ((60 * sh) + i)), .int (zI (y55.2 0 11)), .int (zI (-100))], [r0, r1, r2, r3, r4, r5, r6, zH y55.2 zL7 0, r8, r9])) rfl ?_
                      refine zB.opi oX12_text rfl (zi_sub (y55.2 0 11) ((60 * sh) + i)) ?_
                      refine zB.opi oX12_text rfl (zi_sub (-100) ((y55.2 0 11) - ((60 * sh) + i))) ?_
                      obtain rfl := Option.some.inj H
                      exact xB.ret oX12_text (r1 := some (.int (zI ((-100) - ((y55.2 0 11) - ((60 * sh) + i)))))) rfl rfl rfl
                  · have H := H.2 h54
                    refine xB.run oX12_text 2 (s := (108, [some (.ref 7168), some (.int (zI sh)), some (.int (zI lane)), some (.int (zI i)), some (.int (zI n)), none, none, none], [.int (zI 3), .ref 7168], [r0, r1, r2, r3, r4, r5, r6, zH (upz s7 0 0 0) zL7 0, r8, r9])) rfl ?_
                    obtain ⟨y61, e62, H⟩ := zbd H
                    refine xB.call oX12_text (M2 := MX12_fails) rfl rfl ((t_X12_fails r0 r1 r2 r3 r4 r5 r6 (upz s7 0 0 0) r8 r9 3 e62).deep (by decide : 0 ≤ 3)) ?_
                    show xBody MX12_text 4 111 [some (.ref 7168), some (.int (zI sh)), some (.int (zI lane)), some (.int (zI i)), some (.int (zI n)), none, none, none] [.int (zI y61.1)] ([r0, r1, r2, r3, r4, r5, r6, zH y61.2 zL7 0, r8, r9]) _ _
                    obtain rfl := Option.some.inj H
                    exact xB.ret oX12_text (r1 := some (.int (zI y61.1))) rfl rfl rfl
            · have H := H.2 h47
              refine xB.run oX12_text 2 (s := (75, [some (.ref 7168), some (.int (zI sh)), some (.int (zI lane)), some (.int (zI i)), some (.int (zI n)), none, none, none], [.int (zI 4), .ref 7168], [r0, r1, r2, r3, r4, r5, r6, zH (upz s7 0 0 0) zL7 0, r8, r9])) rfl ?_
              obtain ⟨y68, e69, H⟩ := zbd H
              refine xB.call oX12_text (M2 := MX12_fails) rfl rfl ((t_X12_fails r0 r1 r2 r3 r4 r5 r6 (upz s7 0 0 0) r8 r9 4 e69).deep (by decide : 0 ≤ 3)) ?_
              show xBody MX12_text 4 78 [some (.ref 7168), some (.int (zI sh)), some (.int (zI lane)), some (.int (zI i)), some (.int (zI n)), none, none, none] [.int (zI y68.1)] ([r0, r1, r2, r3, r4, r5, r6, zH y68.2 zL7 0, r8, r9]) _ _
              obtain rfl := Option.some.inj H
              exact xB.ret oX12_text (r1 := some (.int (zI y68.1))) rfl rfl rfl
          · have H := H.2 h46
            refine xB.run oX12_text 2 (s := (64, [some (.ref 7168), some (.int (zI sh)), some (.int (zI lane)), some (.int (zI i)), some (.int (zI n)), none, none, none], [.int (zI 1), .ref 7168], [r0, r1, r2, r3, r4, r5, r6, zH (upz s7 0 0 0) zL7 0, r8, r9])) rfl ?_
            obtain ⟨y71, e72, H⟩ := zbd H
            refine xB.call oX12_text (M2 := MX12_fails) rfl rfl ((t_X12_fails r0 r1 r2 r3 r4 r5 r6 (upz s7 0 0 0) r8 r9 1 e72).deep (by decide : 0 ≤ 3)) ?_
            show xBody MX12_text 4 67 [some (.ref 7168), some (.int (zI sh)), some (.int (zI lane)), some (.int (zI i)), some (.int (zI n)), none, none, none] [.int (zI y71.1)] ([r0, r1, r2, r3, r4, r5, r6, zH y71.2 zL7 0, r8, r9]) _ _
            obtain rfl := Option.some.inj H
            exact xB.ret oX12_text (r1 := some (.int (zI y71.1))) rfl rfl rfl
        · have H := H.2 h45
          refine xB.run oX12_text 2 (s := (47, [some (.ref 7168), some (.int (zI sh)), some (.int (zI lane)), some (.int (zI i)), some (.int (zI n)), none, none, none], [.int (zI 2), .ref 7168], [r0, r1, r2, r3, r4, r5, r6, zH (upz s7 0 0 0) zL7 0, r8, r9])) rfl ?_
          obtain ⟨y75, e76, H⟩ := zbd H
          refine xB.call oX12_text (M2 := MX12_fails) rfl rfl ((t_X12_fails r0 r1 r2 r3 r4 r5 r6 (upz s7 0 0 0) r8 r9 2 e76).deep (by decide : 0 ≤ 3)) ?_
          show xBody MX12_text 4 50 [some (.ref 7168), some (.int (zI sh)), some (.int (zI lane)), some (.int (zI i)), some (.int (zI n)), none, none, none] [.int (zI y75.1)] ([r0, r1, r2, r3, r4, r5, r6, zH y75.2 zL7 0, r8, r9]) _ _
          obtain rfl := Option.some.inj H
          exact xB.ret oX12_text (r1 := some (.int (zI y75.1))) rfl rfl rfl
    · have H := H.2 h6
      refine xB.run oX12_text 1 (s := (23, [some (.ref 7168), some (.int (zI sh)), some (.int (zI lane)), some (.int (zI i)), some (.int (zI n)), none, none, none], [.int (zI (-2))], [r0, r1, r2, r3, r4, r5, r6, zH (upz s7 0 0 0) zL7 0, r8, r9])) rfl ?_
      obtain rfl := Option.some.inj H
      exact xB.ret oX12_text (r1 := some (.int (zI (-2)))) rfl rfl rfl
  · have H := H.2 h3
    refine xB.run oX12_text 1 (s := (13, [some (.ref 7168), some (.int (zI sh)), some (.int (zI lane)), some (.int (zI i)), some (.int (zI n)), none, none, none], [.int (zI (-1))], [r0, r1, r2, r3, r4, r5, r6, zH (upz s7 0 0 0) zL7 0, r8, r9])) rfl ?_
    obtain rfl := Option.some.inj H
    exact xB.ret oX12_text (r1 := some (.int (zI (-1)))) rfl rfl rfl
def d_X12_isPanel (s7 : zZ) (p : Int) : Option (Int) := if (zr p) then (if p < 0 then some 0 else (if (zr p ∧ zr (s7 0 5)) then (if (s7 0 5) ≤ p then some 0 else some 1) else none)) else none
set_option maxRecDepth 20000 in
theorem t_X12_isPanel (r0 : List va_E) (r1 : List va_E) (r2 : List va_E) (r3 : List va_E) (r4 : List va_E) (r5 : List va_E) (r6 : List va_E) (s7 : zZ) (r8 : List va_E) (r9 : List va_E) (p : Int) {rr : Int} (H : d_X12_isPanel s7 p = some rr) : xC MX12_isPanel 0 [.ref 7168, .int (zI p)] ([r0, r1, r2, r3, r4, r5, r6, zH s7 zL7 0, r8, r9]) (some (.int (zI rr))) ([r0, r1, r2, r3, r4, r5, r6, zH s7 zL7 0, r8, r9]) := by
  refine ⟨Nat.le_of_ble_eq_true rfl, ?_⟩
  show xBody MX12_isPanel 0 0 [some (.ref 7168), some (.int (zI p))] [] ([r0, r1, r2, r3, r4, r5, r6, zH s7 zL7 0, r8, r9]) _ _
  unfold d_X12_isPanel at H
  refine xB.run oX12_isPanel 1 (s := (1, [some (.ref 7168), some (.int (zI p))], [.int (zI p)], [r0, r1, r2, r3, r4, r5, r6, zH s7 zL7 0, r8, r9])) rfl ?_
  obtain ⟨g4, H⟩ := zgd H
  have H := zif H
  refine xB.brE oX12_isPanel (P := p < 0) rfl (zc_lt (a := p) (b := 0) ⟨g4, by decide⟩) (fun h1 => ?_) (fun h1 => ?_)
  · have H := H.1 h1
    refine xB.run oX12_isPanel 1 (s := (17, [some (.ref 7168), some (.int (zI p))], [.int (zI 0)], [r0, r1, r2, r3, r4, r5, r6, zH s7 zL7 0, r8, r9])) rfl ?_
    obtain rfl := Option.some.inj H
    exact xB.ret oX12_isPanel (r1 := some (.int (zI 0))) rfl rfl rfl
  · have H := H.2 h1
    refine xB.run oX12_isPanel 3 (s := (9, [some (.ref 7168), some (.int (zI p))], [.int (zI (s7 0 5)), .int (zI p)], [r0, r1, r2, r3, r4, r5, r6, zH s7 zL7 0, r8, r9])) rfl ?_
    obtain ⟨g3, H⟩ := zgd H
    have H := zif H
    refine xB.brE oX12_isPanel (P := (s7 0 5) ≤ p) rfl (zc_ge (a := p) (b := s7 0 5) g3) (fun h2 => ?_) (fun h2 => ?_)
    · have H := H.1 h2
      refine xB.run oX12_isPanel 1 (s := (17, [some (.ref 7168), some (.int (zI p))], [.int (zI 0)], [r0, r1, r2, r3, r4, r5, r6, zH s7 zL7 0, r8, r9])) rfl ?_
      obtain rfl := Option.some.inj H
      exact xB.ret oX12_isPanel (r1 := some (.int (zI 0))) rfl rfl rfl
    · have H := H.2 h2
      refine xB.run oX12_isPanel 2 (s := (17, [some (.ref 7168), some (.int (zI p))], [.int (zI 1)], [r0, r1, r2, r3, r4, r5, r6, zH s7 zL7 0, r8, r9])) rfl ?_
      obtain rfl := Option.some.inj H
      exact xB.ret oX12_isPanel (r1 := some (.int (zI 1))) rfl rfl rfl
def d_X12_above_4 (s7 : zZ) (p : Int) : Nat → Int → Int → Option (Int × Int)
  | 0, _, _ => none
  | uN + 1, x, k => if (zr k ∧ zr p) then (if p < k then some (x, k) else (if (0 ≤ k ∧ k < 16) then (d_X12_above_4 s7 p uN (x + (s7 6 k.toNat)) (k + 1)) else none)) else none
def d_X12_above (s7 : zZ) (p : Int) : Option (Int) := (d_X12_above_4 s7 p zF 0 0).bind fun y4 => some y4.1
set_option maxRecDepth 20000 in
theorem l_X12_above_4 (r0 : List va_E) (r1 : List va_E) (r2 : List va_E) (r3 : List va_E) (r4 : List va_E) (r5 : List va_E) (r6 : List va_E) (s7 : zZ) (r8 : List va_E) (r9 : List va_E) (p : Int) {r : Option Value} {hp1 : xH} : ∀ (uN : Nat) (x : Int) (k : Int) {uX : Int × Int}, d_X12_above_4 s7 p uN x k = some uX → (xBody MX12_above 0 24 [some (.ref 7168), some (.int (zI p)), some (.int (zI uX.1)), some (.int (zI uX.2))] [] ([r0, r1, r2, r3, r4, r5, r6, zH s7 zL7 0, r8, r9]) r hp1) → xBody MX12_above 0 4 [some (.ref 7168), some (.int (zI p)), some (.int (zI x)), some (.int (zI k))] [] ([r0, r1, r2, r3, r4, r5, r6, zH s7 zL7 0, r8, r9]) r hp1 := by
  intro uN
  induction uN with
  | zero => intro x k uX H K; cases H
  | succ uN ih =>
    intro x k uX H K
    unfold d_X12_above_4 at H
    refine xB.run oX12_above 2 (s := (6, [some (.ref 7168), some (.int (zI p)), some (.int (zI x)), some (.int (zI k))], [.int (zI p), .int (zI k)], [r0, r1, r2, r3, r4, r5, r6, zH s7 zL7 0, r8, r9])) rfl ?_
    obtain ⟨g3, H⟩ := zgd H
    have H := zif H
    refine xB.brE oX12_above (P := p < k) rfl (zc_gt (a := k) (b := p) g3) (fun h1 => ?_) (fun h1 => ?_)
    · have H := H.1 h1
      obtain rfl := Option.some.inj H
      exact K
    · have H := H.2 h1
      refine xB.run oX12_above 4 (s := (15, [some (.ref 7168), some (.int (zI p)), some (.int (zI x)), some (.int (zI k))], [.int (zI k), .ref 7174, .int (zI x)], [r0, r1, r2, r3, r4, r5, r6, zH s7 zL7 0, r8, r9])) rfl ?_
      obtain ⟨g2, H⟩ := zgd H
      refine zB.iald oX12_above (g := 7) (p := 6) (N := 16) (i := k) rfl rfl (by decide) rfl rfl (by decide) g2 ?_
      refine zB.opi oX12_above rfl (zi_add x (s7 6 k.toNat)) ?_
      refine xB.run oX12_above 1 (s := (18, [some (.ref 7168), some (.int (zI p)), some (.int (zI (x + (s7 6 k.toNat)))), some (.int (zI k))], [], [r0, r1, r2, r3, r4, r5, r6, zH s7 zL7 0, r8, r9])) rfl ?_
      refine zB.inc oX12_above rfl (lv2 := [some (.ref 7168), some (.int (zI p)), some (.int (zI (x + (s7 6 k.toNat)))), some (.int (zI (k + 1)))]) (zi_inc (a := 0) (zi_addp1 k) _ rfl) ?_
      refine xB.run oX12_above 1 (s := (4, [some (.ref 7168), some (.int (zI p)), some (.int (zI (x + (s7 6 k.toNat)))), some (.int (zI (k + 1)))], [], [r0, r1, r2, r3, r4, r5, r6, zH s7 zL7 0, r8, r9])) rfl ?_
      exact ih (x + (s7 6 k.toNat)) (k + 1) H K
set_option maxRecDepth 20000 in
theorem t_X12_above (r0 : List va_E) (r1 : List va_E) (r2 : List va_E) (r3 : List va_E) (r4 : List va_E) (r5 : List va_E) (r6 : List va_E) (s7 : zZ) (r8 : List va_E) (r9 : List va_E) (p : Int) {rr : Int} (H : d_X12_above s7 p = some rr) : xC MX12_above 0 [.ref 7168, .int (zI p)] ([r0, r1, r2, r3, r4, r5, r6, zH s7 zL7 0, r8, r9]) (some (.int (zI rr))) ([r0, r1, r2, r3, r4, r5, r6, zH s7 zL7 0, r8, r9]) := by
  refine ⟨Nat.le_of_ble_eq_true rfl, ?_⟩
  show xBody MX12_above 0 0 [some (.ref 7168), some (.int (zI p)), none, none] [] ([r0, r1, r2, r3, r4, r5, r6, zH s7 zL7 0, r8, r9]) _ _
  unfold d_X12_above at H
  refine xB.run oX12_above 4 (s := (4, [some (.ref 7168), some (.int (zI p)), some (.int (zI 0)), some (.int (zI 0))], [], [r0, r1, r2, r3, r4, r5, r6, zH s7 zL7 0, r8, r9])) rfl ?_
  obtain ⟨y4, e5, H⟩ := zbd H
  refine l_X12_above_4 r0 r1 r2 r3 r4 r5 r6 s7 r8 r9 p _ 0 0 e5 ?_
  refine xB.run oX12_above 1 (s := (25, [some (.ref 7168), some (.int (zI p)), some (.int (zI y4.1)), some (.int (zI y4.2))], [.int (zI y4.1)], [r0, r1, r2, r3, r4, r5, r6, zH s7 zL7 0, r8, r9])) rfl ?_
  obtain rfl := Option.some.inj H
  exact xB.ret oX12_above (r1 := some (.int (zI y4.1))) rfl rfl rfl
def d_X12_square (s7 : zZ) (p : Int) : Option (Int) := if (0 ≤ p ∧ p < 16) then (if (0 ≤ p ∧ p < 16) then (if (0 ≤ p ∧ p < 16) then (if (0 ≤ p ∧ p < 16) then some (((s7 4 p.toNat) * (s7 4 p.toNat)) + ((s7 5 p.toNat) * (s7 5 p.toNat))) else none) else none) else none) else none
set_option maxRecDepth 20000 in
theorem t_X12_square (r0 : List va_E) (r1 : List va_E) (r2 : List va_E) (r3 : List va_E) (r4 : List va_E) (r5 : List va_E) (r6 : List va_E) (s7 : zZ) (r8 : List va_E) (r9 : List va_E) (p : Int) {rr : Int} (H : d_X12_square s7 p = some rr) : xC MX12_square 0 [.ref 7168, .int (zI p)] ([r0, r1, r2, r3, r4, r5, r6, zH s7 zL7 0, r8, r9]) (some (.int (zI rr))) ([r0, r1, r2, r3, r4, r5, r6, zH s7 zL7 0, r8, r9]) := by
  refine ⟨Nat.le_of_ble_eq_true rfl, ?_⟩
  show xBody MX12_square 0 0 [some (.ref 7168), some (.int (zI p))] [] ([r0, r1, r2, r3, r4, r5, r6, zH s7 zL7 0, r8, r9]) _ _
  unfold d_X12_square at H
  refine xB.run oX12_square 3 (s := (5, [some (.ref 7168), some (.int (zI p))], [.int (zI p), .ref 7172], [r0, r1, r2, r3, r4, r5, r6, zH s7 zL7 0, r8, r9])) rfl ?_
  obtain ⟨g4, H⟩ := zgd H
  refine zB.iald oX12_square (g := 7) (p := 4) (N := 16) (i := p) rfl rfl (by decide) rfl rfl (by decide) g4 ?_
  refine xB.run oX12_square 3 (s := (11, [some (.ref 7168), some (.int (zI p))], [.int (zI p), .ref 7172, .int (zI (s7 4 p.toNat))], [r0, r1, r2, r3, r4, r5, r6, zH s7 zL7 0, r8, r9])) rfl ?_
  obtain ⟨g3, H⟩ := zgd H
  refine zB.iald oX12_square (g := 7) (p := 4) (N := 16) (i := p) rfl rfl (by decide) rfl rfl (by decide) g3 ?_
  refine zB.opi oX12_square rfl (zi_mul (s7 4 p.toNat) (s7 4 p.toNat)) ?_
  refine xB.run oX12_square 3 (s := (18, [some (.ref 7168), some (.int (zI p))], [.int (zI p), .ref 7173, .int (zI ((s7 4 p.toNat) * (s7 4 p.toNat)))], [r0, r1, r2, r3, r4, r5, r6, zH s7 zL7 0, r8, r9])) rfl ?_
  obtain ⟨g2, H⟩ := zgd H
  refine zB.iald oX12_square (g := 7) (p := 5) (N := 16) (i := p) rfl rfl (by decide) rfl rfl (by decide) g2 ?_
  refine xB.run oX12_square 3 (s := (24, [some (.ref 7168), some (.int (zI p))], [.int (zI p), .ref 7173, .int (zI (s7 5 p.toNat)), .int (zI ((s7 4 p.toNat) * (s7 4 p.toNat)))], [r0, r1, r2, r3, r4, r5, r6, zH s7 zL7 0, r8, r9])) rfl ?_
  obtain ⟨g1, H⟩ := zgd H
  refine zB.iald oX12_square (g := 7) (p := 5) (N := 16) (i := p) rfl rfl (by decide) rfl rfl (by decide) g1 ?_
  refine zB.opi oX12_square rfl (zi_mul (s7 5 p.toNat) (s7 5 p.toNat)) ?_
  refine zB.opi oX12_square rfl (zi_add ((s7 4 p.toNat) * (s7 4 p.toNat)) ((s7 5 p.toNat) * (s7 5 p.toNat))) ?_
  obtain rfl := Option.some.inj H
  exact xB.ret oX12_square (r1 := some (.int (zI (((s7 4 p.toNat) * (s7 4 p.toNat)) + ((s7 5 p.toNat) * (s7 5 p.toNat)))))) rfl rfl rfl
def d_X12_pushOf (s7 : zZ) (p : Int) : Option (Int) := (d_X12_above s7 p).bind fun y1 => if zr y1 then ((d_X12_square s7 p).bind fun y3 => if zr y3 then (if (0 ≤ p ∧ p < 16) then (if zr (s7 5 p.toNat) then (if (0 ≤ p ∧ p < 16) then (if zr (s7 5 p.toNat) then ((d_X12_root ((y1 * y1) * y3) ((s7 5 p.toNat) * (s7 5 p.toNat))).bind fun y5 => some y5) else none) else none) else none) else none) else none) else none
set_option maxRecDepth 20000 in
theorem t_X12_pushOf (r0 : List va_E) (r1 : List va_E) (r2 : List va_E) (r3 : List va_E) (r4 : List va_E) (r5 : List va_E) (r6 : List va_E) (s7 : zZ) (r8 : List va_E) (r9 : List va_E) (p : Int) {rr : Int} (H : d_X12_pushOf s7 p = some rr) : xC MX12_pushOf 1 [.ref 7168, .int (zI p)] ([r0, r1, r2, r3, r4, r5, r6, zH s7 zL7 0, r8, r9]) (some (.int (zI rr))) ([r0, r1, r2, r3, r4, r5, r6, zH s7 zL7 0, r8, r9]) := by
  refine ⟨Nat.le_of_ble_eq_true rfl, ?_⟩
  show xBody MX12_pushOf 1 0 [some (.ref 7168), some (.int (zI p)), none, none] [] ([r0, r1, r2, r3, r4, r5, r6, zH s7 zL7 0, r8, r9]) _ _
  unfold d_X12_pushOf at H
  refine xB.run oX12_pushOf 2 (s := (2, [some (.ref 7168), some (.int (zI p)), none, none], [.int (zI p), .ref 7168], [r0, r1, r2, r3, r4, r5, r6, zH s7 zL7 0, r8, r9])) rfl ?_
  obtain ⟨y1, e2, H⟩ := zbd H
  refine xB.call oX12_pushOf (M2 := MX12_above) rfl rfl ((t_X12_above r0 r1 r2 r3 r4 r5 r6 s7 r8 r9 p e2).deep (by decide : 0 ≤ 0)) ?_
  show xBody MX12_pushOf 1 5 [some (.ref 7168), some (.int (zI p)), none, none] [.int (zI y1)] ([r0, r1, r2, r3, r4, r5, r6, zH s7 zL7 0, r8, r9]) _ _
  obtain ⟨g12, H⟩ := zgd H
  refine zB.opl oX12_pushOf rfl (zi_i2l g12) ?_
  refine xB.run oX12_pushOf 3 (s := (9, [some (.ref 7168), some (.int (zI p)), some (.long (zJ y1)), none], [.long (zJ y1), .long (zJ y1)], [r0, r1, r2, r3, r4, r5, r6, zH s7 zL7 0, r8, r9])) rfl ?_
  refine zB.opl oX12_pushOf rfl (zj_mul y1 y1) ?_
  refine xB.run oX12_pushOf 2 (s := (12, [some (.ref 7168), some (.int (zI p)), some (.long (zJ y1)), none], [.int (zI p), .ref 7168, .long (zJ (y1 * y1))], [r0, r1, r2, r3, r4, r5, r6, zH s7 zL7 0, r8, r9])) rfl ?_
  obtain ⟨y3, e4, H⟩ := zbd H
  refine xB.call oX12_pushOf (M2 := MX12_square) rfl rfl ((t_X12_square r0 r1 r2 r3 r4 r5 r6 s7 r8 r9 p e4).deep (by decide : 0 ≤ 0)) ?_
  show xBody MX12_pushOf 1 15 [some (.ref 7168), some (.int (zI p)), some (.long (zJ y1)), none] [.int (zI y3), .long (zJ (y1 * y1))] ([r0, r1, r2, r3, r4, r5, r6, zH s7 zL7 0, r8, r9]) _ _
  obtain ⟨g11, H⟩ := zgd H
  refine zB.opl oX12_pushOf rfl (zi_i2l g11) ?_
  refine zB.opl oX12_pushOf rfl (zj_mul (y1 * y1) y3) ?_
  refine xB.run oX12_pushOf 3 (s := (22, [some (.ref 7168), some (.int (zI p)), some (.long (zJ y1)), none], [.int (zI p), .ref 7173, .long (zJ ((y1 * y1) * y3))], [r0, r1, r2, r3, r4, r5, r6, zH s7 zL7 0, r8, r9])) rfl ?_
  obtain ⟨g10, H⟩ := zgd H
  refine zB.iald oX12_pushOf (g := 7) (p := 5) (N := 16) (i := p) rfl rfl (by decide) rfl rfl (by decide) g10 ?_
  obtain ⟨g9, H⟩ := zgd H
  refine zB.opl oX12_pushOf rfl (zi_i2l g9) ?_
  refine xB.run oX12_pushOf 3 (s := (29, [some (.ref 7168), some (.int (zI p)), some (.long (zJ y1)), none], [.int (zI p), .ref 7173, .long (zJ (s7 5 p.toNat)), .long (zJ ((y1 * y1) * y3))], [r0, r1, r2, r3, r4, r5, r6, zH s7 zL7 0, r8, r9])) rfl ?_
  obtain ⟨g8, H⟩ := zgd H
  refine zB.iald oX12_pushOf (g := 7) (p := 5) (N := 16) (i := p) rfl rfl (by decide) rfl rfl (by decide) g8 ?_
  obtain ⟨g7, H⟩ := zgd H
  refine zB.opl oX12_pushOf rfl (zi_i2l g7) ?_
  refine zB.opl oX12_pushOf rfl (zj_mul (s7 5 p.toNat) (s7 5 p.toNat)) ?_
  obtain ⟨y5, e6, H⟩ := zbd H
  refine xB.call oX12_pushOf (M2 := MX12_root) rfl rfl ((t_X12_root r0 r1 r2 r3 r4 r5 r6 (zH s7 zL7 0) r8 r9 ((y1 * y1) * y3) ((s7 5 p.toNat) * (s7 5 p.toNat)) e6).deep (by decide : 0 ≤ 0)) ?_
  show xBody MX12_pushOf 1 35 [some (.ref 7168), some (.int (zI p)), some (.long (zJ y1)), none] [.int (zI y5)] ([r0, r1, r2, r3, r4, r5, r6, zH s7 zL7 0, r8, r9]) _ _
  obtain rfl := Option.some.inj H
  exact xB.ret oX12_pushOf (r1 := some (.int (zI y5))) rfl rfl rfl
def d_X12_lengthOf (s7 : zZ) (p : Int) : Option (Int) := (d_X12_square s7 p).bind fun y1 => if zr y1 then ((d_X12_root y1 1).bind fun y3 => some y3) else none
set_option maxRecDepth 20000 in
theorem t_X12_lengthOf (r0 : List va_E) (r1 : List va_E) (r2 : List va_E) (r3 : List va_E) (r4 : List va_E) (r5 : List va_E) (r6 : List va_E) (s7 : zZ) (r8 : List va_E) (r9 : List va_E) (p : Int) {rr : Int} (H : d_X12_lengthOf s7 p = some rr) : xC MX12_lengthOf 1 [.ref 7168, .int (zI p)] ([r0, r1, r2, r3, r4, r5, r6, zH s7 zL7 0, r8, r9]) (some (.int (zI rr))) ([r0, r1, r2, r3, r4, r5, r6, zH s7 zL7 0, r8, r9]) := by
  refine ⟨Nat.le_of_ble_eq_true rfl, ?_⟩
  show xBody MX12_lengthOf 1 0 [some (.ref 7168), some (.int (zI p))] [] ([r0, r1, r2, r3, r4, r5, r6, zH s7 zL7 0, r8, r9]) _ _
  unfold d_X12_lengthOf at H
  refine xB.run oX12_lengthOf 2 (s := (2, [some (.ref 7168), some (.int (zI p))], [.int (zI p), .ref 7168], [r0, r1, r2, r3, r4, r5, r6, zH s7 zL7 0, r8, r9])) rfl ?_
  obtain ⟨y1, e2, H⟩ := zbd H
  refine xB.call oX12_lengthOf (M2 := MX12_square) rfl rfl ((t_X12_square r0 r1 r2 r3 r4 r5 r6 s7 r8 r9 p e2).deep (by decide : 0 ≤ 0)) ?_
  show xBody MX12_lengthOf 1 5 [some (.ref 7168), some (.int (zI p))] [.int (zI y1)] ([r0, r1, r2, r3, r4, r5, r6, zH s7 zL7 0, r8, r9]) _ _
  obtain ⟨g5, H⟩ := zgd H
  refine zB.opl oX12_lengthOf rfl (zi_i2l g5) ?_
  refine xB.run oX12_lengthOf 1 (s := (7, [some (.ref 7168), some (.int (zI p))], [.long (zJ 1), .long (zJ y1)], [r0, r1, r2, r3, r4, r5, r6, zH s7 zL7 0, r8, r9])) rfl ?_
  obtain ⟨y3, e4, H⟩ := zbd H
  refine xB.call oX12_lengthOf (M2 := MX12_root) rfl rfl ((t_X12_root r0 r1 r2 r3 r4 r5 r6 (zH s7 zL7 0) r8 r9 y1 1 e4).deep (by decide : 0 ≤ 0)) ?_
  show xBody MX12_lengthOf 1 10 [some (.ref 7168), some (.int (zI p))] [.int (zI y3)] ([r0, r1, r2, r3, r4, r5, r6, zH s7 zL7 0, r8, r9]) _ _
  obtain rfl := Option.some.inj H
  exact xB.ret oX12_lengthOf (r1 := some (.int (zI y3))) rfl rfl rfl
def d_X12_panel (s7 : zZ) (p : Int) (wh : Int) : Option (Int) := (d_X12_isPanel s7 p).bind fun y1 => if (zr y1) then (if y1 ≠ 0 then (if zr wh then (if wh = 0 then (if (0 ≤ p ∧ p < 16) then some (s7 4 p.toNat) else none) else (if wh = 1 then (if (0 ≤ p ∧ p < 16) then some (s7 5 p.toNat) else none) else (if wh = 2 then (if (0 ≤ p ∧ p < 16) then some (s7 6 p.toNat) else none) else (if wh = 3 then ((d_X12_above s7 p).bind fun y12 => some y12) else (if wh = 4 then ((d_X12_pushOf s7 p).bind fun y15 => some y15) else (if wh = 5 then ((d_X12_lengthOf s7 p).bind fun y18 => some y18) else some (-2))))))) else none) else some (-1)) else none
set_option maxRecDepth 20000 in
theorem t_X12_panel (r0 : List va_E) (r1 : List va_E) (r2 : List va_E) (r3 : List va_E) (r4 : List va_E) (r5 : List va_E) (r6 : List va_E) (s7 : zZ) (r8 : List va_E) (r9 : List va_E) (p : Int) (wh : Int) {rr : Int} (H : d_X12_panel s7 p wh = some rr) : xC MX12_panel 2 [.ref 7168, .int (zI p), .int (zI wh)] ([r0, r1, r2, r3, r4, r5, r6, zH s7 zL7 0, r8, r9]) (some (.int (zI rr))) ([r0, r1, r2, r3, r4, r5, r6, zH s7 zL7 0, r8, r9]) := by
  refine ⟨Nat.le_of_ble_eq_true rfl, ?_⟩
  show xBody MX12_panel 2 0 [some (.ref 7168), some (.int (zI p)), some (.int (zI wh))] [] ([r0, r1, r2, r3, r4, r5, r6, zH s7 zL7 0, r8, r9]) _ _
  unfold d_X12_panel at H
  refine xB.run oX12_panel 2 (s := (2, [some (.ref 7168), some (.int (zI p)), some (.int (zI wh))], [.int (zI p), .ref 7168], [r0, r1, r2, r3, r4, r5, r6, zH s7 zL7 0, r8, r9])) rfl ?_
  obtain ⟨y1, e2, H⟩ := zbd H
  refine xB.call oX12_panel (M2 := MX12_isPanel) rfl rfl ((t_X12_isPanel r0 r1 r2 r3 r4 r5 r6 s7 r8 r9 p e2).deep (by decide : 0 ≤ 1)) ?_
  show xBody MX12_panel 2 5 [some (.ref 7168), some (.int (zI p)), some (.int (zI wh))] [.int (zI y1)] ([r0, r1, r2, r3, r4, r5, r6, zH s7 zL7 0, r8, r9]) _ _
  obtain ⟨g20, H⟩ := zgd H
  have H := zif H
  refine xB.brE oX12_panel (P := y1 ≠ 0) rfl (zc_ne (a := y1) (b := 0) ⟨g20, by decide⟩) (fun h3 => ?_) (fun h3 => ?_)
  · have H := H.1 h3
    refine xB.run oX12_panel 1 (s := (11, [some (.ref 7168), some (.int (zI p)), some (.int (zI wh))], [.int (zI wh)], [r0, r1, r2, r3, r4, r5, r6, zH s7 zL7 0, r8, r9])) rfl ?_
    obtain ⟨g4, H⟩ := zgd H
    have H := zif H
    by_cases h5 : wh = 0
    · have H := H.1 h5
      refine xB.next oX12_panel (s := (48, [some (.ref 7168), some (.int (zI p)), some (.int (zI wh))], [], [r0, r1, r2, r3, r4, r5, r6, zH s7 zL7 0, r8, r9])) (xsw_at rfl (by rw [zsw g4 0 _ (by decide), if_pos (show wh = ((0 : Nat) : Int) from h5)])) ?_
      refine xB.run oX12_panel 3 (s := (53, [some (.ref 7168), some (.int (zI p)), some (.int (zI wh))], [.int (zI p), .ref 7172], [r0, r1, r2, r3, r4, r5, r6, zH s7 zL7 0, r8, r9])) rfl ?_
      obtain ⟨g6, H⟩ := zgd H
      refine zB.iald oX12_panel (g := 7) (p := 4) (N := 16) (i := p) rfl rfl (by decide) rfl rfl (by decide) g6 ?_
      obtain rfl := Option.some.inj H
      exact xB.ret oX12_panel (r1 := some (.int (zI (s7 4 p.toNat)))) rfl rfl rfl
    · have H := H.2 h5
      have H := zif H
      by_cases h7 : wh = 1
      · have H := H.1 h7
        refine xB.next oX12_panel (s := (55, [some (.ref 7168), some (.int (zI p)), some (.int (zI wh))], [], [r0, r1, r2, r3, r4, r5, r6, zH s7 zL7 0, r8, r9])) (xsw_at rfl (by rw [zsw g4 0 _ (by decide), if_neg (show ¬ wh = ((0 : Nat) : Int) from h5)]; rw [zsw g4 1 _ (by decide), if_pos (show wh = ((1 : Nat) : Int) from h7)])) ?_
        refine xB.run oX12_panel 3 (s := (60, [some (.ref 7168), some (.int (zI p)), some (.int (zI wh))], [.int (zI p), .ref 7173], [r0, r1, r2, r3, r4, r5, r6, zH s7 zL7 0, r8, r9])) rfl ?_
        obtain ⟨g8, H⟩ := zgd H
        refine zB.iald oX12_panel (g := 7) (p := 5) (N := 16) (i := p) rfl rfl (by decide) rfl rfl (by decide) g8 ?_
        obtain rfl := Option.some.inj H
        exact xB.ret oX12_panel (r1 := some (.int (zI (s7 5 p.toNat)))) rfl rfl rfl
      · have H := H.2 h7
        have H := zif H
        by_cases h9 : wh = 2
        · have H := H.1 h9
          refine xB.next oX12_panel (s := (62, [some (.ref 7168), some (.int (zI p)), some (.int (zI wh))], [], [r0, r1, r2, r3, r4, r5, r6, zH s7 zL7 0, r8, r9])) (xsw_at rfl (by rw [zsw g4 0 _ (by decide), if_neg (show ¬ wh = ((0 : Nat) : Int) from h5)]; rw [zsw g4 1 _ (by decide), if_neg (show ¬ wh = ((1 : Nat) : Int) from h7)]; rw [zsw g4 2 _ (by decide), if_pos (show wh = ((2 : Nat) : Int) from h9)])) ?_
          refine xB.run oX12_panel 3 (s := (67, [some (.ref 7168), some (.int (zI p)), some (.int (zI wh))], [.int (zI p), .ref 7174], [r0, r1, r2, r3, r4, r5, r6, zH s7 zL7 0, r8, r9])) rfl ?_
          obtain ⟨g10, H⟩ := zgd H
          refine zB.iald oX12_panel (g := 7) (p := 6) (N := 16) (i := p) rfl rfl (by decide) rfl rfl (by decide) g10 ?_
          obtain rfl := Option.some.inj H
          exact xB.ret oX12_panel (r1 := some (.int (zI (s7 6 p.toNat)))) rfl rfl rfl
        · have H := H.2 h9
          have H := zif H
          by_cases h11 : wh = 3
          · have H := H.1 h11
            refine xB.next oX12_panel (s := (69, [some (.ref 7168), some (.int (zI p)), some (.int (zI wh))], [], [r0, r1, r2, r3, r4, r5, r6, zH s7 zL7 0, r8, r9])) (xsw_at rfl (by rw [zsw g4 0 _ (by decide), if_neg (show ¬ wh = ((0 : Nat) : Int) from h5)]; rw [zsw g4 1 _ (by decide), if_neg (show ¬ wh = ((1 : Nat) : Int) from h7)]; rw [zsw g4 2 _ (by decide), if_neg (show ¬ wh = ((2 : Nat) : Int) from h9)]; rw [zsw g4 3 _ (by decide), if_pos (show wh = ((3 : Nat) : Int) from h11)])) ?_
            refine xB.run oX12_panel 2 (s := (71, [some (.ref 7168), some (.int (zI p)), some (.int (zI wh))], [.int (zI p), .ref 7168], [r0, r1, r2, r3, r4, r5, r6, zH s7 zL7 0, r8, r9])) rfl ?_
            obtain ⟨y12, e13, H⟩ := zbd H
            refine xB.call oX12_panel (M2 := MX12_above) rfl rfl ((t_X12_above r0 r1 r2 r3 r4 r5 r6 s7 r8 r9 p e13).deep (by decide : 0 ≤ 1)) ?_
            show xBody MX12_panel 2 74 [some (.ref 7168), some (.int (zI p)), some (.int (zI wh))] [.int (zI y12)] ([r0, r1, r2, r3, r4, r5, r6, zH s7 zL7 0, r8, r9]) _ _
            obtain rfl := Option.some.inj H
            exact xB.ret oX12_panel (r1 := some (.int (zI y12))) rfl rfl rfl
          · have H := H.2 h11
            have H := zif H
            by_cases h14 : wh = 4
            · have H := H.1 h14
              refine xB.next oX12_panel (s := (75, [some (.ref 7168), some (.int (zI p)), some (.int (zI wh))], [], [r0, r1, r2, r3, r4, r5, r6, zH s7 zL7 0, r8, r9])) (xsw_at rfl (by rw [zsw g4 0 _ (by decide), if_neg (show ¬ wh = ((0 : Nat) : Int) from h5)]; rw [zsw g4 1 _ (by decide), if_neg (show ¬ wh = ((1 : Nat) : Int) from h7)]; rw [zsw g4 2 _ (by decide), if_neg (show ¬ wh = ((2 : Nat) : Int) from h9)]; rw [zsw g4 3 _ (by decide), if_neg (show ¬ wh = ((3 : Nat) : Int) from h11)]; rw [zsw g4 4 _ (by decide), if_pos (show wh = ((4 : Nat) : Int) from h14)])) ?_
              refine xB.run oX12_panel 2 (s := (77, [some (.ref 7168), some (.int (zI p)), some (.int (zI wh))], [.int (zI p), .ref 7168], [r0, r1, r2, r3, r4, r5, r6, zH s7 zL7 0, r8, r9])) rfl ?_
              obtain ⟨y15, e16, H⟩ := zbd H
              refine xB.call oX12_panel (M2 := MX12_pushOf) rfl rfl ((t_X12_pushOf r0 r1 r2 r3 r4 r5 r6 s7 r8 r9 p e16).deep (by decide : 1 ≤ 1)) ?_
              show xBody MX12_panel 2 80 [some (.ref 7168), some (.int (zI p)), some (.int (zI wh))] [.int (zI y15)] ([r0, r1, r2, r3, r4, r5, r6, zH s7 zL7 0, r8, r9]) _ _
              obtain rfl := Option.some.inj H
              exact xB.ret oX12_panel (r1 := some (.int (zI y15))) rfl rfl rfl
            · have H := H.2 h14
              have H := zif H
              by_cases h17 : wh = 5
              · have H := H.1 h17
                refine xB.next oX12_panel (s := (81, [some (.ref 7168), some (.int (zI p)), some (.int (zI wh))], [], [r0, r1, r2, r3, r4, r5, r6, zH s7 zL7 0, r8, r9])) (xsw_at rfl (by rw [zsw g4 0 _ (by decide), if_neg (show ¬ wh = ((0 : Nat) : Int) from h5)]; rw [zsw g4 1 _ (by decide), if_neg (show ¬ wh = ((1 : Nat) : Int) from h7)]; rw [zsw g4 2 _ (by decide), if_neg (show ¬ wh = ((2 : Nat) : Int) from h9)]; rw [zsw g4 3 _ (by decide), if_neg (show ¬ wh = ((3 : Nat) : Int) from h11)]; rw [zsw g4 4 _ (by decide), if_neg (show ¬ wh = ((4 : Nat) : Int) from h14)]; rw [zsw g4 5 _ (by decide), if_pos (show wh = ((5 : Nat) : Int) from h17)])) ?_
                refine xB.run oX12_panel 2 (s := (83, [some (.ref 7168), some (.int (zI p)), some (.int (zI wh))], [.int (zI p), .ref 7168], [r0, r1, r2, r3, r4, r5, r6, zH s7 zL7 0, r8, r9])) rfl ?_
                obtain ⟨y18, e19, H⟩ := zbd H
                refine xB.call oX12_panel (M2 := MX12_lengthOf) rfl rfl ((t_X12_lengthOf r0 r1 r2 r3 r4 r5 r6 s7 r8 r9 p e19).deep (by decide : 1 ≤ 1)) ?_
                show xBody MX12_panel 2 86 [some (.ref 7168), some (.int (zI p)), some (.int (zI wh))] [.int (zI y18)] ([r0, r1, r2, r3, r4, r5, r6, zH s7 zL7 0, r8, r9]) _ _
                obtain rfl := Option.some.inj H
                exact xB.ret oX12_panel (r1 := some (.int (zI y18))) rfl rfl rfl
              · have H := H.2 h17
                refine xB.next oX12_panel (s := (87, [some (.ref 7168), some (.int (zI p)), some (.int (zI wh))], [], [r0, r1, r2, r3, r4, r5, r6, zH s7 zL7 0, r8, r9])) (xsw_at rfl (by rw [zsw g4 0 _ (by decide), if_neg (show ¬ wh = ((0 : Nat) : Int) from h5)]; rw [zsw g4 1 _ (by decide), if_neg (show ¬ wh = ((1 : Nat) : Int) from h7)]; rw [zsw g4 2 _ (by decide), if_neg (show ¬ wh = ((2 : Nat) : Int) from h9)]; rw [zsw g4 3 _ (by decide), if_neg (show ¬ wh = ((3 : Nat) : Int) from h11)]; rw [zsw g4 4 _ (by decide), if_neg (show ¬ wh = ((4 : Nat) : Int) from h14)]; rw [zsw g4 5 _ (by decide), if_neg (show ¬ wh = ((5 : Nat) : Int) from h17)]; rfl)) ?_
                refine xB.run oX12_panel 1 (s := (89, [some (.ref 7168), some (.int (zI p)), some (.int (zI wh))], [.int (zI (-2))], [r0, r1, r2, r3, r4, r5, r6, zH s7 zL7 0, r8, r9])) rfl ?_
                obtain rfl := Option.some.inj H
                exact xB.ret oX12_panel (r1 := some (.int (zI (-2)))) rfl rfl rfl
  · have H := H.2 h3
    refine xB.run oX12_panel 1 (s := (9, [some (.ref 7168), some (.int (zI p)), some (.int (zI wh))], [.int (zI (-1))], [r0, r1, r2, r3, r4, r5, r6, zH s7 zL7 0, r8, r9])) rfl ?_
    obtain rfl := Option.some.inj H
    exact xB.ret oX12_panel (r1 := some (.int (zI (-1)))) rfl rfl rfl
def d_X12_thrust (s7 : zZ) (p : Int) (wh : Int) : Option (Int) := (d_X12_isPanel s7 p).bind fun y1 => if (zr y1) then (if y1 = 0 then some (-9223372036854775808) else (if zr wh then ((d_X12_within wh 0 1).bind fun y4 => if (zr y4) then (if y4 ≠ 0 then ((d_X12_above s7 p).bind fun y7 => if zr y7 then (if (0 ≤ p ∧ p < 16) then (if zr (s7 4 p.toNat) then (if (0 ≤ p ∧ p < 16) then (if zr (s7 5 p.toNat) then ((d_X12_part (y7 * (s7 4 p.toNat)) (s7 5 p.toNat) wh).bind fun y9 => some y9) else none) else none) else none) else none) else none) else some (-9223372036854775808)) else none) else none)) else none
set_option maxRecDepth 20000 in
theorem t_X12_thrust (r0 : List va_E) (r1 : List va_E) (r2 : List va_E) (r3 : List va_E) (r4 : List va_E) (r5 : List va_E) (r6 : List va_E) (s7 : zZ) (r8 : List va_E) (r9 : List va_E) (p : Int) (wh : Int) {rr : Int} (H : d_X12_thrust s7 p wh = some rr) : xC MX12_thrust 3 [.ref 7168, .int (zI p), .int (zI wh)] ([r0, r1, r2, r3, r4, r5, r6, zH s7 zL7 0, r8, r9]) (some (.long (zJ rr))) ([r0, r1, r2, r3, r4, r5, r6, zH s7 zL7 0, r8, r9]) := by
  refine ⟨Nat.le_of_ble_eq_true rfl, ?_⟩
  show xBody MX12_thrust 3 0 [some (.ref 7168), some (.int (zI p)), some (.int (zI wh))] [] ([r0, r1, r2, r3, r4, r5, r6, zH s7 zL7 0, r8, r9]) _ _
  unfold d_X12_thrust at H
  refine xB.run oX12_thrust 2 (s := (2, [some (.ref 7168), some (.int (zI p)), some (.int (zI wh))], [.int (zI p), .ref 7168], [r0, r1, r2, r3, r4, r5, r6, zH s7 zL7 0, r8, r9])) rfl ?_
  obtain ⟨y1, e2, H⟩ := zbd H
  refine xB.call oX12_thrust (M2 := MX12_isPanel) rfl rfl ((t_X12_isPanel r0 r1 r2 r3 r4 r5 r6 s7 r8 r9 p e2).deep (by decide : 0 ≤ 2)) ?_
  show xBody MX12_thrust 3 5 [some (.ref 7168), some (.int (zI p)), some (.int (zI wh))] [.int (zI y1)] ([r0, r1, r2, r3, r4, r5, r6, zH s7 zL7 0, r8, r9]) _ _
  obtain ⟨g18, H⟩ := zgd H
  have H := zif H
  refine xB.brE oX12_thrust (P := y1 = 0) rfl (zc_eq (a := y1) (b := 0) ⟨g18, by decide⟩) (fun h3 => ?_) (fun h3 => ?_)
  · have H := H.1 h3
    refine xB.run oX12_thrust 1 (s := (21, [some (.ref 7168), some (.int (zI p)), some (.int (zI wh))], [.long (zJ (-9223372036854775808))], [r0, r1, r2, r3, r4, r5, r6, zH s7 zL7 0, r8, r9])) rfl ?_
    obtain rfl := Option.some.inj H
    exact xB.ret oX12_thrust (r1 := some (.long (zJ (-9223372036854775808)))) rfl rfl rfl
  · have H := H.2 h3
    refine xB.run oX12_thrust 1 (s := (9, [some (.ref 7168), some (.int (zI p)), some (.int (zI wh))], [.int (zI wh)], [r0, r1, r2, r3, r4, r5, r6, zH s7 zL7 0, r8, r9])) rfl ?_
    obtain ⟨g17, H⟩ := zgd H
    refine zB.opl oX12_thrust rfl (zi_i2l g17) ?_
    refine xB.run oX12_thrust 2 (s := (12, [some (.ref 7168), some (.int (zI p)), some (.int (zI wh))], [.long (zJ 1), .long (zJ 0), .long (zJ wh)], [r0, r1, r2, r3, r4, r5, r6, zH s7 zL7 0, r8, r9])) rfl ?_
    obtain ⟨y4, e5, H⟩ := zbd H
    refine xB.call oX12_thrust (M2 := MX12_within) rfl rfl ((t_X12_within r0 r1 r2 r3 r4 r5 r6 (zH s7 zL7 0) r8 r9 wh 0 1 e5).deep (by decide : 0 ≤ 2)) ?_
    show xBody MX12_thrust 3 15 [some (.ref 7168), some (.int (zI p)), some (.int (zI wh))] [.int (zI y4)] ([r0, r1, r2, r3, r4, r5, r6, zH s7 zL7 0, r8, r9]) _ _
    obtain ⟨g16, H⟩ := zgd H
    have H := zif H
    refine xB.brE oX12_thrust (P := y4 ≠ 0) rfl (zc_ne (a := y4) (b := 0) ⟨g16, by decide⟩) (fun h6 => ?_) (fun h6 => ?_)
    · have H := H.1 h6
      refine xB.run oX12_thrust 2 (s := (24, [some (.ref 7168), some (.int (zI p)), some (.int (zI wh))], [.int (zI p), .ref 7168], [r0, r1, r2, r3, r4, r5, r6, zH s7 zL7 0, r8, r9])) rfl ?_
      obtain ⟨y7, e8, H⟩ := zbd H
      refine xB.call oX12_thrust (M2 := MX12_above) rfl rfl ((t_X12_above r0 r1 r2 r3 r4 r5 r6 s7 r8 r9 p e8).deep (by decide : 0 ≤ 2)) ?_
      show xBody MX12_thrust 3 27 [some (.ref 7168), some (.int (zI p)), some (.int (zI wh))] [.int (zI y7)] ([r0, r1, r2, r3, r4, r5, r6, zH s7 zL7 0, r8, r9]) _ _
      obtain ⟨g15, H⟩ := zgd H
      refine zB.opl oX12_thrust rfl (zi_i2l g15) ?_
      refine xB.run oX12_thrust 3 (s := (33, [some (.ref 7168), some (.int (zI p)), some (.int (zI wh))], [.int (zI p), .ref 7172, .long (zJ y7)], [r0, r1, r2, r3, r4, r5, r6, zH s7 zL7 0, r8, r9])) rfl ?_
      obtain ⟨g14, H⟩ := zgd H
      refine zB.iald oX12_thrust (g := 7) (p := 4) (N := 16) (i := p) rfl rfl (by decide) rfl rfl (by decide) g14 ?_
      obtain ⟨g13, H⟩ := zgd H
      refine zB.opl oX12_thrust rfl (zi_i2l g13) ?_
      refine zB.opl oX12_thrust rfl (zj_mul y7 (s7 4 p.toNat)) ?_
      refine xB.run oX12_thrust 3 (s := (41, [some (.ref 7168), some (.int (zI p)), some (.int (zI wh))], [.int (zI p), .ref 7173, .long (zJ (y7 * (s7 4 p.toNat)))], [r0, r1, r2, r3, r4, r5, r6, zH s7 zL7 0, r8, r9])) rfl ?_
      obtain ⟨g12, H⟩ := zgd H
      refine zB.iald oX12_thrust (g := 7) (p := 5) (N := 16) (i := p) rfl rfl (by decide) rfl rfl (by decide) g12 ?_
      obtain ⟨g11, H⟩ := zgd H
      refine zB.opl oX12_thrust rfl (zi_i2l g11) ?_
      refine xB.run oX12_thrust 1 (s := (44, [some (.ref 7168), some (.int (zI p)), some (.int (zI wh))], [.int (zI wh), .long (zJ (s7 5 p.toNat)), .long (zJ (y7 * (s7 4 p.toNat)))], [r0, r1, r2, r3, r4, r5, r6, zH s7 zL7 0, r8, r9])) rfl ?_
      obtain ⟨y9, e10, H⟩ := zbd H
      refine xB.call oX12_thrust (M2 := MX12_part) rfl rfl ((t_X12_part r0 r1 r2 r3 r4 r5 r6 (zH s7 zL7 0) r8 r9 (y7 * (s7 4 p.toNat)) (s7 5 p.toNat) wh e10).deep (by decide : 2 ≤ 2)) ?_
      show xBody MX12_thrust 3 47 [some (.ref 7168), some (.int (zI p)), some (.int (zI wh))] [.long (zJ y9)] ([r0, r1, r2, r3, r4, r5, r6, zH s7 zL7 0, r8, r9]) _ _
      obtain rfl := Option.some.inj H
      exact xB.ret oX12_thrust (r1 := some (.long (zJ y9))) rfl rfl rfl
    · have H := H.2 h6
      refine xB.run oX12_thrust 1 (s := (21, [some (.ref 7168), some (.int (zI p)), some (.int (zI wh))], [.long (zJ (-9223372036854775808))], [r0, r1, r2, r3, r4, r5, r6, zH s7 zL7 0, r8, r9])) rfl ?_
      obtain rfl := Option.some.inj H
      exact xB.ret oX12_thrust (r1 := some (.long (zJ (-9223372036854775808)))) rfl rfl rfl
def d_X12_pull (s7 : zZ) (p : Int) (wh : Int) : Option (Int) := (d_X12_isPanel s7 p).bind fun y1 => if (zr y1) then (if y1 = 0 then some (-9223372036854775808) else (if zr wh then ((d_X12_within wh 0 1).bind fun y4 => if (zr y4) then (if y4 ≠ 0 then (if (zr p ∧ zr ((s7 0 5) - 1)) then (if p ≠ ((s7 0 5) - 1) then ((d_X12_above s7 p).bind fun y8 => if zr y8 then (if (0 ≤ p ∧ p < 16) then (if zr (s7 4 p.toNat) then (if (0 ≤ (p + 1) ∧ (p + 1) < 16) then (if zr (s7 5 (p + 1).toNat) then ((d_X12_above s7 (p + 1)).bind fun y10 => if zr y10 then (if (0 ≤ (p + 1) ∧ (p + 1) < 16) then (if zr (s7 4 (p + 1).toNat) then (if (0 ≤ p ∧ p < 16) then (if zr (s7 5 p.toNat) then (if (0 ≤ p ∧ p < 16) then (if zr (s7 5 p.toNat) then (if (0 ≤ (p + 1) ∧ (p + 1) < 16) then (if zr (s7 5 (p + 1).toNat) then ((d_X12_part (((y8 * (s7 4 p.toNat)) * (s7 5 (p + 1).toNat)) - ((y10 * (s7 4 (p + 1).toNat)) * (s7 5 p.toNat))) ((s7 5 p.toNat) * (s7 5 (p + 1).toNat)) wh).bind fun y12 => some y12) else none) else none) else none) else none) else none) else none) else none) else none) else none) else none) else none) else none) else none) else none) else ((d_X12_thrust s7 p wh).bind fun y28 => some y28)) else none) else some (-9223372036854775808)) else none) else none)) else none
set_option maxRecDepth 20000 in
theorem t_X12_pull (r0 : List va_E) (r1 : List va_E) (r2 : List va_E) (r3 : List va_E) (r4 : List va_E) (r5 : List va_E) (r6 : List va_E) (s7 : zZ) (r8 : List va_E) (r9 : List va_E) (p : Int) (wh : Int) {rr : Int} (H : d_X12_pull s7 p wh = some rr) : xC MX12_pull 4 [.ref 7168, .int (zI p), .int (zI wh)] ([r0, r1, r2, r3, r4, r5, r6, zH s7 zL7 0, r8, r9]) (some (.long (zJ rr))) ([r0, r1, r2, r3, r4, r5, r6, zH s7 zL7 0, r8, r9]) := by
  refine ⟨Nat.le_of_ble_eq_true rfl, ?_⟩
  show xBody MX12_pull 4 0 [some (.ref 7168), some (.int (zI p)), some (.int (zI wh)), none, none] [] ([r0, r1, r2, r3, r4, r5, r6, zH s7 zL7 0, r8, r9]) _ _
  unfold d_X12_pull at H
  refine xB.run oX12_pull 2 (s := (2, [some (.ref 7168), some (.int (zI p)), some (.int (zI wh)), none, none], [.int (zI p), .ref 7168], [r0, r1, r2, r3, r4, r5, r6, zH s7 zL7 0, r8, r9])) rfl ?_
  obtain ⟨y1, e2, H⟩ := zbd H
  refine xB.call oX12_pull (M2 := MX12_isPanel) rfl rfl ((t_X12_isPanel r0 r1 r2 r3 r4 r5 r6 s7 r8 r9 p e2).deep (by decide : 0 ≤ 3)) ?_
  show xBody MX12_pull 4 5 [some (.ref 7168), some (.int (zI p)), some (.int (zI wh)), none, none] [.int (zI y1)] ([r0, r1, r2, r3, r4, r5, r6, zH s7 zL7 0, r8, r9]) _ _
  obtain ⟨g33, H⟩ := zgd H
  have H := zif H
  refine xB.brE oX12_pull (P := y1 = 0) rfl (zc_eq (a := y1) (b := 0) ⟨g33, by decide⟩) (fun h3 => ?_) (fun h3 => ?_)
  · have H := H.1 h3
    refine xB.run oX12_pull 1 (s := (21, [some (.ref 7168), some (.int (zI p)), some (.int (zI wh)), none, none], [.long (zJ (-9223372036854775808))], [r0, r1, r2, r3, r4, r5, r6, zH s7 zL7 0, r8, r9])) rfl ?_
    obtain rfl := Option.some.inj H
    exact xB.ret oX12_pull (r1 := some (.long (zJ (-9223372036854775808)))) rfl rfl rfl
  · have H := H.2 h3
    refine xB.run oX12_pull 1 (s := (9, [some (.ref 7168), some (.int (zI p)), some (.int (zI wh)), none, none], [.int (zI wh)], [r0, r1, r2, r3, r4, r5, r6, zH s7 zL7 0, r8, r9])) rfl ?_
    obtain ⟨g32, H⟩ := zgd H
    refine zB.opl oX12_pull rfl (zi_i2l g32) ?_
    refine xB.run oX12_pull 2 (s := (12, [some (.ref 7168), some (.int (zI p)), some (.int (zI wh)), none, none], [.long (zJ 1), .long (zJ 0), .long (zJ wh)], [r0, r1, r2, r3, r4, r5, r6, zH s7 zL7 0, r8, r9])) rfl ?_
    obtain ⟨y4, e5, H⟩ := zbd H
    refine xB.call oX12_pull (M2 := MX12_within) rfl rfl ((t_X12_within r0 r1 r2 r3 r4 r5 r6 (zH s7 zL7 0) r8 r9 wh 0 1 e5).deep (by decide : 0 ≤ 3)) ?_
    show xBody MX12_pull 4 15 [some (.ref 7168), some (.int (zI p)), some (.int (zI wh)), none, none] [.int (zI y4)] ([r0, r1, r2, r3, r4, r5, r6, zH s7 zL7 0, r8, r9]) _ _
    obtain ⟨g31, H⟩ := zgd H
    have H := zif H
    refine xB.brE oX12_pull (P := y4 ≠ 0) rfl (zc_ne (a := y4) (b := 0) ⟨g31, by decide⟩) (fun h6 => ?_) (fun h6 => ?_)
    · have H := H.1 h6
      refine xB.run oX12_pull 4 (s := (28, [some (.ref 7168), some (.int (zI p)), some (.int (zI wh)), none, none], [.int (zI 1), .int (zI (s7 0 5)), .int (zI p)], [r0, r1, r2, r3, r4, r5, r6, zH s7 zL7 0, r8, r9])) rfl ?_
      refine zB.opi oX12_pull rfl (zi_sub (s7 0 5) 1) ?_
      obtain ⟨g30, H⟩ := zgd H
      have H := zif H
      refine xB.brE oX12_pull (P := p ≠ ((s7 0 5) - 1)) rfl (zc_ne (a := p) (b := (s7 0 5) - 1) g30) (fun h7 => ?_) (fun h7 => ?_)
      · have H := H.1 h7
        refine xB.run oX12_pull 2 (s := (41, [some (.ref 7168), some (.int (zI p)), some (.int (zI wh)), none, none], [.int (zI p), .ref 7168], [r0, r1, r2, r3, r4, r5, r6, zH s7 zL7 0, r8, r9])) rfl ?_
        obtain ⟨y8, e9, H⟩ := zbd H
        refine xB.call oX12_pull (M2 := MX12_above) rfl rfl ((t_X12_above r0 r1 r2 r3 r4 r5 r6 s7 r8 r9 p e9).deep (by decide : 0 ≤ 3)) ?_
        show xBody MX12_pull 4 44 [some (.ref 7168), some (.int (zI p)), some (.int (zI wh)), none, none] [.int (zI y8)] ([r0, r1, r2, r3, r4, r5, r6, zH s7 zL7 0, r8, r9]) _ _
        obtain ⟨g27, H⟩ := zgd H
        refine zB.opl oX12_pull rfl (zi_i2l g27) ?_
        refine xB.run oX12_pull 3 (s := (50, [some (.ref 7168), some (.int (zI p)), some (.int (zI wh)), none, none], [.int (zI p), .ref 7172, .long (zJ y8)], [r0, r1, r2, r3, r4, r5, r6, zH s7 zL7 0, r8, r9])) rfl ?_
        obtain ⟨g26, H⟩ := zgd H
        refine zB.iald oX12_pull (g := 7) (p := 4) (N := 16) (i := p) rfl rfl (by decide) rfl rfl (by decide) g26 ?_
        obtain ⟨g25, H⟩ := zgd H
        refine zB.opl oX12_pull rfl (zi_i2l g25) ?_
        refine zB.opl oX12_pull rfl (zj_mul y8 (s7 4 p.toNat)) ?_
        refine xB.run oX12_pull 4 (s := (59, [some (.ref 7168), some (.int (zI p)), some (.int (zI wh)), none, none], [.int (zI 1), .int (zI p), .ref 7173, .long (zJ (y8 * (s7 4 p.toNat)))], [r0, r1, r2, r3, r4, r5, r6, zH s7 zL7 0, r8, r9])) rfl ?_
        refine zB.opi oX12_pull rfl (zi_add p 1) ?_
        obtain ⟨g24, H⟩ := zgd H
        refine zB.iald oX12_pull (g := 7) (p := 5) (N := 16) (i := p + 1) rfl rfl (by decide) rfl rfl (by decide) g24 ?_
        obtain ⟨g23, H⟩ := zgd H
        refine zB.opl oX12_pull rfl (zi_i2l g23) ?_
        refine zB.opl oX12_pull rfl (zj_mul (y8 * (s7 4 p.toNat)) (s7 5 (p + 1).toNat)) ?_
        refine xB.run oX12_pull 3 (s := (66, [some (.ref 7168), some (.int (zI p)), some (.int (zI wh)), none, none], [.int (zI 1), .int (zI p), .ref 7168, .long (zJ ((y8 * (s7 4 p.toNat)) * (s7 5 (p + 1).toNat)))], [r0, r1, r2, r3, r4, r5, r6, zH s7 zL7 0, r8, r9])) rfl ?_
        refine zB.opi oX12_pull rfl (zi_add p 1) ?_
        obtain ⟨y10, e11, H⟩ := zbd H
        refine xB.call oX12_pull (M2 := MX12_above) rfl rfl ((t_X12_above r0 r1 r2 r3 r4 r5 r6 s7 r8 r9 (p + 1) e11).deep (by decide : 0 ≤ 3)) ?_
        show xBody MX12_pull 4 70 [some (.ref 7168), some (.int (zI p)), some (.int (zI wh)), none, none] [.int (zI y10), .long (zJ ((y8 * (s7 4 p.toNat)) * (s7 5 (p + 1).toNat)))] ([r0, r1, r2, r3, r4, r5, r6, zH s7 zL7 0, r8, r9]) _ _
        obtain ⟨g22, H⟩ := zgd H
        refine zB.opl oX12_pull rfl (zi_i2l g22) ?_
        refine xB.run oX12_pull 4 (s := (77, [some (.ref 7168), some (.int (zI p)), some (.int (zI wh)), none, none], [.int (zI 1), .int (zI p), .ref 7172, .long (zJ y10), .long (zJ ((y8 * (s7 4 p.toNat)) * (s7 5 (p + 1).toNat)))], [r0, r1, r2, r3, r4, r5, r6, zH s7 zL7 0, r8, r9])) rfl ?_
        refine zB.opi oX12_pull rfl (zi_add p 1) ?_
        obtain ⟨g21, H⟩ := zgd H
        refine zB.iald oX12_pull (g := 7) (p := 4) (N := 16) (i := p + 1) rfl rfl (by decide) rfl rfl (by decide) g21 ?_
        obtain ⟨g20, H⟩ := zgd H
        refine zB.opl oX12_pull rfl (zi_i2l g20) ?_
        refine zB.opl oX12_pull rfl (zj_mul y10 (s7 4 (p + 1).toNat)) ?_
        refine xB.run oX12_pull 3 (s := (86, [some (.ref 7168), some (.int (zI p)), some (.int (zI wh)), none, none], [.int (zI p), .ref 7173, .long (zJ (y10 * (s7 4 (p + 1).toNat))), .long (zJ ((y8 * (s7 4 p.toNat)) * (s7 5 (p + 1).toNat)))], [r0, r1, r2, r3, r4, r5, r6, zH s7 zL7 0, r8, r9])) rfl ?_
        obtain ⟨g19, H⟩ := zgd H
        refine zB.iald oX12_pull (g := 7) (p := 5) (N := 16) (i := p) rfl rfl (by decide) rfl rfl (by decide) g19 ?_
        obtain ⟨g18, H⟩ := zgd H
        refine zB.opl oX12_pull rfl (zi_i2l g18) ?_
        refine zB.opl oX12_pull rfl (zj_mul (y10 * (s7 4 (p + 1).toNat)) (s7 5 p.toNat)) ?_
        refine zB.opl oX12_pull rfl (zj_sub ((y8 * (s7 4 p.toNat)) * (s7 5 (p + 1).toNat)) ((y10 * (s7 4 (p + 1).toNat)) * (s7 5 p.toNat))) ?_
        refine xB.run oX12_pull 5 (s := (97, [some (.ref 7168), some (.int (zI p)), some (.int (zI wh)), some (.long (zJ (((y8 * (s7 4 p.toNat)) * (s7 5 (p + 1).toNat)) - ((y10 * (s7 4 (p + 1).toNat)) * (s7 5 p.toNat))))), none], [.int (zI p), .ref 7173, .long (zJ (((y8 * (s7 4 p.toNat)) * (s7 5 (p + 1).toNat)) - ((y10 * (s7 4 (p + 1).toNat)) * (s7 5 p.toNat))))], [r0, r1, r2, r3, r4, r5, r6, zH s7 zL7 0, r8, r9])) rfl ?_
        obtain ⟨g17, H⟩ := zgd H
        refine zB.iald oX12_pull (g := 7) (p := 5) (N := 16) (i := p) rfl rfl (by decide) rfl rfl (by decide) g17 ?_
        obtain ⟨g16, H⟩ := zgd H
        refine zB.opl oX12_pull rfl (zi_i2l g16) ?_
        refine xB.run oX12_pull 4 (s := (105, [some (.ref 7168), some (.int (zI p)), some (.int (zI wh)), some (.long (zJ (((y8 * (s7 4 p.toNat)) * (s7 5 (p + 1).toNat)) - ((y10 * (s7 4 (p + 1).toNat)) * (s7 5 p.toNat))))), none], [.int (zI 1), .int (zI p), .ref 7173, .long (zJ (s7 5 p.toNat)), .long (zJ (((y8 * (s7 4 p.toNat)) * (s7 5 (p + 1).toNat)) - ((y10 * (s7 4 (p + 1).toNat)) * (s7 5 p.toNat))))], [r0, r1, r2, r3, r4, r5, r6, zH s7 zL7 0, r8, r9])) rfl ?_
        refine zB.opi oX12_pull rfl (zi_add p 1) ?_
        obtain ⟨g15, H⟩ := zgd H
        refine zB.iald oX12_pull (g := 7) (p := 5) (N := 16) (i := p + 1) rfl rfl (by decide) rfl rfl (by decide) g15 ?_
        obtain ⟨g14, H⟩ := zgd H
        refine zB.opl oX12_pull rfl (zi_i2l g14) ?_
        refine zB.opl oX12_pull rfl (zj_mul (s7 5 p.toNat) (s7 5 (p + 1).toNat)) ?_
        refine xB.run oX12_pull 1 (s := (110, [some (.ref 7168), some (.int (zI p)), some (.int (zI wh)), some (.long (zJ (((y8 * (s7 4 p.toNat)) * (s7 5 (p + 1).toNat)) - ((y10 * (s7 4 (p + 1).toNat)) * (s7 5 p.toNat))))), none], [.int (zI wh), .long (zJ ((s7 5 p.toNat) * (s7 5 (p + 1).toNat))), .long (zJ (((y8 * (s7 4 p.toNat)) * (s7 5 (p + 1).toNat)) - ((y10 * (s7 4 (p + 1).toNat)) * (s7 5 p.toNat))))], [r0, r1, r2, r3, r4, r5, r6, zH s7 zL7 0, r8, r9])) rfl ?_
        obtain ⟨y12, e13, H⟩ := zbd H
        refine xB.call oX12_pull (M2 := MX12_part) rfl rfl ((t_X12_part r0 r1 r2 r3 r4 r5 r6 (zH s7 zL7 0) r8 r9 (((y8 * (s7 4 p.toNat)) * (s7 5 (p + 1).toNat)) - ((y10 * (s7 4 (p + 1).toNat)) * (s7 5 p.toNat))) ((s7 5 p.toNat) * (s7 5 (p + 1).toNat)) wh e13).deep (by decide : 2 ≤ 3)) ?_
        show xBody MX12_pull 4 113 [some (.ref 7168), some (.int (zI p)), some (.int (zI wh)), some (.long (zJ (((y8 * (s7 4 p.toNat)) * (s7 5 (p + 1).toNat)) - ((y10 * (s7 4 (p + 1).toNat)) * (s7 5 p.toNat))))), none] [.long (zJ y12)] ([r0, r1, r2, r3, r4, r5, r6, zH s7 zL7 0, r8, r9]) _ _
        obtain rfl := Option.some.inj H
        exact xB.ret oX12_pull (r1 := some (.long (zJ y12))) rfl rfl rfl
      · have H := H.2 h7
        refine xB.run oX12_pull 3 (s := (35, [some (.ref 7168), some (.int (zI p)), some (.int (zI wh)), none, none], [.int (zI wh), .int (zI p), .ref 7168], [r0, r1, r2, r3, r4, r5, r6, zH s7 zL7 0, r8, r9])) rfl ?_
        obtain ⟨y28, e29, H⟩ := zbd H
        refine xB.call oX12_pull (M2 := MX12_thrust) rfl rfl ((t_X12_thrust r0 r1 r2 r3 r4 r5 r6 s7 r8 r9 p wh e29).deep (by decide : 3 ≤ 3)) ?_
        show xBody MX12_pull 4 38 [some (.ref 7168), some (.int (zI p)), some (.int (zI wh)), none, none] [.long (zJ y28)] ([r0, r1, r2, r3, r4, r5, r6, zH s7 zL7 0, r8, r9]) _ _
        obtain rfl := Option.some.inj H
        exact xB.ret oX12_pull (r1 := some (.long (zJ y28))) rfl rfl rfl
    · have H := H.2 h6
      refine xB.run oX12_pull 1 (s := (21, [some (.ref 7168), some (.int (zI p)), some (.int (zI wh)), none, none], [.long (zJ (-9223372036854775808))], [r0, r1, r2, r3, r4, r5, r6, zH s7 zL7 0, r8, r9])) rfl ?_
      obtain rfl := Option.some.inj H
      exact xB.ret oX12_pull (r1 := some (.long (zJ (-9223372036854775808)))) rfl rfl rfl
