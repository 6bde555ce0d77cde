/-! 39.zm6 -/
def d_X12_sheet_57 (k : Int) (lane : Int) (n : Int) : Nat → Int → zZ → Option (Int × zZ)
  | 0, _, _ => none
  | uN + 1, i, s7 => if (zr i) then (if (60 : Int) ≤ i then some (i, s7) else (if (0 ≤ ((60 * k) + i) ∧ ((60 * k) + i) < 240) then (d_X12_sheet_57 k lane n uN (i + 1) (upz s7 3 ((60 * k) + i).toNat 0)) else none)) else none
def d_X12_sheet (s7 : zZ) (k : Int) (lane : Int) (n : Int) : Option (Int × zZ) := (d_X12_isSheet k).bind fun y1 => if (zr y1) then (if y1 ≠ 0 then ((d_X12_isLane lane).bind fun y4 => if (zr y4) then (if y4 = 0 then some ((-2), upz s7 0 0 0) else (if (zr n) then (if n ≤ 60 then (if (zr n) then (if (0 : Int) ≤ n then (if (0 ≤ k ∧ k < 4) then (if (0 ≤ k ∧ k < 4) then ((d_X12_sheet_57 k lane n zF 0 (upz (upz (upz s7 0 0 0) 1 k.toNat lane) 2 k.toNat n)).bind fun y12 => some (1, y12.2)) else none) else none) else ((d_X12_fails (upz s7 0 0 0) 4).bind fun y16 => some (y16.1, y16.2))) else none) else some ((-2), upz s7 0 0 0)) else none)) else none) else some ((-1), upz s7 0 0 0)) else none
set_option maxRecDepth 20000 in
theorem l_X12_sheet_57 (r0 : List va_E) (r1 : List va_E) (r2 : List va_E) (r3 : List va_E) (r4 : List va_E) (r5 : List va_E) (r6 : List va_E) (r8 : List va_E) (r9 : List va_E) (k : Int) (lane : Int) (n : Int) {r : Option Value} {hp1 : xH} : ∀ (uN : Nat) (i : Int) (s7 : zZ) {uX : Int × zZ}, d_X12_sheet_57 k lane n uN i s7 = some uX → (xBody MX12_sheet 2 83 [some (.ref 7168), some (.int (zI k)), some (.int (zI lane)), some (.int (zI n)), some (.int (zI uX.1))] [] ([r0, r1, r2, r3, r4, r5, r6, zH uX.2 zL7 0, r8, r9]) r hp1) → xBody MX12_sheet 2 57 [some (.ref 7168), some (.int (zI k)), some (.int (zI lane)), some (.int (zI n)), some (.int (zI i))] [] ([r0, r1, r2, r3, r4, r5, r6, zH s7 zL7 0, r8, r9]) r hp1 := by
  intro uN
  induction uN with
  | zero => intro i s7 uX H K; cases H
  | succ uN ih =>
    intro i s7 uX H K
    unfold d_X12_sheet_57 at H
    refine xB.run oX12_sheet 2 (s := (61, [some (.ref 7168), some (.int (zI k)), some (.int (zI lane)), some (.int (zI n)), some (.int (zI i))], [.int (zI 60), .int (zI i)], [r0, r1, r2, r3, r4, r5, r6, zH s7 zL7 0, r8, r9])) rfl ?_
    obtain ⟨g11, H⟩ := zgd H
    have H := zif H
    refine xB.brE oX12_sheet (P := (60 : Int) ≤ i) rfl (zc_ge (a := i) (b := 60) ⟨g11, by decide⟩) (fun h9 => ?_) (fun h9 => ?_)
    · have H := H.1 h9
      obtain rfl := Option.some.inj H
      exact K
    · have H := H.2 h9
      refine xB.run oX12_sheet 4 (s := (71, [some (.ref 7168), some (.int (zI k)), some (.int (zI lane)), some (.int (zI n)), some (.int (zI i))], [.int (zI k), .int (zI 60), .ref 7171], [r0, r1, r2, r3, r4, r5, r6, zH s7 zL7 0, r8, r9])) rfl ?_
      refine zB.opi oX12_sheet rfl (zi_mul 60 k) ?_
      refine xB.run oX12_sheet 1 (s := (74, [some (.ref 7168), some (.int (zI k)), some (.int (zI lane)), some (.int (zI n)), some (.int (zI i))], [.int (zI i), .int (zI (60 * k)), .ref 7171], [r0, r1, r2, r3, r4, r5, r6, zH s7 zL7 0, r8, r9])) rfl ?_
      refine zB.opi oX12_sheet rfl (zi_add (60 * k) i) ?_
      refine xB.run oX12_sheet 1 (s := (76, [some (.ref 7168), some (.int (zI k)), some (.int (zI lane)), some (.int (zI n)), some (.int (zI i))], [.int (zI 0), .int (zI ((60 * k) + i)), .ref 7171], [r0, r1, r2, r3, r4, r5, r6, zH s7 zL7 0, r8, r9])) rfl ?_
      obtain ⟨g10, H⟩ := zgd H
      refine zB.iast oX12_sheet (g := 7) (p := 3) (N := 240) (i := (60 * k) + i) (hp1 := [r0, r1, r2, r3, r4, r5, r6, zH (upz s7 3 ((60 * k) + i).toNat 0) zL7 0, r8, r9]) rfl rfl (by decide) (by decide) rfl rfl (by decide) g10 rfl ?_
      refine zB.inc oX12_sheet rfl (lv2 := [some (.ref 7168), some (.int (zI k)), some (.int (zI lane)), some (.int (zI n)), some (.int (zI (i + 1)))]) (zi_inc (a := 0) (zi_addp1 i) _ rfl) ?_
      refine xB.run oX12_sheet 1 (s := (57, [some (.ref 7168), some (.int (zI k)), some (.int (zI lane)), some (.int (zI n)), some (.int (zI (i + 1)))], [], [r0, r1, r2, r3, r4, r5, r6, zH (upz s7 3 ((60 * k) + i).toNat 0) zL7 0, r8, r9])) rfl ?_
      exact ih (i + 1) (upz s7 3 ((60 * k) + i).toNat 0) H K
set_option maxRecDepth 20000 in
theorem t_X12_sheet (r0 : List va_E) (r1 : List va_E) (r2 : List va_E) (r3 : List va_E) (r4 : List va_E) (r5 : List va_E) (r6 : List va_E) (s7 : zZ) (r8 : List va_E) (r9 : List va_E) (k : Int) (lane : Int) (n : Int) {rr : Int × zZ} (H : d_X12_sheet s7 k lane n = some rr) : xC MX12_sheet 2 [.ref 7168, .int (zI k), .int (zI lane), .int (zI n)] ([r0, r1, r2, r3, r4, r5, r6, zH s7 zL7 0, r8, r9]) (some (.int (zI rr.1))) ([r0, r1, r2, r3, r4, r5, r6, zH rr.2 zL7 0, r8, r9]) := by
  refine ⟨Nat.le_of_ble_eq_true rfl, ?_⟩
  show xBody MX12_sheet 2 0 [some (.ref 7168), some (.int (zI k)), some (.int (zI lane)), some (.int (zI n)), none] [] ([r0, r1, r2, r3, r4, r5, r6, zH s7 zL7 0, r8, r9]) _ _
  unfold d_X12_sheet at H
  refine xB.run oX12_sheet 2 (s := (2, [some (.ref 7168), some (.int (zI k)), some (.int (zI lane)), some (.int (zI n)), none], [.int (zI 0), .ref 7168], [r0, r1, r2, r3, r4, r5, r6, zH s7 zL7 0, r8, r9])) rfl ?_
  refine zB.putI oX12_sheet (g := 7) (p := 0) (c := 12) (k := 0) (y := 0) (hp1 := [r0, r1, r2, r3, r4, r5, r6, zH (upz s7 0 0 0) zL7 0, r8, r9]) rfl rfl (by decide) (by decide) rfl rfl rfl rfl rfl rfl ?_
  refine xB.run oX12_sheet 1 (s := (6, [some (.ref 7168), some (.int (zI k)), some (.int (zI lane)), some (.int (zI n)), none], [.int (zI k)], [r0, r1, r2, r3, r4, r5, r6, zH (upz s7 0 0 0) zL7 0, r8, r9])) rfl ?_
  obtain ⟨y1, e2, H⟩ := zbd H
  refine xB.call oX12_sheet (M2 := MX12_isSheet) rfl rfl ((t_X12_isSheet r0 r1 r2 r3 r4 r5 r6 (zH (upz s7 0 0 0) zL7 0) r8 r9 k e2).deep (by decide : 1 ≤ 1)) ?_
  show xBody MX12_sheet 2 9 [some (.ref 7168), some (.int (zI k)), some (.int (zI lane)), some (.int (zI n)), none] [.int (zI y1)] ([r0, r1, r2, r3, r4, r5, r6, zH (upz s7 0 0 0) zL7 0, r8, r9]) _ _
  obtain ⟨g21, H⟩ := zgd H
  have H := zif H
  refine xB.brE oX12_sheet (P := y1 ≠ 0) rfl (zc_ne (a := y1) (b := 0) ⟨g21, by decide⟩) (fun h3 => ?_) (fun h3 => ?_)
  · have H := H.1 h3
    refine xB.run oX12_sheet 1 (s := (15, [some (.ref 7168), some (.int (zI k)), some (.int (zI lane)), some (.int (zI n)), none], [.int (zI lane)], [r0, r1, r2, r3, r4, r5, r6, zH (upz s7 0 0 0) zL7 0, r8, r9])) rfl ?_
    obtain ⟨y4, e5, H⟩ := zbd H
    refine xB.call oX12_sheet (M2 := MX12_isLane) rfl rfl ((t_X12_isLane r0 r1 r2 r3 r4 r5 r6 (zH (upz s7 0 0 0) zL7 0) r8 r9 lane e5).deep (by decide : 1 ≤ 1)) ?_
    show xBody MX12_sheet 2 18 [some (.ref 7168), some (.int (zI k)), some (.int (zI lane)), some (.int (zI n)), none] [.int (zI y4)] ([r0, r1, r2, r3, r4, r5, r6, zH (upz s7 0 0 0) zL7 0, r8, r9]) _ _
    obtain ⟨g20, H⟩ := zgd H
    have H := zif H
    refine xB.brE oX12_sheet (P := y4 = 0) rfl (zc_eq (a := y4) (b := 0) ⟨g20, by decide⟩) (fun h6 => ?_) (fun h6 => ?_)
    · have H := H.1 h6
      refine xB.run oX12_sheet 1 (s := (29, [some (.ref 7168), some (.int (zI k)), some (.int (zI lane)), some (.int (zI n)), none], [.int (zI (-2))], [r0, r1, r2, r3, r4, r5, r6, zH (upz s7 0 0 0) zL7 0, r8, r9])) rfl ?_
      obtain rfl := Option.some.inj H
      exact xB.ret oX12_sheet (r1 := some (.int (zI (-2)))) rfl rfl rfl
    · have H := H.2 h6
      refine xB.run oX12_sheet 2 (s := (24, [some (.ref 7168), some (.int (zI k)), some (.int (zI lane)), some (.int (zI n)), none], [.int (zI 60), .int (zI n)], [r0, r1, r2, r3, r4, r5, r6, zH (upz s7 0 0 0) zL7 0, r8, r9])) rfl ?_
      obtain ⟨g19, H⟩ := zgd H
      have H := zif H
      refine xB.brE oX12_sheet (P := n ≤ 60) rfl (zc_le (a := n) (b := 60) ⟨g19, by decide⟩) (fun h7 => ?_) (fun h7 => ?_)
      · have H := H.1 h7
        refine xB.run oX12_sheet 1 (s := (31, [some (.ref 7168), some (.int (zI k)), some (.int (zI lane)), some (.int (zI n)), none], [.int (zI n)], [r0, r1, r2, r3, r4, r5, r6, zH (upz s7 0 0 0) zL7 0, r8, r9])) rfl ?_
        obtain ⟨g18, H⟩ := zgd H
        have H := zif H
        refine xB.brE oX12_sheet (P := (0 : Int) ≤ n) rfl (zc_ge (a := n) (b := 0) ⟨g18, by decide⟩) (fun h8 => ?_) (fun h8 => ?_)
        · have H := H.1 h8
          refine xB.run oX12_sheet 4 (s := (46, [some (.ref 7168), some (.int (zI k)), some (.int (zI lane)), some (.int (zI n)), none], [.int (zI lane), .int (zI k), .ref 7169], [r0, r1, r2, r3, r4, r5, r6, zH (upz s7 0 0 0) zL7 0, r8, r9])) rfl ?_
          obtain ⟨g15, H⟩ := zgd H
          refine zB.iast oX12_sheet (g := 7) (p := 1) (N := 4) (i := k) (hp1 := [r0, r1, r2, r3, r4, r5, r6, zH (upz (upz s7 0 0 0) 1 k.toNat lane) zL7 0, r8, r9]) rfl rfl (by decide) (by decide) rfl rfl (by decide) g15 rfl ?_
          refine xB.run oX12_sheet 4 (s := (53, [some (.ref 7168), some (.int (zI k)), some (.int (zI lane)), some (.int (zI n)), none], [.int (zI n), .int (zI k), .ref 7170], [r0, r1, r2, r3, r4, r5, r6, zH (upz (upz s7 0 0 0) 1 k.toNat lane) zL7 0, r8, r9])) rfl ?_
          obtain ⟨g14, H⟩ := zgd H
          refine zB.iast oX12_sheet (g := 7) (p := 2) (N := 4) (i := k) (hp1 := [r0, r1, r2, r3, r4, r5, r6, zH (upz (upz (upz s7 0 0 0) 1 k.toNat lane) 2 k.toNat n) zL7 0, r8, r9]) rfl rfl (by decide) (by decide) rfl rfl (by decide) g14 rfl ?_
          refine xB.run oX12_sheet 2 (s := (57, [some (.ref 7168), some (.int (zI k)), some (.int (zI lane)), some (.int (zI n)), some (.int (zI 0))], [], [r0, r1, r2, r3, r4, r5, r6, zH (upz (upz (upz s7 0 0 0) 1 k.toNat lane) 2 k.toNat n) zL7 0, r8, r9])) rfl ?_
          obtain ⟨y12, e13, H⟩ := zbd H
          refine l_X12_sheet_57 r0 r1 r2 r3 r4 r5 r6 r8 r9 k lane n _ 0 (upz (upz (upz s7 0 0 0) 1 k.toNat lane) 2 k.toNat n) e13 ?_
          refine xB.run oX12_sheet 1 (s := (84, [some (.ref 7168), some (.int (zI k)), some (.int (zI lane)), some (.int (zI n)), some (.int (zI y12.1))], [.int (zI 1)], [r0, r1, r2, r3, r4, r5, r6, zH y12.2 zL7 0, r8, r9])) rfl ?_
          obtain rfl := Option.some.inj H
          exact xB.ret oX12_sheet (r1 := some (.int (zI 1))) rfl rfl rfl
        · have H := H.2 h8
          refine xB.run oX12_sheet 2 (s := (36, [some (.ref 7168), some (.int (zI k)), some (.int (zI lane)), some (.int (zI n)), none], [.int (zI 4), .ref 7168], [r0, r1, r2, r3, r4, r5, r6, zH (upz s7 0 0 0) zL7 0, r8, r9])) rfl ?_
          obtain ⟨y16, e17, H⟩ := zbd H
          refine xB.call oX12_sheet (M2 := MX12_fails) rfl rfl ((t_X12_fails r0 r1 r2 r3 r4 r5 r6 (upz s7 0 0 0) r8 r9 4 e17).deep (by decide : 0 ≤ 1)) ?_
          show xBody MX12_sheet 2 39 [some (.ref 7168), some (.int (zI k)), some (.int (zI lane)), some (.int (zI n)), none] [.int (zI y16.1)] ([r0, r1, r2, r3, r4, r5, r6, zH y16.2 zL7 0, r8, r9]) _ _
          obtain rfl := Option.some.inj H
          exact xB.ret oX12_sheet (r1 := some (.int (zI y16.1))) rfl rfl rfl
      · have H := H.2 h7
        refine xB.run oX12_sheet 1 (s := (29, [some (.ref 7168), some (.int (zI k)), some (.int (zI lane)), some (.int (zI n)), none], [.int (zI (-2))], [r0, r1, r2, r3, r4, r5, r6, zH (upz s7 0 0 0) zL7 0, r8, r9])) rfl ?_
        obtain rfl := Option.some.inj H
        exact xB.ret oX12_sheet (r1 := some (.int (zI (-2)))) rfl rfl rfl
  · have H := H.2 h3
    refine xB.run oX12_sheet 1 (s := (13, [some (.ref 7168), some (.int (zI k)), some (.int (zI lane)), some (.int (zI n)), none], [.int (zI (-1))], [r0, r1, r2, r3, r4, r5, r6, zH (upz s7 0 0 0) zL7 0, r8, r9])) rfl ?_
    obtain rfl := Option.some.inj H
    exact xB.ret oX12_sheet (r1 := some (.int (zI (-1)))) rfl rfl rfl
def d_X12_lose (s7 : zZ) (k : Int) : Option (Int × zZ) := (d_X12_isSheet k).bind fun y1 => if (zr y1) then (if y1 ≠ 0 then (if (0 ≤ k ∧ k < 4) then (if (zr (s7 1 k.toNat)) then (if (s7 1 k.toNat) ≠ (-9) then (if (0 ≤ k ∧ k < 4) then some (1, upz s7 1 k.toNat (-9)) else none) else (if (0 ≤ k ∧ k < 4) then some (0, upz s7 1 k.toNat (-9)) else none)) else none) else none) else some ((-1), s7)) else none
set_option maxRecDepth 20000 in
theorem t_X12_lose (r0 : List va_E) (r1 : List va_E) (r2 : List va_E) (r3 : List va_E) (r4 : List va_E) (r5 : List va_E) (r6 : List va_E) (s7 : zZ) (r8 : List va_E) (r9 : List va_E) (k : Int) {rr : Int × zZ} (H : d_X12_lose s7 k = some rr) : xC MX12_lose 2 [.ref 7168, .int (zI k)] ([r0, r1, r2, r3, r4, r5, r6, zH s7 zL7 0, r8, r9]) (some (.int (zI rr.1))) ([r0, r1, r2, r3, r4, r5, r6, zH rr.2 zL7 0, r8, r9]) := by
  refine ⟨Nat.le_of_ble_eq_true rfl, ?_⟩
  show xBody MX12_lose 2 0 [some (.ref 7168), some (.int (zI k)), none] [] ([r0, r1, r2, r3, r4, r5, r6, zH s7 zL7 0, r8, r9]) _ _
  unfold d_X12_lose at H
  refine xB.run oX12_lose 1 (s := (1, [some (.ref 7168), some (.int (zI k)), none], [.int (zI k)], [r0, r1, r2, r3, r4, r5, r6, zH s7 zL7 0, r8, r9])) rfl ?_
  obtain ⟨y1, e2, H⟩ := zbd H
  refine xB.call oX12_lose (M2 := MX12_isSheet) rfl rfl ((t_X12_isSheet r0 r1 r2 r3 r4 r5 r6 (zH s7 zL7 0) r8 r9 k e2).deep (by decide : 1 ≤ 1)) ?_
  show xBody MX12_lose 2 4 [some (.ref 7168), some (.int (zI k)), none] [.int (zI y1)] ([r0, r1, r2, r3, r4, r5, r6, zH s7 zL7 0, r8, r9]) _ _
  obtain ⟨g9, H⟩ := zgd H
  have H := zif H
  refine xB.brE oX12_lose (P := y1 ≠ 0) rfl (zc_ne (a := y1) (b := 0) ⟨g9, by decide⟩) (fun h3 => ?_) (fun h3 => ?_)
  · have H := H.1 h3
    refine xB.run oX12_lose 3 (s := (14, [some (.ref 7168), some (.int (zI k)), none], [.int (zI k), .ref 7169], [r0, r1, r2, r3, r4, r5, r6, zH s7 zL7 0, r8, r9])) rfl ?_
    obtain ⟨g8, H⟩ := zgd H
    refine zB.iald oX12_lose (g := 7) (p := 1) (N := 4) (i := k) rfl rfl (by decide) rfl rfl (by decide) g8 ?_
    refine xB.run oX12_lose 1 (s := (17, [some (.ref 7168), some (.int (zI k)), none], [.int (zI (-9)), .int (zI (s7 1 k.toNat))], [r0, r1, r2, r3, r4, r5, r6, zH s7 zL7 0, r8, r9])) rfl ?_
    obtain ⟨g7, H⟩ := zgd H
    have H := zif H
    refine xB.brE oX12_lose (P := (s7 1 k.toNat) ≠ (-9)) rfl (zc_ne (a := s7 1 k.toNat) (b := (-9)) ⟨g7, by decide⟩) (fun h4 => ?_) (fun h4 => ?_)
    · have H := H.1 h4
      refine xB.run oX12_lose 6 (s := (33, [some (.ref 7168), some (.int (zI k)), some (.int (zI 1))], [.int (zI (-9)), .int (zI k), .ref 7169], [r0, r1, r2, r3, r4, r5, r6, zH s7 zL7 0, r8, r9])) rfl ?_
      obtain ⟨g5, H⟩ := zgd H
      refine zB.iast oX12_lose (g := 7) (p := 1) (N := 4) (i := k) (hp1 := [r0, r1, r2, r3, r4, r5, r6, zH (upz s7 1 k.toNat (-9)) zL7 0, r8, r9]) rfl rfl (by decide) (by decide) rfl rfl (by decide) g5 rfl ?_
      refine xB.run oX12_lose 1 (s := (35, [some (.ref 7168), some (.int (zI k)), some (.int (zI 1))], [.int (zI 1)], [r0, r1, r2, r3, r4, r5, r6, zH (upz s7 1 k.toNat (-9)) zL7 0, r8, r9])) rfl ?_
      obtain rfl := Option.some.inj H
      exact xB.ret oX12_lose (r1 := some (.int (zI 1))) rfl rfl rfl
    · have H := H.2 h4
      refine xB.run oX12_lose 7 (s := (33, [some (.ref 7168), some (.int (zI k)), some (.int (zI 0))], [.int (zI (-9)), .int (zI k), .ref 7169], [r0, r1, r2, r3, r4, r5, r6, zH s7 zL7 0, r8, r9])) rfl ?_
      obtain ⟨g6, H⟩ := zgd H
      refine zB.iast oX12_lose (g := 7) (p := 1) (N := 4) (i := k) (hp1 := [r0, r1, r2, r3, r4, r5, r6, zH (upz s7 1 k.toNat (-9)) zL7 0, r8, r9]) rfl rfl (by decide) (by decide) rfl rfl (by decide) g6 rfl ?_
      refine xB.run oX12_lose 1 (s := (35, [some (.ref 7168), some (.int (zI k)), some (.int (zI 0))], [.int (zI 0)], [r0, r1, r2, r3, r4, r5, r6, zH (upz s7 1 k.toNat (-9)) zL7 0, r8, r9])) rfl ?_
      obtain rfl := Option.some.inj H
      exact xB.ret oX12_lose (r1 := some (.int (zI 0))) rfl rfl rfl
  · have H := H.2 h3
    refine xB.run oX12_lose 1 (s := (8, [some (.ref 7168), some (.int (zI k)), none], [.int (zI (-1))], [r0, r1, r2, r3, r4, r5, r6, zH s7 zL7 0, r8, r9])) rfl ?_
    obtain rfl := Option.some.inj H
    exact xB.ret oX12_lose (r1 := some (.int (zI (-1)))) rfl rfl rfl
def d_X12_put (s7 : zZ) (k : Int) (i : Int) (v : Int) : Option (Int × zZ) := (d_X12_isSheet k).bind fun y1 => if (zr y1) then (if y1 ≠ 0 then (if (0 ≤ k ∧ k < 4) then (if (zr ((upz s7 0 0 0) 1 k.toNat)) then (if ((upz s7 0 0 0) 1 k.toNat) ≠ (-9) then (if zr i then (if (0 ≤ k ∧ k < 4) then (if zr (((upz s7 0 0 0) 2 k.toNat) - 1) then ((d_X12_within i 0 (((upz s7 0 0 0) 2 k.toNat) - 1)).bind fun y5 => if (zr y5) then (if y5 ≠ 0 then (if (0 ≤ k ∧ k < 4) then (if (zr ((upz s7 0 0 0) 1 k.toNat)) then (if ((upz s7 0 0 0) 1 k.toNat) ≠ 0 then (if (0 ≤ k ∧ k < 4) then (if (zr ((upz s7 0 0 0) 1 k.toNat)) then (if ((upz s7 0 0 0) 1 k.toNat) ≠ 1 then (if (0 ≤ ((60 * k) + i) ∧ ((60 * k) + i) < 240) then some (1, upz (upz s7 0 0 0) 3 ((60 * k) + i).toNat v) else none) else (if (0 ≤ ((60 * k) + i) ∧ ((60 * k) + i) < 240) then some (1, upz (upz s7 0 0 0) 3 ((60 * k) + i).toNat (v.bmod 65536)) else none)) else none) else none) else (if (0 ≤ ((60 * k) + i) ∧ ((60 * k) + i) < 240) then some (1, upz (upz s7 0 0 0) 3 ((60 * k) + i).toNat (v.bmod 256)) else none)) else none) else none) else ((d_X12_fails (upz s7 0 0 0) 3).bind fun y17 => some (y17.1, y17.2))) else none) else none) else none) else none) else ((d_X12_fails (upz s7 0 0 0) 1).bind fun y23 => some (y23.1, y23.2))) else none) else none) else some ((-1), upz s7 0 0 0)) else none
set_option maxRecDepth 20000 in
theorem t_X12_put (r0 : List va_E) (r1 : List va_E) (r2 : List va_E) (r3 : List va_E) (r4 : List va_E) (r5 : List va_E) (r6 : List va_E) (s7 : zZ) (r8 : List va_E) (r9 : List va_E) (k : Int) (i : Int) (v : Int) {rr : Int × zZ} (H : d_X12_put s7 k i v = some rr) : xC MX12_put 2 [.ref 7168, .int (zI k), .int (zI i), .int (zI v)] ([r0, r1, r2, r3, r4, r5, r6, zH s7 zL7 0, r8, r9]) (some (.int (zI rr.1))) ([r0, r1, r2, r3, r4, r5, r6, zH rr.2 zL7 0, r8, r9]) := by
  refine ⟨Nat.le_of_ble_eq_true rfl, ?_⟩
  show xBody MX12_put 2 0 [some (.ref 7168), some (.int (zI k)), some (.int (zI i)), some (.int (zI v))] [] ([r0, r1, r2, r3, r4, r5, r6, zH s7 zL7 0, r8, r9]) _ _
  unfold d_X12_put at H
  refine xB.run oX12_put 2 (s := (2, [some (.ref 7168), some (.int (zI k)), some (.int (zI i)), some (.int (zI v))], [.int (zI 0), .ref 7168], [r0, r1, r2, r3, r4, r5, r6, zH s7 zL7 0, r8, r9])) rfl ?_
  refine zB.putI oX12_put (g := 7) (p := 0) (c := 12) (k := 0) (y := 0) (hp1 := [r0, r1, r2, r3, r4, r5, r6, zH (upz s7 0 0 0) zL7 0, r8, r9]) rfl rfl (by decide) (by decide) rfl rfl rfl rfl rfl rfl ?_
  refine xB.run oX12_put 1 (s := (6, [some (.ref 7168), some (.int (zI k)), some (.int (zI i)), some (.int (zI v))], [.int (zI k)], [r0, r1, r2, r3, r4, r5, r6, zH (upz s7 0 0 0) zL7 0, r8, r9])) rfl ?_
  obtain ⟨y1, e2, H⟩ := zbd H
  refine xB.call oX12_put (M2 := MX12_isSheet) rfl rfl ((t_X12_isSheet r0 r1 r2 r3 r4 r5 r6 (zH (upz s7 0 0 0) zL7 0) r8 r9 k e2).deep (by decide : 1 ≤ 1)) ?_
  show xBody MX12_put 2 9 [some (.ref 7168), some (.int (zI k)), some (.int (zI i)), some (.int (zI v))] [.int (zI y1)] ([r0, r1, r2, r3, r4, r5, r6, zH (upz s7 0 0 0) zL7 0, r8, r9]) _ _
  obtain ⟨g27, H⟩ := zgd H
  have H := zif H
  refine xB.brE oX12_put (P := y1 ≠ 0) rfl (zc_ne (a := y1) (b := 0) ⟨g27, by decide⟩) (fun h3 => ?_) (fun h3 => ?_)
  · have H := H.1 h3
    refine xB.run oX12_put 3 (s := (19, [some (.ref 7168), some (.int (zI k)), some (.int (zI i)), some (.int (zI v))], [.int (zI k), .ref 7169], [r0, r1, r2, r3, r4, r5, r6, zH (upz s7 0 0 0) zL7 0, r8, r9])) rfl ?_
    obtain ⟨g26, H⟩ := zgd H
    refine zB.iald oX12_put (g := 7) (p := 1) (N := 4) (i := k) rfl rfl (by decide) rfl rfl (by decide) g26 ?_
    refine xB.run oX12_put 1 (s := (22, [some (.ref 7168), some (.int (zI k)), some (.int (zI i)), some (.int (zI v))], [.int (zI (-9)), .int (zI ((upz s7 0 0 0) 1 k.toNat))], [r0, r1, r2, r3, r4, r5, r6, zH (upz s7 0 0 0) zL7 0, r8, r9])) rfl ?_
    obtain ⟨g25, H⟩ := zgd H
    have H := zif H
    refine xB.brE oX12_put (P := ((upz s7 0 0 0) 1 k.toNat) ≠ (-9)) rfl (zc_ne (a := (upz s7 0 0 0) 1 k.toNat) (b := (-9)) ⟨g25, by decide⟩) (fun h4 => ?_) (fun h4 => ?_)
    · have H := H.1 h4
      refine xB.run oX12_put 1 (s := (32, [some (.ref 7168), some (.int (zI k)), some (.int (zI i)), some (.int (zI v))], [.int (zI i)], [r0, r1, r2, r3, r4, r5, r6, zH (upz s7 0 0 0) zL7 0, r8, r9])) rfl ?_
      obtain ⟨g22, H⟩ := zgd H
      refine zB.opl oX12_put rfl (zi_i2l g22) ?_
      refine xB.run oX12_put 4 (s := (39, [some (.ref 7168), some (.int (zI k)), some (.int (zI i)), some (.int (zI v))], [.int (zI k), .ref 7170, .long (zJ 0), .long (zJ i)], [r0, r1, r2, r3, r4, r5, r6, zH (upz s7 0 0 0) zL7 0, r8, r9])) rfl ?_
      obtain ⟨g21, H⟩ := zgd H
      refine zB.iald oX12_put (g := 7) (p := 2) (N := 4) (i := k) rfl rfl (by decide) rfl rfl (by decide) g21 ?_
      refine xB.run oX12_put 1 (s := (41, [some (.ref 7168), some (.int (zI k)), some (.int (zI i)), some (.int (zI v))], [.int (zI 1), .int (zI ((upz s7 0 0 0) 2 k.toNat)), .long (zJ 0), .long (zJ i)], [r0, r1, r2, r3, r4, r5, r6, zH (upz s7 0 0 0) zL7 0, r8, r9])) rfl ?_
      refine zB.opi oX12_put rfl (zi_sub ((upz s7 0 0 0) 2 k.toNat) 1) ?_
      obtain ⟨g20, H⟩ := zgd H
      refine zB.opl oX12_put rfl (zi_i2l g20) ?_
      obtain ⟨y5, e6, H⟩ := zbd H
      refine xB.call oX12_put (M2 := MX12_within) rfl rfl ((t_X12_within r0 r1 r2 r3 r4 r5 r6 (zH (upz s7 0 0 0) zL7 0) r8 r9 i 0 (((upz s7 0 0 0) 2 k.toNat) - 1) e6).deep (by decide : 0 ≤ 1)) ?_
      show xBody MX12_put 2 46 [some (.ref 7168), some (.int (zI k)), some (.int (zI i)), some (.int (zI v))] [.int (zI y5)] ([r0, r1, r2, r3, r4, r5, r6, zH (upz s7 0 0 0) zL7 0, r8, r9]) _ _
      obtain ⟨g19, H⟩ := zgd H
      have H := zif H
      refine xB.brE oX12_put (P := y5 ≠ 0) rfl (zc_ne (a := y5) (b := 0) ⟨g19, by decide⟩) (fun h7 => ?_) (fun h7 => ?_)
      · have H := H.1 h7
        refine xB.run oX12_put 4 (s := (62, [some (.ref 7168), some (.int (zI k)), some (.int (zI i)), some (.int (zI v))], [.int (zI k), .int (zI 60), .ref 7171], [r0, r1, r2, r3, r4, r5, r6, zH (upz s7 0 0 0) zL7 0, r8, r9])) rfl ?_
        refine zB.opi oX12_put rfl (zi_mul 60 k) ?_
        refine xB.run oX12_put 1 (s := (64, [some (.ref 7168), some (.int (zI k)), some (.int (zI i)), some (.int (zI v))], [.int (zI i), .int (zI (60 * k)), .ref 7171], [r0, r1, r2, r3, r4, r5, r6, zH (upz s7 0 0 0) zL7 0, r8, r9])) rfl ?_
        refine zB.opi oX12_put rfl (zi_add (60 * k) i) ?_
        refine xB.run oX12_put 3 (s := (70, [some (.ref 7168), some (.int (zI k)), some (.int (zI i)), some (.int (zI v))], [.int (zI k), .ref 7169, .int (zI ((60 * k) + i)), .ref 7171], [r0, r1, r2, r3, r4, r5, r6, zH (upz s7 0 0 0) zL7 0, r8, r9])) rfl ?_
        obtain ⟨g16, H⟩ := zgd H
        refine zB.iald oX12_put (g := 7) (p := 1) (N := 4) (i := k) rfl rfl (by decide) rfl rfl (by decide) g16 ?_
        obtain ⟨g15, H⟩ := zgd H
        have H := zif H
        refine xB.brE oX12_put (P := ((upz s7 0 0 0) 1 k.toNat) ≠ 0) rfl (zc_ne (a := (upz s7 0 0 0) 1 k.toNat) (b := 0) ⟨g15, by decide⟩) (fun h8 => ?_) (fun h8 => ?_)
        · have H := H.1 h8
          refine xB.run oX12_put 3 (s := (84, [some (.ref 7168), some (.int (zI k)), some (.int (zI i)), some (.int (zI v))], [.int (zI k), .ref 7169, .int (zI ((60 * k) + i)), .ref 7171], [r0, r1, r2, r3, r4, r5, r6, zH (upz s7 0 0 0) zL7 0, r8, r9])) rfl ?_
          obtain ⟨g13, H⟩ := zgd H
          refine zB.iald oX12_put (g := 7) (p := 1) (N := 4) (i := k) rfl rfl (by decide) rfl rfl (by decide) g13 ?_
          refine xB.run oX12_put 1 (s := (86, [some (.ref 7168), some (.int (zI k)), some (.int (zI i)), some (.int (zI v))], [.int (zI 1), .int (zI ((upz s7 0 0 0) 1 k.toNat)), .int (zI ((60 * k) + i)), .ref 7171], [r0, r1, r2, r3, r4, r5, r6, zH (upz s7 0 0 0) zL7 0, r8, r9])) rfl ?_
          obtain ⟨g12, H⟩ := zgd H
          have H := zif H
          refine xB.brE oX12_put (P := ((upz s7 0 0 0) 1 k.toNat) ≠ 1) rfl (zc_ne (a := (upz s7 0 0 0) 1 k.toNat) (b := 1) ⟨g12, by decide⟩) (fun h9 => ?_) (fun h9 => ?_)
          · have H := H.1 h9
            refine xB.run oX12_put 1 (s := (95, [some (.ref 7168), some (.int (zI k)), some (.int (zI i)), some (.int (zI v))], [.int (zI v), .int (zI ((60 * k) + i)), .ref 7171], [r0, r1, r2, r3, r4, r5, r6, zH (upz s7 0 0 0) zL7 0, r8, r9])) rfl ?_
            obtain ⟨g10, H⟩ := zgd H
            refine zB.iast oX12_put (g := 7) (p := 3) (N := 240) (i := (60 * k) + i) (hp1 := [r0, r1, r2, r3, r4, r5, r6, zH (upz (upz s7 0 0 0) 3 ((60 * k) + i).toNat v) zL7 0, r8, r9]) rfl rfl (by decide) (by decide) rfl rfl (by decide) g10 rfl ?_
            refine xB.run oX12_put 1 (s := (97, [some (.ref 7168), some (.int (zI k)), some (.int (zI i)), some (.int (zI v))], [.int (zI 1)], [r0, r1, r2, r3, r4, r5, r6, zH (upz (upz s7 0 0 0) 3 ((60 * k) + i).toNat v) zL7 0, r8, r9])) rfl ?_
            obtain rfl := Option.some.inj H
            exact xB.ret oX12_put (r1 := some (.int (zI 1))) rfl rfl rfl
          · have H := H.2 h9
            refine xB.run oX12_put 1 (s := (90, [some (.ref 7168), some (.int (zI k)), some (.int (zI i)), some (.int (zI v))], [.int (zI v), .int (zI ((60 * k) + i)), .ref 7171], [r0, r1, r2, r3, r4, r5, r6, zH (upz s7 0 0 0) zL7 0, r8, r9])) rfl ?_
            refine zB.opi oX12_put rfl (zi_i2s v) ?_
            refine xB.run oX12_put 1 (s := (95, [some (.ref 7168), some (.int (zI k)), some (.int (zI i)), some (.int (zI v))], [.int (zI (v.bmod 65536)), .int (zI ((60 * k) + i)), .ref 7171], [r0, r1, r2, r3, r4, r5, r6, zH (upz s7 0 0 0) zL7 0, r8, r9])) rfl ?_
            obtain ⟨g11, H⟩ := zgd H
            refine zB.iast oX12_put (g := 7) (p := 3) (N := 240) (i := (60 * k) + i) (hp1 := [r0, r1, r2, r3, r4, r5, r6, zH (upz (upz s7 0 0 0) 3 ((60 * k) + i).toNat (v.bmod 65536)) zL7 0, r8, r9]) rfl rfl (by decide) (by decide) rfl rfl (by decide) g11 rfl ?_
            refine xB.run oX12_put 1 (s := (97, [some (.ref 7168), some (.int (zI k)), some (.int (zI i)), some (.int (zI v))], [.int (zI 1)], [r0, r1, r2, r3, r4, r5, r6, zH (upz (upz s7 0 0 0) 3 ((60 * k) + i).toNat (v.bmod 65536)) zL7 0, r8, r9])) rfl ?_
            obtain rfl := Option.some.inj H
            exact xB.ret oX12_put (r1 := some (.int (zI 1))) rfl rfl rfl
        · have H := H.2 h8
          refine xB.run oX12_put 1 (s := (75, [some (.ref 7168), some (.int (zI k)), some (.int (zI i)), some (.int (zI v))], [.int (zI v), .int (zI ((60 * k) + i)), .ref 7171], [r0, r1, r2, r3, r4, r5, r6, zH (upz s7 0 0 0) zL7 0, r8, r9])) rfl ?_
          refine zB.opi oX12_put rfl (zi_i2b v) ?_
          refine xB.run oX12_put 1 (s := (95, [some (.ref 7168), some (.int (zI k)), some (.int (zI i)), some (.int (zI v))], [.int (zI (v.bmod 256)), .int (zI ((60 * k) + i)), .ref 7171], [r0, r1, r2, r3, r4, r5, r6, zH (upz s7 0 0 0) zL7 0, r8, r9])) rfl ?_
          obtain ⟨g14, H⟩ := zgd H
          refine zB.iast oX12_put (g := 7) (p := 3) (N := 240) (i := (60 * k) + i) (hp1 := [r0, r1, r2, r3, r4, r5, r6, zH (upz (upz s7 0 0 0) 3 ((60 * k) + i).toNat (v.bmod 256)) zL7 0, r8, r9]) rfl rfl (by decide) (by decide) rfl rfl (by decide) g14 rfl ?_
          refine xB.run oX12_put 1 (s := (97, [some (.ref 7168), some (.int (zI k)), some (.int (zI i)), some (.int (zI v))], [.int (zI 1)], [r0, r1, r2, r3, r4, r5, r6, zH (upz (upz s7 0 0 0) 3 ((60 * k) + i).toNat (v.bmod 256)) zL7 0, r8, r9])) rfl ?_
          obtain rfl := Option.some.inj H
          exact xB.ret oX12_put (r1 := some (.int (zI 1))) rfl rfl rfl
      · have H := H.2 h7
        refine xB.run oX12_put 2 (s := (51, [some (.ref 7168), some (.int (zI k)), some (.int (zI i)), some (.int (zI v))], [.int (zI 3), .ref 7168], [r0, r1, r2, r3, r4, r5, r6, zH (upz s7 0 0 0) zL7 0, r8, r9])) rfl ?_
        obtain ⟨y17, e18, H⟩ := zbd H
        refine xB.call oX12_put (M2 := MX12_fails) rfl rfl ((t_X12_fails r0 r1 r2 r3 r4 r5 r6 (upz s7 0 0 0) r8 r9 3 e18).deep (by decide : 0 ≤ 1)) ?_
        show xBody MX12_put 2 54 [some (.ref 7168), some (.int (zI k)), some (.int (zI i)), some (.int (zI v))] [.int (zI y17.1)] ([r0, r1, r2, r3, r4, r5, r6, zH y17.2 zL7 0, r8, r9]) _ _
        obtain rfl := Option.some.inj H
        exact xB.ret oX12_put (r1 := some (.int (zI y17.1))) rfl rfl rfl
    · have H := H.2 h4
      refine xB.run oX12_put 2 (s := (27, [some (.ref 7168), some (.int (zI k)), some (.int (zI i)), some (.int (zI v))], [.int (zI 1), .ref 7168], [r0, r1, r2, r3, r4, r5, r6, zH (upz s7 0 0 0) zL7 0, r8, r9])) rfl ?_
      obtain ⟨y23, e24, H⟩ := zbd H
      refine xB.call oX12_put (M2 := MX12_fails) rfl rfl ((t_X12_fails r0 r1 r2 r3 r4 r5 r6 (upz s7 0 0 0) r8 r9 1 e24).deep (by decide : 0 ≤ 1)) ?_
      show xBody MX12_put 2 30 [some (.ref 7168), some (.int (zI k)), some (.int (zI i)), some (.int (zI v))] [.int (zI y23.1)] ([r0, r1, r2, r3, r4, r5, r6, zH y23.2 zL7 0, r8, r9]) _ _
      obtain rfl := Option.some.inj H
      exact xB.ret oX12_put (r1 := some (.int (zI y23.1))) rfl rfl rfl
  · have H := H.2 h3
    refine xB.run oX12_put 1 (s := (13, [some (.ref 7168), some (.int (zI k)), some (.int (zI i)), some (.int (zI v))], [.int (zI (-1))], [r0, r1, r2, r3, r4, r5, r6, zH (upz s7 0 0 0) zL7 0, r8, r9])) rfl ?_
    obtain rfl := Option.some.inj H
    exact xB.ret oX12_put (r1 := some (.int (zI (-1)))) rfl rfl rfl
def d_X12_cell (s7 : zZ) (k : Int) (i : Int) (lane : Int) : Option (Int × zZ) := (d_X12_isSheet k).bind fun y1 => if (zr y1) then (if y1 = 0 then some ((-9223372036854775808), upz s7 0 0 0) else ((d_X12_isLane lane).bind fun y4 => if (zr y4) then (if y4 ≠ 0 then (if (0 ≤ k ∧ k < 4) then (if (zr ((upz s7 0 0 0) 1 k.toNat)) then (if ((upz s7 0 0 0) 1 k.toNat) = (-9) then (if (0 ≤ k ∧ k < 4) then (if (zr ((upz s7 0 0 0) 1 k.toNat)) then (if ((upz s7 0 0 0) 1 k.toNat) ≠ (-9) then (if zr i then (if (0 ≤ k ∧ k < 4) then (if zr (((upz s7 0 0 0) 2 k.toNat) - 1) then ((d_X12_within i 0 (((upz s7 0 0 0) 2 k.toNat) - 1)).bind fun y9 => if (zr y9) then (if y9 ≠ 0 then (if (0 ≤ ((60 * k) + i) ∧ ((60 * k) + i) < 240) then (if zr ((upz s7 0 0 0) 3 ((60 * k) + i).toNat) then some ((upz s7 0 0 0) 3 ((60 * k) + i).toNat, upz s7 0 0 0) else none) else none) else ((d_X12_lost (upz s7 0 0 0) 3).bind fun y14 => some (y14.1, y14.2))) else none) else none) else none) else none) else ((d_X12_lost (upz s7 0 0 0) 1).bind fun y20 => some (y20.1, y20.2))) else none) else none) else (if (0 ≤ k ∧ k < 4) then (if (zr ((upz s7 0 0 0) 1 k.toNat) ∧ zr lane) then (if ((upz s7 0 0 0) 1 k.toNat) = lane then (if (0 ≤ k ∧ k < 4) then (if (zr ((upz s7 0 0 0) 1 k.toNat)) then (if ((upz s7 0 0 0) 1 k.toNat) ≠ (-9) then (if zr i then (if (0 ≤ k ∧ k < 4) then (if zr (((upz s7 0 0 0) 2 k.toNat) - 1) then ((d_X12_within i 0 (((upz s7 0 0 0) 2 k.toNat) - 1)).bind fun y26 => if (zr y26) then (if y26 ≠ 0 then (if (0 ≤ ((60 * k) + i) ∧ ((60 * k) + i) < 240) then (if zr ((upz s7 0 0 0) 3 ((60 * k) + i).toNat) then some ((upz s7 0 0 0) 3 ((60 * k) + i).toNat, upz s7 0 0 0) else none) else none) else ((d_X12_lost (upz s7 0 0 0) 3).bind fun y31 => some (y31.1, y31.2))) else none) else none) else none) else none) else ((d_X12_lost (upz s7 0 0 0) 1).bind fun y37 => some (y37.1, y37.2))) else none) else none) else ((d_X12_lost (upz s7 0 0 0) 2).bind fun y41 => some (y41.1, y41.2))) else none) else none)) else none) else none) else some ((-9223372036854775808), upz s7 0 0 0)) else none)) else none
set_option maxRecDepth 20000 in
theorem t_X12_cell (r0 : List va_E) (r1 : List va_E) (r2 : List va_E) (r3 : List va_E) (r4 : List va_E) (r5 : List va_E) (r6 : List va_E) (s7 : zZ) (r8 : List va_E) (r9 : List va_E) (k : Int) (i : Int) (lane : Int) {rr : Int × zZ} (H : d_X12_cell s7 k i lane = some rr) : xC MX12_cell 2 [.ref 7168, .int (zI k), .int (zI i), .int (zI lane)] ([r0, r1, r2, r3, r4, r5, r6, zH s7 zL7 0, r8, r9]) (some (.long (zJ rr.1))) ([r0, r1, r2, r3, r4, r5, r6, zH rr.2 zL7 0, r8, r9]) := by
  refine ⟨Nat.le_of_ble_eq_true rfl, ?_⟩
  show xBody MX12_cell 2 0 [some (.ref 7168), some (.int (zI k)), some (.int (zI i)), some (.int (zI lane))] [] ([r0, r1, r2, r3, r4, r5, r6, zH s7 zL7 0, r8, r9]) _ _
  unfold d_X12_cell at H
  refine xB.run oX12_cell 2 (s := (2, [some (.ref 7168), some (.int (zI k)), some (.int (zI i)), some (.int (zI lane))], [.int (zI 0), .ref 7168], [r0, r1, r2, r3, r4, r5, r6, zH s7 zL7 0, r8, r9])) rfl ?_
  refine zB.putI oX12_cell (g := 7) (p := 0) (c := 12) (k := 0) (y := 0) (hp1 := [r0, r1, r2, r3, r4, r5, r6, zH (upz s7 0 0 0) zL7 0, r8, r9]) rfl rfl (by decide) (by decide) rfl rfl rfl rfl rfl rfl ?_
  refine xB.run oX12_cell 1 (s := (6, [some (.ref 7168), some (.int (zI k)), some (.int (zI i)), some (.int (zI lane))], [.int (zI k)], [r0, r1, r2, r3, r4, r5, r6, zH (upz s7 0 0 0) zL7 0, r8, r9])) rfl ?_
  obtain ⟨y1, e2, H⟩ := zbd H
  refine xB.call oX12_cell (M2 := MX12_isSheet) rfl rfl ((t_X12_isSheet r0 r1 r2 r3 r4 r5 r6 (zH (upz s7 0 0 0) zL7 0) r8 r9 k e2).deep (by decide : 1 ≤ 1)) ?_
  show xBody MX12_cell 2 9 [some (.ref 7168), some (.int (zI k)), some (.int (zI i)), some (.int (zI lane))] [.int (zI y1)] ([r0, r1, r2, r3, r4, r5, r6, zH (upz s7 0 0 0) zL7 0, r8, r9]) _ _
  obtain ⟨g48, H⟩ := zgd H
  have H := zif H
  refine xB.brE oX12_cell (P := y1 = 0) rfl (zc_eq (a := y1) (b := 0) ⟨g48, by decide⟩) (fun h3 => ?_) (fun h3 => ?_)
  · have H := H.1 h3
    refine xB.run oX12_cell 1 (s := (22, [some (.ref 7168), some (.int (zI k)), some (.int (zI i)), some (.int (zI lane))], [.long (zJ (-9223372036854775808))], [r0, r1, r2, r3, r4, r5, r6, zH (upz s7 0 0 0) zL7 0, r8, r9])) rfl ?_
    obtain rfl := Option.some.inj H
    exact xB.ret oX12_cell (r1 := some (.long (zJ (-9223372036854775808)))) rfl rfl rfl
  · have H := H.2 h3
    refine xB.run oX12_cell 1 (s := (13, [some (.ref 7168), some (.int (zI k)), some (.int (zI i)), some (.int (zI lane))], [.int (zI lane)], [r0, r1, r2, r3, r4, r5, r6, zH (upz s7 0 0 0) zL7 0, r8, r9])) rfl ?_
    obtain ⟨y4, e5, H⟩ := zbd H
    refine xB.call oX12_cell (M2 := MX12_isLane) rfl rfl ((t_X12_isLane r0 r1 r2 r3 r4 r5 r6 (zH (upz s7 0 0 0) zL7 0) r8 r9 lane e5).deep (by decide : 1 ≤ 1)) ?_
    show xBody MX12_cell 2 16 [some (.ref 7168), some (.int (zI k)), some (.int (zI i)), some (.int (zI lane))] [.int (zI y4)] ([r0, r1, r2, r3, r4, r5, r6, zH (upz s7 0 0 0) zL7 0, r8, r9]) _ _
    obtain ⟨g47, H⟩ := zgd H
    have H := zif H
    refine xB.brE oX12_cell (P := y4 ≠ 0) rfl (zc_ne (a := y4) (b := 0) ⟨g47, by decide⟩) (fun h6 => ?_) (fun h6 => ?_)
    · have H := H.1 h6
      refine xB.run oX12_cell 3 (s := (28, [some (.ref 7168), some (.int (zI k)), some (.int (zI i)), some (.int (zI lane))], [.int (zI k), .ref 7169], [r0, r1, r2, r3, r4, r5, r6, zH (upz s7 0 0 0) zL7 0, r8, r9])) rfl ?_
      obtain ⟨g46, H⟩ := zgd H
      refine zB.iald oX12_cell (g := 7) (p := 1) (N := 4) (i := k) rfl rfl (by decide) rfl rfl (by decide) g46 ?_
      refine xB.run oX12_cell 1 (s := (31, [some (.ref 7168), some (.int (zI k)), some (.int (zI i)), some (.int (zI lane))], [.int (zI (-9)), .int (zI ((upz s7 0 0 0) 1 k.toNat))], [r0, r1, r2, r3, r4, r5, r6, zH (upz s7 0 0 0) zL7 0, r8, r9])) rfl ?_
      obtain ⟨g45, H⟩ := zgd H
      have H := zif H
      refine xB.brE oX12_cell (P := ((upz s7 0 0 0) 1 k.toNat) = (-9)) rfl (zc_eq (a := (upz s7 0 0 0) 1 k.toNat) (b := (-9)) ⟨g45, by decide⟩) (fun h7 => ?_) (fun h7 => ?_)
      · have H := H.1 h7
        refine xB.run oX12_cell 3 (s := (55, [some (.ref 7168), some (.int (zI k)), some (.int (zI i)), some (.int (zI lane))], [.int (zI k), .ref 7169], [r0, r1, r2, r3, r4, r5, r6, zH (upz s7 0 0 0) zL7 0, r8, r9])) rfl ?_
        obtain ⟨g23, H⟩ := zgd H
        refine zB.iald oX12_cell (g := 7) (p := 1) (N := 4) (i := k) rfl rfl (by decide) rfl rfl (by decide) g23 ?_
        refine xB.run oX12_cell 1 (s := (58, [some (.ref 7168), some (.int (zI k)), some (.int (zI i)), some (.int (zI lane))], [.int (zI (-9)), .int (zI ((upz s7 0 0 0) 1 k.toNat))], [r0, r1, r2, r3, r4, r5, r6, zH (upz s7 0 0 0) zL7 0, r8, r9])) rfl ?_
        obtain ⟨g22, H⟩ := zgd H
        have H := zif H
        refine xB.brE oX12_cell (P := ((upz s7 0 0 0) 1 k.toNat) ≠ (-9)) rfl (zc_ne (a := (upz s7 0 0 0) 1 k.toNat) (b := (-9)) ⟨g22, by decide⟩) (fun h8 => ?_) (fun h8 => ?_)
        · have H := H.1 h8
          refine xB.run oX12_cell 1 (s := (68, [some (.ref 7168), some (.int (zI k)), some (.int (zI i)), some (.int (zI lane))], [.int (zI i)], [r0, r1, r2, r3, r4, r5, r6, zH (upz s7 0 0 0) zL7 0, r8, r9])) rfl ?_
          obtain ⟨g19, H⟩ := zgd H
          refine zB.opl oX12_cell rfl (zi_i2l g19) ?_
          refine xB.run oX12_cell 4 (s := (75, [some (.ref 7168), some (.int (zI k)), some (.int (zI i)), some (.int (zI lane))], [.int (zI k), .ref 7170, .long (zJ 0), .long (zJ i)], [r0, r1, r2, r3, r4, r5, r6, zH (upz s7 0 0 0) zL7 0, r8, r9])) rfl ?_
          obtain ⟨g18, H⟩ := zgd H
          refine zB.iald oX12_cell (g := 7) (p := 2) (N := 4) (i := k) rfl rfl (by decide) rfl rfl (by decide) g18 ?_
          refine xB.run oX12_cell 1 (s := (77, [some (.ref 7168), some (.int (zI k)), some (.int (zI i)), some (.int (zI lane))], [.int (zI 1), .int (zI ((upz s7 0 0 0) 2 k.toNat)), .long (zJ 0), .long (zJ i)], [r0, r1, r2, r3, r4, r5, r6, zH (upz s7 0 0 0) zL7 0, r8, r9])) rfl ?_
          refine zB.opi oX12_cell rfl (zi_sub ((upz s7 0 0 0) 2 k.toNat) 1) ?_
          obtain ⟨g17, H⟩ := zgd H
          refine zB.opl oX12_cell rfl (zi_i2l g17) ?_
          obtain ⟨y9, e10, H⟩ := zbd H
          refine xB.call oX12_cell (M2 := MX12_within) rfl rfl ((t_X12_within r0 r1 r2 r3 r4 r5 r6 (zH (upz s7 0 0 0) zL7 0) r8 r9 i 0 (((upz s7 0 0 0) 2 k.toNat) - 1) e10).deep (by decide : 0 ≤ 1)) ?_
          show xBody MX12_cell 2 82 [some (.ref 7168), some (.int (zI k)), some (.int (zI i)), some (.int (zI lane))] [.int (zI y9)] ([r0, r1, r2, r3, r4, r5, r6, zH (upz s7 0 0 0) zL7 0, r8, r9]) _ _
          obtain ⟨g16, H⟩ := zgd H
          have H := zif H
          refine xB.brE oX12_cell (P := y9 ≠ 0) rfl (zc_ne (a := y9) (b := 0) ⟨g16, by decide⟩) (fun h11 => ?_) (fun h11 => ?_)
          · have H := H.1 h11
            refine xB.run oX12_cell 4 (s := (98, [some (.ref 7168), some (.int (zI k)), some (.int (zI i)), some (.int (zI lane))], [.int (zI k), .int (zI 60), .ref 7171], [r0, r1, r2, r3, r4, r5, r6, zH (upz s7 0 0 0) zL7 0, r8, r9])) rfl ?_
            refine zB.opi oX12_cell rfl (zi_mul 60 k) ?_
            refine xB.run oX12_cell 1 (s := (100, [some (.ref 7168), some (.int (zI k)), some (.int (zI i)), some (.int (zI lane))], [.int (zI i), .int (zI (60 * k)), .ref 7171], [r0, r1, r2, r3, r4, r5, r6, zH (upz s7 0 0 0) zL7 0, r8, r9])) rfl ?_
            refine zB.opi oX12_cell rfl (zi_add (60 * k) i) ?_
            obtain ⟨g13, H⟩ := zgd H
            refine zB.iald oX12_cell (g := 7) (p := 3) (N := 240) (i := (60 * k) + i) rfl rfl (by decide) rfl rfl (by decide) g13 ?_
            obtain ⟨g12, H⟩ := zgd H
            refine zB.opl oX12_cell rfl (zi_i2l g12) ?_
            obtain rfl := Option.some.inj H
            exact xB.ret oX12_cell (r1 := some (.long (zJ ((upz s7 0 0 0) 3 ((60 * k) + i).toNat)))) rfl rfl rfl
          · have H := H.2 h11
            refine xB.run oX12_cell 2 (s := (87, [some (.ref 7168), some (.int (zI k)), some (.int (zI i)), some (.int (zI lane))], [.int (zI 3), .ref 7168], [r0, r1, r2, r3, r4, r5, r6, zH (upz s7 0 0 0) zL7 0, r8, r9])) rfl ?_
            obtain ⟨y14, e15, H⟩ := zbd H
            refine xB.call oX12_cell (M2 := MX12_lost) rfl rfl ((t_X12_lost r0 r1 r2 r3 r4 r5 r6 (upz s7 0 0 0) r8 r9 3 e15).deep (by decide : 0 ≤ 1)) ?_
            show xBody MX12_cell 2 90 [some (.ref 7168), some (.int (zI k)), some (.int (zI i)), some (.int (zI lane))] [.long (zJ y14.1)] ([r0, r1, r2, r3, r4, r5, r6, zH y14.2 zL7 0, r8, r9]) _ _
            obtain rfl := Option.some.inj H
            exact xB.ret oX12_cell (r1 := some (.long (zJ y14.1))) rfl rfl rfl
        · have H := H.2 h8
          refine xB.run oX12_cell 2 (s := (63, [some (.ref 7168), some (.int (zI k)), some (.int (zI i)), some (.int (zI lane))], [.int (zI 1), .ref 7168], [r0, r1, r2, r3, r4, r5, r6, zH (upz s7 0 0 0) zL7 0, r8, r9])) rfl ?_
          obtain ⟨y20, e21, H⟩ := zbd H
          refine xB.call oX12_cell (M2 := MX12_lost) rfl rfl ((t_X12_lost r0 r1 r2 r3 r4 r5 r6 (upz s7 0 0 0) r8 r9 1 e21).deep (by decide : 0 ≤ 1)) ?_
          show xBody MX12_cell 2 66 [some (.ref 7168), some (.int (zI k)), some (.int (zI i)), some (.int (zI lane))] [.long (zJ y20.1)] ([r0, r1, r2, r3, r4, r5, r6, zH y20.2 zL7 0, r8, r9]) _ _
          obtain rfl := Option.some.inj H
          exact xB.ret oX12_cell (r1 := some (.long (zJ y20.1))) rfl rfl rfl
      · have H := H.2 h7
        refine xB.run oX12_cell 3 (s := (39, [some (.ref 7168), some (.int (zI k)), some (.int (zI i)), some (.int (zI lane))], [.int (zI k), .ref 7169], [r0, r1, r2, r3, r4, r5, r6, zH (upz s7 0 0 0) zL7 0, r8, r9])) rfl ?_
        obtain ⟨g44, H⟩ := zgd H
        refine zB.iald oX12_cell (g := 7) (p := 1) (N := 4) (i := k) rfl rfl (by decide) rfl rfl (by decide) g44 ?_
        refine xB.run oX12_cell 1 (s := (41, [some (.ref 7168), some (.int (zI k)), some (.int (zI i)), some (.int (zI lane))], [.int (zI lane), .int (zI ((upz s7 0 0 0) 1 k.toNat))], [r0, r1, r2, r3, r4, r5, r6, zH (upz s7 0 0 0) zL7 0, r8, r9])) rfl ?_
        obtain ⟨g43, H⟩ := zgd H
        have H := zif H
        refine xB.brE oX12_cell (P := ((upz s7 0 0 0) 1 k.toNat) = lane) rfl (zc_eq (a := (upz s7 0 0 0) 1 k.toNat) (b := lane) g43) (fun h24 => ?_) (fun h24 => ?_)
        · have H := H.1 h24
          refine xB.run oX12_cell 3 (s := (55, [some (.ref 7168), some (.int (zI k)), some (.int (zI i)), some (.int (zI lane))], [.int (zI k), .ref 7169], [r0, r1, r2, r3, r4, r5, r6, zH (upz s7 0 0 0) zL7 0, r8, r9])) rfl ?_
          obtain ⟨g40, H⟩ := zgd H
          refine zB.iald oX12_cell (g := 7) (p := 1) (N := 4) (i := k) rfl rfl (by decide) rfl rfl (by decide) g40 ?_
          refine xB.run oX12_cell 1 (s := (58, [some (.ref 7168), some (.int (zI k)), some (.int (zI i)), some (.int (zI lane))], [.int (zI (-9)), .int (zI ((upz s7 0 0 0) 1 k.toNat))], [r0, r1, r2, r3, r4, r5, r6, zH (upz s7 0 0 0) zL7 0, r8, r9])) rfl ?_
          obtain ⟨g39, H⟩ := zgd H
          have H := zif H
          refine xB.brE oX12_cell (P := ((upz s7 0 0 0) 1 k.toNat) ≠ (-9)) rfl (zc_ne (a := (upz s7 0 0 0) 1 k.toNat) (b := (-9)) ⟨g39, by decide⟩) (fun h25 => ?_) (fun h25 => ?_)
          · have H := H.1 h25
            refine xB.run oX12_cell 1 (s := (68, [some (.ref 7168), some (.int (zI k)), some (.int (zI i)), some (.int (zI lane))], [.int (zI i)], [r0, r1, r2, r3, r4, r5, r6, zH (upz s7 0 0 0) zL7 0, r8, r9])) rfl ?_
            obtain ⟨g36, H⟩ := zgd H
            refine zB.opl oX12_cell rfl (zi_i2l g36) ?_
            refine xB.run oX12_cell 4 (s := (75, [some (.ref 7168), some (.int (zI k)), some (.int (zI i)), some (.int (zI lane))], [.int (zI k), .ref 7170, .long (zJ 0), .long (zJ i)], [r0, r1, r2, r3, r4, r5, r6, zH (upz s7 0 0 0) zL7 0, r8, r9])) rfl ?_
            obtain ⟨g35, H⟩ := zgd H
            refine zB.iald oX12_cell (g := 7) (p := 2) (N := 4) (i := k) rfl rfl (by decide) rfl rfl (by decide) g35 ?_
            refine xB.run oX12_cell 1 (s := (77, [some (.ref 7168), some (.int (zI k)), some (.int (zI i)), some (.int (zI lane))], [.int (zI 1), .int (zI ((upz s7 0 0 0) 2 k.toNat)), .long (zJ 0), .long (zJ i)], [r0, r1, r2, r3, r4, r5, r6, zH (upz s7 0 0 0) zL7 0, r8, r9])) rfl ?_
            refine zB.opi oX12_cell rfl (zi_sub ((upz s7 0 0 0) 2 k.toNat) 1) ?_
            obtain ⟨g34, H⟩ := zgd H
            refine zB.opl oX12_cell rfl (zi_i2l g34) ?_
            obtain ⟨y26, e27, H⟩ := zbd H
            refine xB.call oX12_cell (M2 := MX12_within) rfl rfl ((t_X12_within r0 r1 r2 r3 r4 r5 r6 (zH (upz s7 0 0 0) zL7 0) r8 r9 i 0 (((upz s7 0 0 0) 2 k.toNat) - 1) e27).deep (by decide : 0 ≤ 1)) ?_
            show xBody MX12_cell 2 82 [some (.ref 7168), some (.int (zI k)), some (.int (zI i)), some (.int (zI lane))] [.int (zI y26)] ([r0, r1, r2, r3, r4, r5, r6, zH (upz s7 0 0 0) zL7 0, r8, r9]) _ _
            obtain ⟨g33, H⟩ := zgd H
            have H := zif H
            refine xB.brE oX12_cell (P := y26 ≠ 0) rfl (zc_ne (a := y26) (b := 0) ⟨g33, by decide⟩) (fun h28 => ?_) (fun h28 => ?_)
            · have H := H.1 h28
              refine xB.run oX12_cell 4 (s := (98, [some (.ref 7168), some (.int (zI k)), some (.int (zI i)), some (.int (zI lane))], [.int (zI k), .int (zI 60), .ref 7171], [r0, r1, r2, r3, r4, r5, r6, zH (upz s7 0 0 0) zL7 0, r8, r9])) rfl ?_
              refine zB.opi oX12_cell rfl (zi_mul 60 k) ?_
              refine xB.run oX12_cell 1 (s := (100, [some (.ref 7168), some (.int (zI k)), some (.int (zI i)), some (.int (zI lane))], [.int (zI i), .int (zI (60 * k)), .ref 7171], [r0, r1, r2, r3, r4, r5, r6, zH (upz s7 0 0 0) zL7 0, r8, r9])) rfl ?_
              refine zB.opi oX12_cell rfl (zi_add (60 * k) i) ?_
              obtain ⟨g30, H⟩ := zgd H
              refine zB.iald oX12_cell (g := 7) (p := 3) (N := 240) (i := (60 * k) + i) rfl rfl (by decide) rfl rfl (by decide) g30 ?_
              obtain ⟨g29, H⟩ := zgd H
              refine zB.opl oX12_cell rfl (zi_i2l g29) ?_
              obtain rfl := Option.some.inj H
              exact xB.ret oX12_cell (r1 := some (.long (zJ ((upz s7 0 0 0) 3 ((60 * k) + i).toNat)))) rfl rfl rfl
            · have H := H.2 h28
              refine xB.run oX12_cell 2 (s := (87, [some (.ref 7168), some (.int (zI k)), some (.int (zI i)), some (.int (zI lane))], [.int (zI 3), .ref 7168], [r0, r1, r2, r3, r4, r5, r6, zH (upz s7 0 0 0) zL7 0, r8, r9])) rfl ?_
              obtain ⟨y31, e32, H⟩ := zbd H
              refine xB.call oX12_cell (M2 := MX12_lost) rfl rfl ((t_X12_lost r0 r1 r2 r3 r4 r5 r6 (upz s7 0 0 0) r8 r9 3 e32).deep (by decide : 0 ≤ 1)) ?_
              show xBody MX12_cell 2 90 [some (.ref 7168), some (.int (zI k)), some (.int (zI i)), some (.int (zI lane))] [.long (zJ y31.1)] ([r0, r1, r2, r3, r4, r5, r6, zH y31.2 zL7 0, r8, r9]) _ _
              obtain rfl := Option.some.inj H
              exact xB.ret oX12_cell (r1 := some (.long (zJ y31.1))) rfl rfl rfl
          · have H := H.2 h25
            refine xB.run oX12_cell 2 (s := (63, [some (.ref 7168), some (.int (zI k)), some (.int (zI i)), some (.int (zI lane))], [.int (zI 1), .ref 7168], [r0, r1, r2, r3, r4, r5, r6, zH (upz s7 0 0 0) zL7 0, r8, r9])) rfl ?_
            obtain ⟨y37, e38, H⟩ := zbd H
            refine xB.call oX12_cell (M2 := MX12_lost) rfl rfl ((t_X12_lost r0 r1 r2 r3 r4 r5 r6 (upz s7 0 0 0) r8 r9 1 e38).deep (by decide : 0 ≤ 1)) ?_
            show xBody MX12_cell 2 66 [some (.ref 7168), some (.int (zI k)), some (.int (zI i)), some (.int (zI lane))] [.long (zJ y37.1)] ([r0, r1, r2, r3, r4, r5, r6, zH y37.2 zL7 0, r8, r9]) _ _
            obtain rfl := Option.some.inj H
            exact xB.ret oX12_cell (r1 := some (.long (zJ y37.1))) rfl rfl rfl
        · have H := H.2 h24
          refine xB.run oX12_cell 2 (s := (46, [some (.ref 7168), some (.int (zI k)), some (.int (zI i)), some (.int (zI lane))], [.int (zI 2), .ref 7168], [r0, r1, r2, r3, r4, r5, r6, zH (upz s7 0 0 0) zL7 0, r8, r9])) rfl ?_
          obtain ⟨y41, e42, H⟩ := zbd H
          refine xB.call oX12_cell (M2 := MX12_lost) rfl rfl ((t_X12_lost r0 r1 r2 r3 r4 r5 r6 (upz s7 0 0 0) r8 r9 2 e42).deep (by decide : 0 ≤ 1)) ?_
          show xBody MX12_cell 2 49 [some (.ref 7168), some (.int (zI k)), some (.int (zI i)), some (.int (zI lane))] [.long (zJ y41.1)] ([r0, r1, r2, r3, r4, r5, r6, zH y41.2 zL7 0, r8, r9]) _ _
          obtain rfl := Option.some.inj H
          exact xB.ret oX12_cell (r1 := some (.long (zJ y41.1))) rfl rfl rfl
    · have H := H.2 h6
      refine xB.run oX12_cell 1 (s := (22, [some (.ref 7168), some (.int (zI k)), some (.int (zI i)), some (.int (zI lane))], [.long (zJ (-9223372036854775808))], [r0, r1, r2, r3, r4, r5, r6, zH (upz s7 0 0 0) zL7 0, r8, r9])) rfl ?_
      obtain rfl := Option.some.inj H
      exact xB.ret oX12_cell (r1 := some (.long (zJ (-9223372036854775808)))) rfl rfl rfl
def d_X12_begins (s7 : zZ) (b : Int) : Option (zZ) := some (upz s7 0 1 ((31 * (s7 0 1)) + b))
set_option maxRecDepth 20000 in
theorem t_X12_begins (r0 : List va_E) (r1 : List va_E) (r2 : List va_E) (r3 : List va_E) (r4 : List va_E) (r5 : List va_E) (r6 : List va_E) (s7 : zZ) (r8 : List va_E) (r9 : List va_E) (b : Int) {rr : zZ} (H : d_X12_begins s7 b = some rr) : xC MX12_begins 0 [.ref 7168, .int (zI b)] ([r0, r1, r2, r3, r4, r5, r6, zH s7 zL7 0, r8, r9]) (none) ([r0, r1, r2, r3, r4, r5, r6, zH rr zL7 0, r8, r9]) := by
  refine ⟨Nat.le_of_ble_eq_true rfl, ?_⟩
  show xBody MX12_begins 0 0 [some (.ref 7168), some (.int (zI b))] [] ([r0, r1, r2, r3, r4, r5, r6, zH s7 zL7 0, r8, r9]) _ _
  unfold d_X12_begins at H
  refine xB.run oX12_begins 4 (s := (7, [some (.ref 7168), some (.int (zI b))], [.int (zI (s7 0 1)), .int (zI 31), .ref 7168], [r0, r1, r2, r3, r4, r5, r6, zH s7 zL7 0, r8, r9])) rfl ?_
  refine zB.opi oX12_begins rfl (zi_mul 31 (s7 0 1)) ?_
  refine xB.run oX12_begins 1 (s := (9, [some (.ref 7168), some (.int (zI b))], [.int (zI b), .int (zI (31 * (s7 0 1))), .ref 7168], [r0, r1, r2, r3, r4, r5, r6, zH s7 zL7 0, r8, r9])) rfl ?_
  refine zB.opi oX12_begins rfl (zi_add (31 * (s7 0 1)) b) ?_
  refine zB.putI oX12_begins (g := 7) (p := 0) (c := 12) (k := 1) (y := 0) (hp1 := [r0, r1, r2, r3, r4, r5, r6, zH (upz s7 0 1 ((31 * (s7 0 1)) + b)) zL7 0, r8, r9]) rfl rfl (by decide) (by decide) rfl rfl rfl rfl rfl rfl ?_
  obtain rfl := Option.some.inj H
  exact xB.ret oX12_begins (r1 := none) rfl rfl rfl
def d_X12_tell (s7 : zZ) (b : Int) : Option (Int × zZ) := (d_X12_isBar s7 b).bind fun y1 => if (zr y1) then (if y1 ≠ 0 then (if (0 ≤ b ∧ b < 16) then (if (zr (s7 20 b.toNat)) then (if (s7 20 b.toNat) = 0 then (if (0 ≤ b ∧ b < 16) then (if zr (s7 17 b.toNat) then (if (s7 17 b.toNat) = 1 then ((d_X12_begins s7 2).bind fun y7 => (d_X12_begins y7 1).bind fun y9 => if (0 ≤ b ∧ b < 16) then some ((y9 19 b.toNat) + 0, y9) else none) else (if (s7 17 b.toNat) = 2 then ((d_X12_begins s7 3).bind fun y13 => (d_X12_begins y13 2).bind fun y15 => (d_X12_begins y15 1).bind fun y17 => (d_X12_begins y17 1).bind fun y19 => if (0 ≤ b ∧ b < 16) then some ((2 * (y19 19 b.toNat)) + 0, y19) else none) else ((d_X12_begins s7 1).bind fun y22 => if (0 ≤ b ∧ b < 16) then some (y22 19 b.toNat, y22) else none))) else none) else none) else (if (0 ≤ b ∧ b < 16) then (if zr (s7 17 b.toNat) then (if (s7 17 b.toNat) = 1 then ((d_X12_begins s7 2).bind fun y28 => (d_X12_begins y28 1).bind fun y30 => if (0 ≤ b ∧ b < 16) then some ((y30 19 b.toNat) + 1000, y30) else none) else (if (s7 17 b.toNat) = 2 then ((d_X12_begins s7 3).bind fun y34 => (d_X12_begins y34 2).bind fun y36 => (d_X12_begins y36 1).bind fun y38 => (d_X12_begins y38 1).bind fun y40 => if (0 ≤ b ∧ b < 16) then some ((2 * (y40 19 b.toNat)) + 1000, y40) else none) else ((d_X12_begins s7 1).bind fun y43 => if (0 ≤ b ∧ b < 16) then some (y43 19 b.toNat, y43) else none))) else none) else none)) else none) else none) else some ((-1), s7)) else none
set_option maxRecDepth 20000 in
theorem t_X12_tell (r0 : List va_E) (r1 : List va_E) (r2 : List va_E) (r3 : List va_E) (r4 : List va_E) (r5 : List va_E) (r6 : List va_E) (s7 : zZ) (r8 : List va_E) (r9 : List va_E) (b : Int) {rr : Int × zZ} (H : d_X12_tell s7 b = some rr) : xC MX12_tell 1 [.ref 7168, .int (zI b)] ([r0, r1, r2, r3, r4, r5, r6, zH s7 zL7 0, r8, r9]) (some (.int (zI rr.1))) ([r0, r1, r2, r3, r4, r5, r6, zH rr.2 zL7 0, r8, r9]) := by
  refine ⟨Nat.le_of_ble_eq_true rfl, ?_⟩
  show xBody MX12_tell 1 0 [some (.ref 7168), some (.int (zI b)), none] [] ([r0, r1, r2, r3, r4, r5, r6, zH s7 zL7 0, r8, r9]) _ _
  unfold d_X12_tell at H
  refine xB.run oX12_tell 2 (s := (2, [some (.ref 7168), some (.int (zI b)), none], [.int (zI b), .ref 7168], [r0, r1, r2, r3, r4, r5, r6, zH s7 zL7 0, r8, r9])) rfl ?_
  obtain ⟨y1, e2, H⟩ := zbd H
  refine xB.call oX12_tell (M2 := MX12_isBar) rfl rfl ((t_X12_isBar r0 r1 r2 r3 r4 r5 r6 s7 r8 r9 b e2).deep (by decide : 0 ≤ 0)) ?_
  show xBody MX12_tell 1 5 [some (.ref 7168), some (.int (zI b)), none] [.int (zI y1)] ([r0, r1, r2, r3, r4, r5, r6, zH s7 zL7 0, r8, r9]) _ _
  obtain ⟨g49, H⟩ := zgd H
  have H := zif H
  refine xB.brE oX12_tell (P := y1 ≠ 0) rfl (zc_ne (a := y1) (b := 0) ⟨g49, by decide⟩) (fun h3 => ?_) (fun h3 => ?_)
  · have H := H.1 h3
    refine xB.run oX12_tell 3 (s := (15, [some (.ref 7168), some (.int (zI b)), none], [.int (zI b), .ref 7188], [r0, r1, r2, r3, r4, r5, r6, zH s7 zL7 0, r8, r9])) rfl ?_
    obtain ⟨g48, H⟩ := zgd H
    refine zB.bald oX12_tell (g := 7) (p := 20) (N := 16) (i := b) rfl rfl (by decide) rfl rfl (by decide) g48 ?_
    obtain ⟨g47, H⟩ := zgd H
    have H := zif H
    refine xB.brE oX12_tell (P := (s7 20 b.toNat) = 0) rfl (zc_eq (a := s7 20 b.toNat) (b := 0) ⟨g47, by decide⟩) (fun h4 => ?_) (fun h4 => ?_)
    · have H := H.1 h4
      refine xB.run oX12_tell 5 (s := (32, [some (.ref 7168), some (.int (zI b)), some (.int (zI 0))], [.int (zI b), .ref 7185], [r0, r1, r2, r3, r4, r5, r6, zH s7 zL7 0, r8, r9])) rfl ?_
      obtain ⟨g25, H⟩ := zgd H
      refine zB.iald oX12_tell (g := 7) (p := 17) (N := 16) (i := b) rfl rfl (by decide) rfl rfl (by decide) g25 ?_
      obtain ⟨g5, H⟩ := zgd H
      have H := zif H
      by_cases h6 : (s7 17 b.toNat) = 1
      · have H := H.1 h6
        refine xB.next oX12_tell (s := (60, [some (.ref 7168), some (.int (zI b)), some (.int (zI 0))], [], [r0, r1, r2, r3, r4, r5, r6, zH s7 zL7 0, r8, r9])) (xsw_at rfl (by rw [zsw g5 1 _ (by decide), if_pos (show (s7 17 b.toNat) = ((1 : Nat) : Int) from h6)])) ?_
        refine xB.run oX12_tell 2 (s := (62, [some (.ref 7168), some (.int (zI b)), some (.int (zI 0))], [.int (zI 2), .ref 7168], [r0, r1, r2, r3, r4, r5, r6, zH s7 zL7 0, r8, r9])) rfl ?_
        obtain ⟨y7, e8, H⟩ := zbd H
        refine xB.call oX12_tell (M2 := MX12_begins) rfl rfl ((t_X12_begins r0 r1 r2 r3 r4 r5 r6 s7 r8 r9 2 e8).deep (by decide : 0 ≤ 0)) ?_
        show xBody MX12_tell 1 65 [some (.ref 7168), some (.int (zI b)), some (.int (zI 0))] [] ([r0, r1, r2, r3, r4, r5, r6, zH y7 zL7 0, r8, r9]) _ _
        refine xB.run oX12_tell 2 (s := (67, [some (.ref 7168), some (.int (zI b)), some (.int (zI 0))], [.int (zI 1), .ref 7168], [r0, r1, r2, r3, r4, r5, r6, zH y7 zL7 0, r8, r9])) rfl ?_
        obtain ⟨y9, e10, H⟩ := zbd H
        refine xB.call oX12_tell (M2 := MX12_begins) rfl rfl ((t_X12_begins r0 r1 r2 r3 r4 r5 r6 y7 r8 r9 1 e10).deep (by decide : 0 ≤ 0)) ?_
        show xBody MX12_tell 1 70 [some (.ref 7168), some (.int (zI b)), some (.int (zI 0))] [] ([r0, r1, r2, r3, r4, r5, r6, zH y9 zL7 0, r8, r9]) _ _
        refine xB.run oX12_tell 3 (s := (75, [some (.ref 7168), some (.int (zI b)), some (.int (zI 0))], [.int (zI b), .ref 7187], [r0, r1, r2, r3, r4, r5, r6, zH y9 zL7 0, r8, r9])) rfl ?_
        obtain ⟨g11, H⟩ := zgd H
        refine zB.iald oX12_tell (g := 7) (p := 19) (N := 16) (i := b) rfl rfl (by decide) rfl rfl (by decide) g11 ?_
        refine xB.run oX12_tell 1 (s := (77, [some (.ref 7168), some (.int (zI b)), some (.int (zI 0))], [.int (zI 0), .int (zI (y9 19 b.toNat))], [r0, r1, r2, r3, r4, r5, r6, zH y9 zL7 0, r8, r9])) rfl ?_
        refine zB.opi oX12_tell rfl (zi_add (y9 19 b.toNat) 0) ?_
        obtain rfl := Option.some.inj H
        exact xB.ret oX12_tell (r1 := some (.int (zI ((y9 19 b.toNat) + 0)))) rfl rfl rfl
      · have H := H.2 h6
        have H := zif H
        by_cases h12 : (s7 17 b.toNat) = 2
        · have H := H.1 h12
          refine xB.next oX12_tell (s := (79, [some (.ref 7168), some (.int (zI b)), some (.int (zI 0))], [], [r0, r1, r2, r3, r4, r5, r6, zH s7 zL7 0, r8, r9])) (xsw_at rfl (by rw [zsw g5 1 _ (by decide), if_neg (show ¬ (s7 17 b.toNat) = ((1 : Nat) : Int) from h6)]; rw [zsw g5 2 _ (by decide), if_pos (show (s7 17 b.toNat) = ((2 : Nat) : Int) from h12)])) ?_
          refine xB.run oX12_tell 2 (s := (81, [some (.ref 7168), some (.int (zI b)), some (.int (zI 0))], [.int (zI 3), .ref 7168], [r0, r1, r2, r3, r4, r5, r6, zH s7 zL7 0, r8, r9])) rfl ?_
          obtain ⟨y13, e14, H⟩ := zbd H
          refine xB.call oX12_tell (M2 := MX12_begins) rfl rfl ((t_X12_begins r0 r1 r2 r3 r4 r5 r6 s7 r8 r9 3 e14).deep (by decide : 0 ≤ 0)) ?_
          show xBody MX12_tell 1 84 [some (.ref 7168), some (.int (zI b)), some (.int (zI 0))] [] ([r0, r1, r2, r3, r4, r5, r6, zH y13 zL7 0, r8, r9]) _ _
          refine xB.run oX12_tell 2 (s := (86, [some (.ref 7168), some (.int (zI b)), some (.int (zI 0))], [.int (zI 2), .ref 7168], [r0, r1, r2, r3, r4, r5, r6, zH y13 zL7 0, r8, r9])) rfl ?_
          obtain ⟨y15, e16, H⟩ := zbd H
          refine xB.call oX12_tell (M2 := MX12_begins) rfl rfl ((t_X12_begins r0 r1 r2 r3 r4 r5 r6 y13 r8 r9 2 e16).deep (by decide : 0 ≤ 0)) ?_
          show xBody MX12_tell 1 89 [some (.ref 7168), some (.int (zI b)), some (.int (zI 0))] [] ([r0, r1, r2, r3, r4, r5, r6, zH y15 zL7 0, r8, r9]) _ _
          refine xB.run oX12_tell 2 (s := (91, [some (.ref 7168), some (.int (zI b)), some (.int (zI 0))], [.int (zI 1), .ref 7168], [r0, r1, r2, r3, r4, r5, r6, zH y15 zL7 0, r8, r9])) rfl ?_
          obtain ⟨y17, e18, H⟩ := zbd H
          refine xB.call oX12_tell (M2 := MX12_begins) rfl rfl ((t_X12_begins r0 r1 r2 r3 r4 r5 r6 y15 r8 r9 1 e18).deep (by decide : 0 ≤ 0)) ?_
          show xBody MX12_tell 1 94 [some (.ref 7168), some (.int (zI b)), some (.int (zI 0))] [] ([r0, r1, r2, r3, r4, r5, r6, zH y17 zL7 0, r8, r9]) _ _
          refine xB.run oX12_tell 2 (s := (96, [some (.ref 7168), some (.int (zI b)), some (.int (zI 0))], [.int (zI 1), .ref 7168], [r0, r1, r2, r3, r4, r5, r6, zH y17 zL7 0, r8, r9])) rfl ?_
          obtain ⟨y19, e20, H⟩ := zbd H
          refine xB.call oX12_tell (M2 := MX12_begins) rfl rfl ((t_X12_begins r0 r1 r2 r3 r4 r5 r6 y17 r8 r9 1 e20).deep (by decide : 0 ≤ 0)) ?_
          show xBody MX12_tell 1 99 [some (.ref 7168), some (.int (zI b)), some (.int (zI 0))] [] ([r0, r1, r2, r3, r4, r5, r6, zH y19 zL7 0, r8, r9]) _ _
          refine xB.run oX12_tell 4 (s := (105, [some (.ref 7168), some (.int (zI b)), some (.int (zI 0))], [.int (zI b), .ref 7187, .int (zI 2)], [r0, r1, r2, r3, r4, r5, r6, zH y19 zL7 0, r8, r9])) rfl ?_
          obtain ⟨g21, H⟩ := zgd H
          refine zB.iald oX12_tell (g := 7) (p := 19) (N := 16) (i := b) rfl rfl (by decide) rfl rfl (by decide) g21 ?_
          refine zB.opi oX12_tell rfl (zi_mul 2 (y19 19 b.toNat)) ?_
          refine xB.run oX12_tell 1 (s := (108, [some (.ref 7168), some (.int (zI b)), some (.int (zI 0))], [.int (zI 0), .int (zI (2 * (y19 19 b.toNat)))], [r0, r1, r2, r3, r4, r5, r6, zH y19 zL7 0, r8, r9])) rfl ?_
          refine zB.opi oX12_tell rfl (zi_add (2 * (y19 19 b.toNat)) 0) ?_
          obtain rfl := Option.some.inj H
          exact xB.ret oX12_tell (r1 := some (.int (zI ((2 * (y19 19 b.toNat)) + 0)))) rfl rfl rfl
        · have H := H.2 h12
          refine xB.next oX12_tell (s := (110, [some (.ref 7168), some (.int (zI b)), some (.int (zI 0))], [], [r0, r1, r2, r3, r4, r5, r6, zH s7 zL7 0, r8, r9])) (xsw_at rfl (by rw [zsw g5 1 _ (by decide), if_neg (show ¬ (s7 17 b.toNat) = ((1 : Nat) : Int) from h6)]; rw [zsw g5 2 _ (by decide), if_neg (show ¬ (s7 17 b.toNat) = ((2 : Nat) : Int) from h12)]; rfl)) ?_
          refine xB.run oX12_tell 2 (s := (112, [some (.ref 7168), some (.int (zI b)), some (.int (zI 0))], [.int (zI 1), .ref 7168], [r0, r1, r2, r3, r4, r5, r6, zH s7 zL7 0, r8, r9])) rfl ?_
          obtain ⟨y22, e23, H⟩ := zbd H
          refine xB.call oX12_tell (M2 := MX12_begins) rfl rfl ((t_X12_begins r0 r1 r2 r3 r4 r5 r6 s7 r8 r9 1 e23).deep (by decide : 0 ≤ 0)) ?_
          show xBody MX12_tell 1 115 [some (.ref 7168), some (.int (zI b)), some (.int (zI 0))] [] ([r0, r1, r2, r3, r4, r5, r6, zH y22 zL7 0, r8, r9]) _ _
          refine xB.run oX12_tell 3 (s := (120, [some (.ref 7168), some (.int (zI b)), some (.int (zI 0))], [.int (zI b), .ref 7187], [r0, r1, r2, r3, r4, r5, r6, zH y22 zL7 0, r8, r9])) rfl ?_
          obtain ⟨g24, H⟩ := zgd H
          refine zB.iald oX12_tell (g := 7) (p := 19) (N := 16) (i := b) rfl rfl (by decide) rfl rfl (by decide) g24 ?_
          obtain rfl := Option.some.inj H
          exact xB.ret oX12_tell (r1 := some (.int (zI (y22 19 b.toNat)))) rfl rfl rfl
    · have H := H.2 h4
      refine xB.run oX12_tell 6 (s := (32, [some (.ref 7168), some (.int (zI b)), some (.int (zI 1000))], [.int (zI b), .ref 7185], [r0, r1, r2, r3, r4, r5, r6, zH s7 zL7 0, r8, r9])) rfl ?_
      obtain ⟨g46, H⟩ := zgd H
      refine zB.iald oX12_tell (g := 7) (p := 17) (N := 16) (i := b) rfl rfl (by decide) rfl rfl (by decide) g46 ?_
      obtain ⟨g26, H⟩ := zgd H
      have H := zif H
      by_cases h27 : (s7 17 b.toNat) = 1
      · have H := H.1 h27
        refine xB.next oX12_tell (s := (60, [some (.ref 7168), some (.int (zI b)), some (.int (zI 1000))], [], [r0, r1, r2, r3, r4, r5, r6, zH s7 zL7 0, r8, r9])) (xsw_at rfl (by rw [zsw g26 1 _ (by decide), if_pos (show (s7 17 b.toNat) = ((1 : Nat) : Int) from h27)])) ?_
        refine xB.run oX12_tell 2 (s := (62, [some (.ref 7168), some (.int (zI b)), some (.int (zI 1000))], [.int (zI 2), .ref 7168], [r0, r1, r2, r3, r4, r5, r6, zH s7 zL7 0, r8, r9])) rfl ?_
        obtain ⟨y28, e29, H⟩ := zbd H
        refine xB.call oX12_tell (M2 := MX12_begins) rfl rfl ((t_X12_begins r0 r1 r2 r3 r4 r5 r6 s7 r8 r9 2 e29).deep (by decide : 0 ≤ 0)) ?_
        show xBody MX12_tell 1 65 [some (.ref 7168), some (.int (zI b)), some (.int (zI 1000))] [] ([r0, r1, r2, r3, r4, r5, r6, zH y28 zL7 0, r8, r9]) _ _
        refine xB.run oX12_tell 2 (s := (67, [some (.ref 7168), some (.int (zI b)), some (.int (zI 1000))], [.int (zI 1), .ref 7168], [r0, r1, r2, r3, r4, r5, r6, zH y28 zL7 0, r8, r9])) rfl ?_
        obtain ⟨y30, e31, H⟩ := zbd H
        refine xB.call oX12_tell (M2 := MX12_begins) rfl rfl ((t_X12_begins r0 r1 r2 r3 r4 r5 r6 y28 r8 r9 1 e31).deep (by decide : 0 ≤ 0)) ?_
        show xBody MX12_tell 1 70 [some (.ref 7168), some (.int (zI b)), some (.int (zI 1000))] [] ([r0, r1, r2, r3, r4, r5, r6, zH y30 zL7 0, r8, r9]) _ _
        refine xB.run oX12_tell 3 (s := (75, [some (.ref 7168), some (.int (zI b)), some (.int (zI 1000))], [.int (zI b), .ref 7187], [r0, r1, r2, r3, r4, r5, r6, zH y30 zL7 0, r8, r9])) rfl ?_
        obtain ⟨g32, H⟩ := zgd H
        refine zB.iald oX12_tell (g := 7) (p := 19) (N := 16) (i := b) rfl rfl (by decide) rfl rfl (by decide) g32 ?_
        refine xB.run oX12_tell 1 (s := (77, [some (.ref 7168), some (.int (zI b)), some (.int (zI 1000))], [.int (zI 1000), .int (zI (y30 19 b.toNat))], [r0, r1, r2, r3, r4, r5, r6, zH y30 zL7 0, r8, r9])) rfl ?_
        refine zB.opi oX12_tell rfl (zi_add (y30 19 b.toNat) 1000) ?_
        obtain rfl := Option.some.inj H
        exact xB.ret oX12_tell (r1 := some (.int (zI ((y30 19 b.toNat) + 1000)))) rfl rfl rfl
      · have H := H.2 h27
        have H := zif H
        by_cases h33 : (s7 17 b.toNat) = 2
        · have H := H.1 h33
          refine xB.next oX12_tell (s := (79, [some (.ref 7168), some (.int (zI b)), some (.int (zI 1000))], [], [r0, r1, r2, r3, r4, r5, r6, zH s7 zL7 0, r8, r9])) (xsw_at rfl (by rw [zsw g26 1 _ (by decide), if_neg (show ¬ (s7 17 b.toNat) = ((1 : Nat) : Int) from h27)]; rw [zsw g26 2 _ (by decide), if_pos (show (s7 17 b.toNat) = ((2 : Nat) : Int) from h33)])) ?_
          refine xB.run oX12_tell 2 (s := (81, [some (.ref 7168), some (.int (zI b)), some (.int (zI 1000))], [.int (zI 3), .ref 7168], [r0, r1, r2, r3, r4, r5, r6, zH s7 zL7 0, r8, r9])) rfl ?_
          obtain ⟨y34, e35, H⟩ := zbd H
          refine xB.call oX12_tell (M2 := MX12_begins) rfl rfl ((t_X12_begins r0 r1 r2 r3 r4 r5 r6 s7 r8 r9 3 e35).deep (by decide : 0 ≤ 0)) ?_
          show xBody MX12_tell 1 84 [some (.ref 7168), some (.int (zI b)), some (.int (zI 1000))] [] ([r0, r1, r2, r3, r4, r5, r6, zH y34 zL7 0, r8, r9]) _ _
          refine xB.run oX12_tell 2 (s := (86, [some (.ref 7168), some (.int (zI b)), some (.int (zI 1000))], [.int (zI 2), .ref 7168], [r0, r1, r2, r3, r4, r5, r6, zH y34 zL7 0, r8, r9])) rfl ?_
          obtain ⟨y36, e37, H⟩ := zbd H
          refine xB.call oX12_tell (M2 := MX12_begins) rfl rfl ((t_X12_begins r0 r1 r2 r3 r4 r5 r6 y34 r8 r9 2 e37).deep (by decide : 0 ≤ 0)) ?_
          show xBody MX12_tell 1 89 [some (.ref 7168), some (.int (zI b)), some (.int (zI 1000))] [] ([r0, r1, r2, r3, r4, r5, r6, zH y36 zL7 0, r8, r9]) _ _
          refine xB.run oX12_tell 2 (s := (91, [some (.ref 7168), some (.int (zI b)), some (.int (zI 1000))], [.int (zI 1), .ref 7168], [r0, r1, r2, r3, r4, r5, r6, zH y36 zL7 0, r8, r9])) rfl ?_
          obtain ⟨y38, e39, H⟩ := zbd H
          refine xB.call oX12_tell (M2 := MX12_begins) rfl rfl ((t_X12_begins r0 r1 r2 r3 r4 r5 r6 y36 r8 r9 1 e39).deep (by decide : 0 ≤ 0)) ?_
          show xBody MX12_tell 1 94 [some (.ref 7168), some (.int (zI b)), some (.int (zI 1000))] [] ([r0, r1, r2, r3, r4, r5, r6, zH y38 zL7 0, r8, r9]) _ _
          refine xB.run oX12_tell 2 (s := (96, [some (.ref 7168), some (.int (zI b)), some (.int (zI 1000))], [.int (zI 1), .ref 7168], [r0, r1, r2, r3, r4, r5, r6, zH y38 zL7 0, r8, r9])) rfl ?_
          obtain ⟨y40, e41, H⟩ := zbd H
          refine xB.call oX12_tell (M2 := MX12_begins) rfl rfl ((t_X12_begins r0 r1 r2 r3 r4 r5 r6 y38 r8 r9 1 e41).deep (by decide : 0 ≤ 0)) ?_
          show xBody MX12_tell 1 99 [some (.ref 7168), some (.int (zI b)), some (.int (zI 1000))] [] ([r0, r1, r2, r3, r4, r5, r6, zH y40 zL7 0, r8, r9]) _ _
          refine xB.run oX12_tell 4 (s := (105, [some (.ref 7168), some (.int (zI b)), some (.int (zI 1000))], [.int (zI b), .ref 7187, .int (zI 2)], [r0, r1, r2, r3, r4, r5, r6, zH y40 zL7 0, r8, r9])) rfl ?_
          obtain ⟨g42, H⟩ := zgd H
          refine zB.iald oX12_tell (g := 7) (p := 19) (N := 16) (i := b) rfl rfl (by decide) rfl rfl (by decide) g42 ?_
          refine zB.opi oX12_tell rfl (zi_mul 2 (y40 19 b.toNat)) ?_
          refine xB.run oX12_tell 1 (s := (108, [some (.ref 7168), some (.int (zI b)), some (.int (zI 1000))], [.int (zI 1000), .int (zI (2 * (y40 19 b.toNat)))], [r0, r1, r2, r3, r4, r5, r6, zH y40 zL7 0, r8, r9])) rfl ?_
          refine zB.opi oX12_tell rfl (zi_add (2 * (y40 19 b.toNat)) 1000) ?_
          obtain rfl := Option.some.inj H
          exact xB.ret oX12_tell (r1 := some (.int (zI ((2 * (y40 19 b.toNat)) + 1000)))) rfl rfl rfl
        · have H := H.2 h33
          refine xB.next oX12_tell (s := (110, [some (.ref 7168), some (.int (zI b)), some (.int (zI 1000))], [], [r0, r1, r2, r3, r4, r5, r6, zH s7 zL7 0, r8, r9])) (xsw_at rfl (by rw [zsw g26 1 _ (by decide), if_neg (show ¬ (s7 17 b.toNat) = ((1 : Nat) : Int) from h27)]; rw [zsw g26 2 _ (by decide), if_neg (show ¬ (s7 17 b.toNat) = ((2 : Nat) : Int) from h33)]; rfl)) ?_
          refine xB.run oX12_tell 2 (s := (112, [some (.ref 7168), some (.int (zI b)), some (.int (zI 1000))], [.int (zI 1), .ref 7168], [r0, r1, r2, r3, r4, r5, r6, zH s7 zL7 0, r8, r9])) rfl ?_
          obtain ⟨y43, e44, H⟩ := zbd H
          refine xB.call oX12_tell (M2 := MX12_begins) rfl rfl ((t_X12_begins r0 r1 r2 r3 r4 r5 r6 s7 r8 r9 1 e44).deep (by decide : 0 ≤ 0)) ?_
          show xBody MX12_tell 1 115 [some (.ref 7168), some (.int (zI b)), some (.int (zI 1000))] [] ([r0, r1, r2, r3, r4, r5, r6, zH y43 zL7 0, r8, r9]) _ _
          refine xB.run oX12_tell 3 (s := (120, [some (.ref 7168), some (.int (zI b)), some (.int (zI 1000))], [.int (zI b), .ref 7187], [r0, r1, r2, r3, r4, r5, r6, zH y43 zL7 0, r8, r9])) rfl ?_
          obtain ⟨g45, H⟩ := zgd H
          refine zB.iald oX12_tell (g := 7) (p := 19) (N := 16) (i := b) rfl rfl (by decide) rfl rfl (by decide) g45 ?_
          obtain rfl := Option.some.inj H
          exact xB.ret oX12_tell (r1 := some (.int (zI (y43 19 b.toNat)))) rfl rfl rfl
  · have H := H.2 h3
    refine xB.run oX12_tell 1 (s := (9, [some (.ref 7168), some (.int (zI b)), none], [.int (zI (-1))], [r0, r1, r2, r3, r4, r5, r6, zH s7 zL7 0, r8, r9])) rfl ?_
    obtain rfl := Option.some.inj H
    exact xB.ret oX12_tell (r1 := some (.int (zI (-1)))) rfl rfl rfl
def d_X12_sign (s7 : zZ) (b : Int) : Option (Int × zZ) := (d_X12_isBar s7 b).bind fun y1 => if (zr y1) then (if y1 ≠ 0 then (if (0 ≤ b ∧ b < 16) then (if (zr (s7 17 b.toNat)) then (if (s7 17 b.toNat) ≠ 2 then ((d_X12_begins s7 4).bind fun y5 => if (0 ≤ b ∧ b < 16) then (if (zr (y5 17 b.toNat)) then (if (y5 17 b.toNat) ≠ 2 then some (b, y5) else some (70, y5)) else none) else none) else ((d_X12_begins s7 5).bind fun y10 => if (0 ≤ b ∧ b < 16) then (if (zr (y10 17 b.toNat)) then (if (y10 17 b.toNat) ≠ 2 then some (b, y10) else some (70, y10)) else none) else none)) else none) else none) else some ((-1), s7)) else none
set_option maxRecDepth 20000 in
theorem t_X12_sign (r0 : List va_E) (r1 : List va_E) (r2 : List va_E) (r3 : List va_E) (r4 : List va_E) (r5 : List va_E) (r6 : List va_E) (s7 : zZ) (r8 : List va_E) (r9 : List va_E) (b : Int) {rr : Int × zZ} (H : d_X12_sign s7 b = some rr) : xC MX12_sign 1 [.ref 7168, .int (zI b)] ([r0, r1, r2, r3, r4, r5, r6, zH s7 zL7 0, r8, r9]) (some (.int (zI rr.1))) ([r0, r1, r2, r3, r4, r5, r6, zH rr.2 zL7 0, r8, r9]) := by
  refine ⟨Nat.le_of_ble_eq_true rfl, ?_⟩
  show xBody MX12_sign 1 0 [some (.ref 7168), some (.int (zI b))] [] ([r0, r1, r2, r3, r4, r5, r6, zH s7 zL7 0, r8, r9]) _ _
  unfold d_X12_sign at H
  refine xB.run oX12_sign 2 (s := (2, [some (.ref 7168), some (.int (zI b))], [.int (zI b), .ref 7168], [r0, r1, r2, r3, r4, r5, r6, zH s7 zL7 0, r8, r9])) rfl ?_
  obtain ⟨y1, e2, H⟩ := zbd H
  refine xB.call oX12_sign (M2 := MX12_isBar) rfl rfl ((t_X12_isBar r0 r1 r2 r3 r4 r5 r6 s7 r8 r9 b e2).deep (by decide : 0 ≤ 0)) ?_
  show xBody MX12_sign 1 5 [some (.ref 7168), some (.int (zI b))] [.int (zI y1)] ([r0, r1, r2, r3, r4, r5, r6, zH s7 zL7 0, r8, r9]) _ _
  obtain ⟨g17, H⟩ := zgd H
  have H := zif H
  refine xB.brE oX12_sign (P := y1 ≠ 0) rfl (zc_ne (a := y1) (b := 0) ⟨g17, by decide⟩) (fun h3 => ?_) (fun h3 => ?_)
  · have H := H.1 h3
    refine xB.run oX12_sign 4 (s := (16, [some (.ref 7168), some (.int (zI b))], [.int (zI b), .ref 7185, .ref 7168], [r0, r1, r2, r3, r4, r5, r6, zH s7 zL7 0, r8, r9])) rfl ?_
    obtain ⟨g16, H⟩ := zgd H
    refine zB.iald oX12_sign (g := 7) (p := 17) (N := 16) (i := b) rfl rfl (by decide) rfl rfl (by decide) g16 ?_
    refine xB.run oX12_sign 1 (s := (18, [some (.ref 7168), some (.int (zI b))], [.int (zI 2), .int (zI (s7 17 b.toNat)), .ref 7168], [r0, r1, r2, r3, r4, r5, r6, zH s7 zL7 0, r8, r9])) rfl ?_
    obtain ⟨g15, H⟩ := zgd H
    have H := zif H
    refine xB.brE oX12_sign (P := (s7 17 b.toNat) ≠ 2) rfl (zc_ne (a := s7 17 b.toNat) (b := 2) ⟨g15, by decide⟩) (fun h4 => ?_) (fun h4 => ?_)
    · have H := H.1 h4
      refine xB.run oX12_sign 1 (s := (26, [some (.ref 7168), some (.int (zI b))], [.int (zI 4), .ref 7168], [r0, r1, r2, r3, r4, r5, r6, zH s7 zL7 0, r8, r9])) rfl ?_
      obtain ⟨y5, e6, H⟩ := zbd H
      refine xB.call oX12_sign (M2 := MX12_begins) rfl rfl ((t_X12_begins r0 r1 r2 r3 r4 r5 r6 s7 r8 r9 4 e6).deep (by decide : 0 ≤ 0)) ?_
      show xBody MX12_sign 1 29 [some (.ref 7168), some (.int (zI b))] [] ([r0, r1, r2, r3, r4, r5, r6, zH y5 zL7 0, r8, r9]) _ _
      refine xB.run oX12_sign 3 (s := (34, [some (.ref 7168), some (.int (zI b))], [.int (zI b), .ref 7185], [r0, r1, r2, r3, r4, r5, r6, zH y5 zL7 0, r8, r9])) rfl ?_
      obtain ⟨g9, H⟩ := zgd H
      refine zB.iald oX12_sign (g := 7) (p := 17) (N := 16) (i := b) rfl rfl (by decide) rfl rfl (by decide) g9 ?_
      refine xB.run oX12_sign 1 (s := (36, [some (.ref 7168), some (.int (zI b))], [.int (zI 2), .int (zI (y5 17 b.toNat))], [r0, r1, r2, r3, r4, r5, r6, zH y5 zL7 0, r8, r9])) rfl ?_
      obtain ⟨g8, H⟩ := zgd H
      have H := zif H
      refine xB.brE oX12_sign (P := (y5 17 b.toNat) ≠ 2) rfl (zc_ne (a := y5 17 b.toNat) (b := 2) ⟨g8, by decide⟩) (fun h7 => ?_) (fun h7 => ?_)
      · have H := H.1 h7
        refine xB.run oX12_sign 1 (s := (45, [some (.ref 7168), some (.int (zI b))], [.int (zI b)], [r0, r1, r2, r3, r4, r5, r6, zH y5 zL7 0, r8, r9])) rfl ?_
        obtain rfl := Option.some.inj H
        exact xB.ret oX12_sign (r1 := some (.int (zI b))) rfl rfl rfl
      · have H := H.2 h7
        refine xB.run oX12_sign 2 (s := (45, [some (.ref 7168), some (.int (zI b))], [.int (zI 70)], [r0, r1, r2, r3, r4, r5, r6, zH y5 zL7 0, r8, r9])) rfl ?_
        obtain rfl := Option.some.inj H
        exact xB.ret oX12_sign (r1 := some (.int (zI 70))) rfl rfl rfl
    · have H := H.2 h4
      refine xB.run oX12_sign 2 (s := (26, [some (.ref 7168), some (.int (zI b))], [.int (zI 5), .ref 7168], [r0, r1, r2, r3, r4, r5, r6, zH s7 zL7 0, r8, r9])) rfl ?_
      obtain ⟨y10, e11, H⟩ := zbd H
      refine xB.call oX12_sign (M2 := MX12_begins) rfl rfl ((t_X12_begins r0 r1 r2 r3 r4 r5 r6 s7 r8 r9 5 e11).deep (by decide : 0 ≤ 0)) ?_
      show xBody MX12_sign 1 29 [some (.ref 7168), some (.int (zI b))] [] ([r0, r1, r2, r3, r4, r5, r6, zH y10 zL7 0, r8, r9]) _ _
      refine xB.run oX12_sign 3 (s := (34, [some (.ref 7168), some (.int (zI b))], [.int (zI b), .ref 7185], [r0, r1, r2, r3, r4, r5, r6, zH y10 zL7 0, r8, r9])) rfl ?_
      obtain ⟨g14, H⟩ := zgd H
      refine zB.iald oX12_sign (g := 7) (p := 17) (N := 16) (i := b) rfl rfl (by decide) rfl rfl (by decide) g14 ?_
      refine xB.run oX12_sign 1 (s := (36, [some (.ref 7168), some (.int (zI b))], [.int (zI 2), .int (zI (y10 17 b.toNat))], [r0, r1, r2, r3, r4, r5, r6, zH y10 zL7 0, r8, r9])) rfl ?_
      obtain ⟨g13, H⟩ := zgd H
      have H := zif H
      refine xB.brE oX12_sign (P := (y10 17 b.toNat) ≠ 2) rfl (zc_ne (a := y10 17 b.toNat) (b := 2) ⟨g13, by decide⟩) (fun h12 => ?_) (fun h12 => ?_)
      · have H := H.1 h12
        refine xB.run oX12_sign 1 (s := (45, [some (.ref 7168), some (.int (zI b))], [.int (zI b)], [r0, r1, r2, r3, r4, r5, r6, zH y10 zL7 0, r8, r9])) rfl ?_
        obtain rfl := Option.some.inj H
        exact xB.ret oX12_sign (r1 := some (.int (zI b))) rfl rfl rfl
      · have H := H.2 h12
        refine xB.run oX12_sign 2 (s := (45, [some (.ref 7168), some (.int (zI b))], [.int (zI 70)], [r0, r1, r2, r3, r4, r5, r6, zH y10 zL7 0, r8, r9])) rfl ?_
        obtain rfl := Option.some.inj H
        exact xB.ret oX12_sign (r1 := some (.int (zI 70))) rfl rfl rfl
  · have H := H.2 h3
    refine xB.run oX12_sign 1 (s := (9, [some (.ref 7168), some (.int (zI b))], [.int (zI (-1))], [r0, r1, r2, r3, r4, r5, r6, zH s7 zL7 0, r8, r9])) rfl ?_
    obtain rfl := Option.some.inj H
    exact xB.ret oX12_sign (r1 := some (.int (zI (-1)))) rfl rfl rfl
def d_X12_as (s7 : zZ) (b : Int) (kind : Int) : Option (Int × zZ) := (d_X12_isBar (upz s7 0 0 0) b).bind fun y1 => if (zr y1) then (if y1 ≠ 0 then (if zr kind then ((d_X12_within kind 0 2).bind fun y4 => if (zr y4) then (if y4 ≠ 0 then (if (0 ≤ b ∧ b < 16) then (if (zr ((upz s7 0 0 0) 17 b.toNat) ∧ zr kind) then (if ((upz s7 0 0 0) 17 b.toNat) < kind then ((d_X12_fails (upz s7 0 0 0) 2).bind fun y8 => some (y8.1, y8.2)) else some (1, upz s7 0 0 0)) else none) else none) else some ((-2), upz s7 0 0 0)) else none) else none) else some ((-1), upz s7 0 0 0)) else none
set_option maxRecDepth 20000 in
theorem t_X12_as (r0 : List va_E) (r1 : List va_E) (r2 : List va_E) (r3 : List va_E) (r4 : List va_E) (r5 : List va_E) (r6 : List va_E) (s7 : zZ) (r8 : List va_E) (r9 : List va_E) (b : Int) (kind : Int) {rr : Int × zZ} (H : d_X12_as s7 b kind = some rr) : xC MX12_as 1 [.ref 7168, .int (zI b), .int (zI kind)] ([r0, r1, r2, r3, r4, r5, r6, zH s7 zL7 0, r8, r9]) (some (.int (zI rr.1))) ([r0, r1, r2, r3, r4, r5, r6, zH rr.2 zL7 0, r8, r9]) := by
  refine ⟨Nat.le_of_ble_eq_true rfl, ?_⟩
  show xBody MX12_as 1 0 [some (.ref 7168), some (.int (zI b)), some (.int (zI kind))] [] ([r0, r1, r2, r3, r4, r5, r6, zH s7 zL7 0, r8, r9]) _ _
  unfold d_X12_as at H
  refine xB.run oX12_as 2 (s := (2, [some (.ref 7168), some (.int (zI b)), some (.int (zI kind))], [.int (zI 0), .ref 7168], [r0, r1, r2, r3, r4, r5, r6, zH s7 zL7 0, r8, r9])) rfl ?_
  refine zB.putI oX12_as (g := 7) (p := 0) (c := 12) (k := 0) (y := 0) (hp1 := [r0, r1, r2, r3, r4, r5, r6, zH (upz s7 0 0 0) zL7 0, r8, r9]) rfl rfl (by decide) (by decide) rfl rfl rfl rfl rfl rfl ?_
  refine xB.run oX12_as 2 (s := (7, [some (.ref 7168), some (.int (zI b)), some (.int (zI kind))], [.int (zI b), .ref 7168], [r0, r1, r2, r3, r4, r5, r6, zH (upz s7 0 0 0) zL7 0, r8, r9])) rfl ?_
  obtain ⟨y1, e2, H⟩ := zbd H
  refine xB.call oX12_as (M2 := MX12_isBar) rfl rfl ((t_X12_isBar r0 r1 r2 r3 r4 r5 r6 (upz s7 0 0 0) r8 r9 b e2).deep (by decide : 0 ≤ 0)) ?_
  show xBody MX12_as 1 10 [some (.ref 7168), some (.int (zI b)), some (.int (zI kind))] [.int (zI y1)] ([r0, r1, r2, r3, r4, r5, r6, zH (upz s7 0 0 0) zL7 0, r8, r9]) _ _
  obtain ⟨g14, H⟩ := zgd H
  have H := zif H
  refine xB.brE oX12_as (P := y1 ≠ 0) rfl (zc_ne (a := y1) (b := 0) ⟨g14, by decide⟩) (fun h3 => ?_) (fun h3 => ?_)
  · have H := H.1 h3
    refine xB.run oX12_as 1 (s := (16, [some (.ref 7168), some (.int (zI b)), some (.int (zI kind))], [.int (zI kind)], [r0, r1, r2, r3, r4, r5, r6, zH (upz s7 0 0 0) zL7 0, r8, r9])) rfl ?_
    obtain ⟨g13, H⟩ := zgd H
    refine zB.opl oX12_as rfl (zi_i2l g13) ?_
    refine xB.run oX12_as 2 (s := (21, [some (.ref 7168), some (.int (zI b)), some (.int (zI kind))], [.long (zJ 2), .long (zJ 0), .long (zJ kind)], [r0, r1, r2, r3, r4, r5, r6, zH (upz s7 0 0 0) zL7 0, r8, r9])) rfl ?_
    obtain ⟨y4, e5, H⟩ := zbd H
    refine xB.call oX12_as (M2 := MX12_within) rfl rfl ((t_X12_within r0 r1 r2 r3 r4 r5 r6 (zH (upz s7 0 0 0) zL7 0) r8 r9 kind 0 2 e5).deep (by decide : 0 ≤ 0)) ?_
    show xBody MX12_as 1 24 [some (.ref 7168), some (.int (zI b)), some (.int (zI kind))] [.int (zI y4)] ([r0, r1, r2, r3, r4, r5, r6, zH (upz s7 0 0 0) zL7 0, r8, r9]) _ _
    obtain ⟨g12, H⟩ := zgd H
    have H := zif H
    refine xB.brE oX12_as (P := y4 ≠ 0) rfl (zc_ne (a := y4) (b := 0) ⟨g12, by decide⟩) (fun h6 => ?_) (fun h6 => ?_)
    · have H := H.1 h6
      refine xB.run oX12_as 3 (s := (35, [some (.ref 7168), some (.int (zI b)), some (.int (zI kind))], [.int (zI b), .ref 7185], [r0, r1, r2, r3, r4, r5, r6, zH (upz s7 0 0 0) zL7 0, r8, r9])) rfl ?_
      obtain ⟨g11, H⟩ := zgd H
      refine zB.iald oX12_as (g := 7) (p := 17) (N := 16) (i := b) rfl rfl (by decide) rfl rfl (by decide) g11 ?_
      refine xB.run oX12_as 1 (s := (37, [some (.ref 7168), some (.int (zI b)), some (.int (zI kind))], [.int (zI kind), .int (zI ((upz s7 0 0 0) 17 b.toNat))], [r0, r1, r2, r3, r4, r5, r6, zH (upz s7 0 0 0) zL7 0, r8, r9])) rfl ?_
      obtain ⟨g10, H⟩ := zgd H
      have H := zif H
      refine xB.brE oX12_as (P := ((upz s7 0 0 0) 17 b.toNat) < kind) rfl (zc_lt (a := (upz s7 0 0 0) 17 b.toNat) (b := kind) g10) (fun h7 => ?_) (fun h7 => ?_)
      · have H := H.1 h7
        refine xB.run oX12_as 2 (s := (46, [some (.ref 7168), some (.int (zI b)), some (.int (zI kind))], [.int (zI 2), .ref 7168], [r0, r1, r2, r3, r4, r5, r6, zH (upz s7 0 0 0) zL7 0, r8, r9])) rfl ?_
        obtain ⟨y8, e9, H⟩ := zbd H
        refine xB.call oX12_as (M2 := MX12_fails) rfl rfl ((t_X12_fails r0 r1 r2 r3 r4 r5 r6 (upz s7 0 0 0) r8 r9 2 e9).deep (by decide : 0 ≤ 0)) ?_
        show xBody MX12_as 1 49 [some (.ref 7168), some (.int (zI b)), some (.int (zI kind))] [.int (zI y8.1)] ([r0, r1, r2, r3, r4, r5, r6, zH y8.2 zL7 0, r8, r9]) _ _
        obtain rfl := Option.some.inj H
        exact xB.ret oX12_as (r1 := some (.int (zI y8.1))) rfl rfl rfl
      · have H := H.2 h7
        refine xB.run oX12_as 2 (s := (49, [some (.ref 7168), some (.int (zI b)), some (.int (zI kind))], [.int (zI 1)], [r0, r1, r2, r3, r4, r5, r6, zH (upz s7 0 0 0) zL7 0, r8, r9])) rfl ?_
        obtain rfl := Option.some.inj H
        exact xB.ret oX12_as (r1 := some (.int (zI 1))) rfl rfl rfl
    · have H := H.2 h6
      refine xB.run oX12_as 1 (s := (29, [some (.ref 7168), some (.int (zI b)), some (.int (zI kind))], [.int (zI (-2))], [r0, r1, r2, r3, r4, r5, r6, zH (upz s7 0 0 0) zL7 0, r8, r9])) rfl ?_
      obtain rfl := Option.some.inj H
      exact xB.ret oX12_as (r1 := some (.int (zI (-2)))) rfl rfl rfl
  · have H := H.2 h3
    refine xB.run oX12_as 1 (s := (14, [some (.ref 7168), some (.int (zI b)), some (.int (zI kind))], [.int (zI (-1))], [r0, r1, r2, r3, r4, r5, r6, zH (upz s7 0 0 0) zL7 0, r8, r9])) rfl ?_
    obtain rfl := Option.some.inj H
    exact xB.ret oX12_as (r1 := some (.int (zI (-1)))) rfl rfl rfl
def d_X12_trace (s7 : zZ) : Option (Int) := some (s7 0 1)
set_option maxRecDepth 20000 in
theorem t_X12_trace (r0 : List va_E) (r1 : List va_E) (r2 : List va_E) (r3 : List va_E) (r4 : List va_E) (r5 : List va_E) (r6 : List va_E) (s7 : zZ) (r8 : List va_E) (r9 : List va_E) {rr : Int} (H : d_X12_trace s7 = some rr) : xC MX12_trace 0 [.ref 7168] ([r0, r1, r2, r3, r4, r5, r6, zH s7 zL7 0, r8, r9]) (some (.int (zI rr))) ([r0, r1, r2, r3, r4, r5, r6, zH s7 zL7 0, r8, r9]) := by
  refine ⟨Nat.le_of_ble_eq_true rfl, ?_⟩
  show xBody MX12_trace 0 0 [some (.ref 7168)] [] ([r0, r1, r2, r3, r4, r5, r6, zH s7 zL7 0, r8, r9]) _ _
  unfold d_X12_trace at H
  refine xB.run oX12_trace 2 (s := (4, [some (.ref 7168)], [.int (zI (s7 0 1))], [r0, r1, r2, r3, r4, r5, r6, zH s7 zL7 0, r8, r9])) rfl ?_
  obtain rfl := Option.some.inj H
  exact xB.ret oX12_trace (r1 := some (.int (zI (s7 0 1)))) rfl rfl rfl
def d_X12_fault (s7 : zZ) : Option (Int) := some (s7 0 0)
set_option maxRecDepth 20000 in
theorem t_X12_fault (r0 : List va_E) (r1 : List va_E) (r2 : List va_E) (r3 : List va_E) (r4 : List va_E) (r5 : List va_E) (r6 : List va_E) (s7 : zZ) (r8 : List va_E) (r9 : List va_E) {rr : Int} (H : d_X12_fault s7 = some rr) : xC MX12_fault 0 [.ref 7168] ([r0, r1, r2, r3, r4, r5, r6, zH s7 zL7 0, r8, r9]) (some (.int (zI rr))) ([r0, r1, r2, r3, r4, r5, r6, zH s7 zL7 0, r8, r9]) := by
  refine ⟨Nat.le_of_ble_eq_true rfl, ?_⟩
  show xBody MX12_fault 0 0 [some (.ref 7168)] [] ([r0, r1, r2, r3, r4, r5, r6, zH s7 zL7 0, r8, r9]) _ _
  unfold d_X12_fault at H
  refine xB.run oX12_fault 2 (s := (4, [some (.ref 7168)], [.int (zI (s7 0 0))], [r0, r1, r2, r3, r4, r5, r6, zH s7 zL7 0, r8, r9])) rfl ?_
  obtain rfl := Option.some.inj H
  exact xB.ret oX12_fault (r1 := some (.int (zI (s7 0 0)))) rfl rfl rfl
def d_X12_many (s7 : zZ) (wh : Int) : Option (Int) := if zr wh then (if wh = 0 then some (s7 0 5) else (if wh = 1 then some (s7 0 14) else (if wh = 2 then some (s7 0 20) else (if wh = 3 then some (s7 0 21) else (if wh = 4 then some (s7 0 25) else (if wh = 5 then ((d_X12_manyBars s7).bind fun y8 => some ((s7 0 25) - y8)) else (if wh = 6 then some (s7 0 39) else some (-2)))))))) else none
set_option maxRecDepth 20000 in
theorem t_X12_many (r0 : List va_E) (r1 : List va_E) (r2 : List va_E) (r3 : List va_E) (r4 : List va_E) (r5 : List va_E) (r6 : List va_E) (s7 : zZ) (r8 : List va_E) (r9 : List va_E) (wh : Int) {rr : Int} (H : d_X12_many s7 wh = some rr) : xC MX12_many 1 [.ref 7168, .int (zI wh)] ([r0, r1, r2, r3, r4, r5, r6, zH s7 zL7 0, r8, r9]) (some (.int (zI rr))) ([r0, r1, r2, r3, r4, r5, r6, zH s7 zL7 0, r8, r9]) := by
  refine ⟨Nat.le_of_ble_eq_true rfl, ?_⟩
  show xBody MX12_many 1 0 [some (.ref 7168), some (.int (zI wh))] [] ([r0, r1, r2, r3, r4, r5, r6, zH s7 zL7 0, r8, r9]) _ _
  unfold d_X12_many at H
  refine xB.run oX12_many 1 (s := (1, [some (.ref 7168), some (.int (zI wh))], [.int (zI wh)], [r0, r1, r2, r3, r4, r5, r6, zH s7 zL7 0, r8, r9])) rfl ?_
  obtain ⟨g1, H⟩ := zgd H
  have H := zif H
  by_cases h2 : wh = 0
  · have H := H.1 h2
    refine xB.next oX12_many (s := (44, [some (.ref 7168), some (.int (zI wh))], [], [r0, r1, r2, r3, r4, r5, r6, zH s7 zL7 0, r8, r9])) (xsw_at rfl (by rw [zsw g1 0 _ (by decide), if_pos (show wh = ((0 : Nat) : Int) from h2)])) ?_
    refine xB.run oX12_many 2 (s := (48, [some (.ref 7168), some (.int (zI wh))], [.int (zI (s7 0 5))], [r0, r1, r2, r3, r4, r5, r6, zH s7 zL7 0, r8, r9])) rfl ?_
    obtain rfl := Option.some.inj H
    exact xB.ret oX12_many (r1 := some (.int (zI (s7 0 5)))) rfl rfl rfl
  · have H := H.2 h2
    have H := zif H
    by_cases h3 : wh = 1
    · have H := H.1 h3
      refine xB.next oX12_many (s := (49, [some (.ref 7168), some (.int (zI wh))], [], [r0, r1, r2, r3, r4, r5, r6, zH s7 zL7 0, r8, r9])) (xsw_at rfl (by rw [zsw g1 0 _ (by decide), if_neg (show ¬ wh = ((0 : Nat) : Int) from h2)]; rw [zsw g1 1 _ (by decide), if_pos (show wh = ((1 : Nat) : Int) from h3)])) ?_
      refine xB.run oX12_many 2 (s := (53, [some (.ref 7168), some (.int (zI wh))], [.int (zI (s7 0 14))], [r0, r1, r2, r3, r4, r5, r6, zH s7 zL7 0, r8, r9])) rfl ?_
      obtain rfl := Option.some.inj H
      exact xB.ret oX12_many (r1 := some (.int (zI (s7 0 14)))) rfl rfl rfl
    · have H := H.2 h3
      have H := zif H
      by_cases h4 : wh = 2
      · have H := H.1 h4
        refine xB.next oX12_many (s := (54, [some (.ref 7168), some (.int (zI wh))], [], [r0, r1, r2, r3, r4, r5, r6, zH s7 zL7 0, r8, r9])) (xsw_at rfl (by rw [zsw g1 0 _ (by decide), if_neg (show ¬ wh = ((0 : Nat) : Int) from h2)]; rw [zsw g1 1 _ (by decide), if_neg (show ¬ wh = ((1 : Nat) : Int) from h3)]; rw [zsw g1 2 _ (by decide), if_pos (show wh = ((2 : Nat) : Int) from h4)])) ?_
        refine xB.run oX12_many 2 (s := (58, [some (.ref 7168), some (.int (zI wh))], [.int (zI (s7 0 20))], [r0, r1, r2, r3, r4, r5, r6, zH s7 zL7 0, r8, r9])) rfl ?_
        obtain rfl := Option.some.inj H
        exact xB.ret oX12_many (r1 := some (.int (zI (s7 0 20)))) rfl rfl rfl
      · have H := H.2 h4
        have H := zif H
        by_cases h5 : wh = 3
        · have H := H.1 h5
          refine xB.next oX12_many (s := (59, [some (.ref 7168), some (.int (zI wh))], [], [r0, r1, r2, r3, r4, r5, r6, zH s7 zL7 0, r8, r9])) (xsw_at rfl (by rw [zsw g1 0 _ (by decide), if_neg (show ¬ wh = ((0 : Nat) : Int) from h2)]; rw [zsw g1 1 _ (by decide), if_neg (show ¬ wh = ((1 : Nat) : Int) from h3)]; rw [zsw g1 2 _ (by decide), if_neg (show ¬ wh = ((2 : Nat) : Int) from h4)]; rw [zsw g1 3 _ (by decide), if_pos (show wh = ((3 : Nat) : Int) from h5)])) ?_
          refine xB.run oX12_many 2 (s := (63, [some (.ref 7168), some (.int (zI wh))], [.int (zI (s7 0 21))], [r0, r1, r2, r3, r4, r5, r6, zH s7 zL7 0, r8, r9])) rfl ?_
          obtain rfl := Option.some.inj H
          exact xB.ret oX12_many (r1 := some (.int (zI (s7 0 21)))) rfl rfl rfl
        · have H := H.2 h5
          have H := zif H
          by_cases h6 : wh = 4
          · have H := H.1 h6
            refine xB.next oX12_many (s := (64, [some (.ref 7168), some (.int (zI wh))], [], [r0, r1, r2, r3, r4, r5, r6, zH s7 zL7 0, r8, r9])) (xsw_at rfl (by rw [zsw g1 0 _ (by decide), if_neg (show ¬ wh = ((0 : Nat) : Int) from h2)]; rw [zsw g1 1 _ (by decide), if_neg (show ¬ wh = ((1 : Nat) : Int) from h3)]; rw [zsw g1 2 _ (by decide), if_neg (show ¬ wh = ((2 : Nat) : Int) from h4)]; rw [zsw g1 3 _ (by decide), if_neg (show ¬ wh = ((3 : Nat) : Int) from h5)]; rw [zsw g1 4 _ (by decide), if_pos (show wh = ((4 : Nat) : Int) from h6)])) ?_
            refine xB.run oX12_many 2 (s := (68, [some (.ref 7168), some (.int (zI wh))], [.int (zI (s7 0 25))], [r0, r1, r2, r3, r4, r5, r6, zH s7 zL7 0, r8, r9])) rfl ?_
            obtain rfl := Option.some.inj H
            exact xB.ret oX12_many (r1 := some (.int (zI (s7 0 25)))) rfl rfl rfl
          · have H := H.2 h6
            have H := zif H
            by_cases h7 : wh = 5
            · have H := H.1 h7
              refine xB.next oX12_many (s := (69, [some (.ref 7168), some (.int (zI wh))], [], [r0, r1, r2, r3, r4, r5, r6, zH s7 zL7 0, r8, r9])) (xsw_at rfl (by rw [zsw g1 0 _ (by decide), if_neg (show ¬ wh = ((0 : Nat) : Int) from h2)]; rw [zsw g1 1 _ (by decide), if_neg (show ¬ wh = ((1 : Nat) : Int) from h3)]; rw [zsw g1 2 _ (by decide), if_neg (show ¬ wh = ((2 : Nat) : Int) from h4)]; rw [zsw g1 3 _ (by decide), if_neg (show ¬ wh = ((3 : Nat) : Int) from h5)]; rw [zsw g1 4 _ (by decide), if_neg (show ¬ wh = ((4 : Nat) : Int) from h6)]; rw [zsw g1 5 _ (by decide), if_pos (show wh = ((5 : Nat) : Int) from h7)])) ?_
              refine xB.run oX12_many 3 (s := (74, [some (.ref 7168), some (.int (zI wh))], [.ref 7168, .int (zI (s7 0 25))], [r0, r1, r2, r3, r4, r5, r6, zH s7 zL7 0, r8, r9])) rfl ?_
              obtain ⟨y8, e9, H⟩ := zbd H
              refine xB.call oX12_many (M2 := MX12_manyBars) rfl rfl ((t_X12_manyBars r0 r1 r2 r3 r4 r5 r6 s7 r8 r9  e9).deep (by decide : 0 ≤ 0)) ?_
              show xBody MX12_many 1 77 [some (.ref 7168), some (.int (zI wh))] [.int (zI y8), .int (zI (s7 0 25))] ([r0, r1, r2, r3, r4, r5, r6, zH s7 zL7 0, r8, r9]) _ _
              refine zB.opi oX12_many rfl (zi_sub (s7 0 25) y8) ?_
              obtain rfl := Option.some.inj H
              exact xB.ret oX12_many (r1 := some (.int (zI ((s7 0 25) - y8)))) rfl rfl rfl
            · have H := H.2 h7
              have H := zif H
              by_cases h10 : wh = 6
              · have H := H.1 h10
                refine xB.next oX12_many (s := (79, [some (.ref 7168), some (.int (zI wh))], [], [r0, r1, r2, r3, r4, r5, r6, zH s7 zL7 0, r8, r9])) (xsw_at rfl (by rw [zsw g1 0 _ (by decide), if_neg (show ¬ wh = ((0 : Nat) : Int) from h2)]; rw [zsw g1 1 _ (by decide), if_neg (show ¬ wh = ((1 : Nat) : Int) from h3)]; rw [zsw g1 2 _ (by decide), if_neg (show ¬ wh = ((2 : Nat) : Int) from h4)]; rw [zsw g1 3 _ (by decide), if_neg (show ¬ wh = ((3 : Nat) : Int) from h5)]; rw [zsw g1 4 _ (by decide), if_neg (show ¬ wh = ((4 : Nat) : Int) from h6)]; rw [zsw g1 5 _ (by decide), if_neg (show ¬ wh = ((5 : Nat) : Int) from h7)]; rw [zsw g1 6 _ (by decide), if_pos (show wh = ((6 : Nat) : Int) from h10)])) ?_
                refine xB.run oX12_many 2 (s := (83, [some (.ref 7168), some (.int (zI wh))], [.int (zI (s7 0 39))], [r0, r1, r2, r3, r4, r5, r6, zH s7 zL7 0, r8, r9])) rfl ?_
                obtain rfl := Option.some.inj H
                exact xB.ret oX12_many (r1 := some (.int (zI (s7 0 39)))) rfl rfl rfl
              · have H := H.2 h10
                refine xB.next oX12_many (s := (84, [some (.ref 7168), some (.int (zI wh))], [], [r0, r1, r2, r3, r4, r5, r6, zH s7 zL7 0, r8, r9])) (xsw_at rfl (by rw [zsw g1 0 _ (by decide), if_neg (show ¬ wh = ((0 : Nat) : Int) from h2)]; rw [zsw g1 1 _ (by decide), if_neg (show ¬ wh = ((1 : Nat) : Int) from h3)]; rw [zsw g1 2 _ (by decide), if_neg (show ¬ wh = ((2 : Nat) : Int) from h4)]; rw [zsw g1 3 _ (by decide), if_neg (show ¬ wh = ((3 : Nat) : Int) from h5)]; rw [zsw g1 4 _ (by decide), if_neg (show ¬ wh = ((4 : Nat) : Int) from h6)]; rw [zsw g1 5 _ (by decide), if_neg (show ¬ wh = ((5 : Nat) : Int) from h7)]; rw [zsw g1 6 _ (by decide), if_neg (show ¬ wh = ((6 : Nat) : Int) from h10)]; rfl)) ?_
                refine xB.run oX12_many 1 (s := (86, [some (.ref 7168), some (.int (zI wh))], [.int (zI (-2))], [r0, r1, r2, r3, r4, r5, r6, zH s7 zL7 0, r8, r9])) rfl ?_
                obtain rfl := Option.some.inj H
                exact xB.ret oX12_many (r1 := some (.int (zI (-2)))) rfl rfl rfl
