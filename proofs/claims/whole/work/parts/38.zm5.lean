/-! 38.zm5 -/
def d_X12_hole (s7 : zZ) (row : Int) (col : Int) (out : Int) : Option (Int × zZ) := if zr row then ((d_X12_within row 0 9).bind fun y1 => if (zr y1) then (if y1 = 0 then some ((-1), s7) else (if zr col then ((d_X12_within col 0 9).bind fun y4 => if (zr y4) then (if y4 ≠ 0 then (if (0 ≤ ((10 * row) + col) ∧ ((10 * row) + col) < 100) then (if (zr (s7 27 ((10 * row) + col).toNat) ∧ zr out) then (if (s7 27 ((10 * row) + col).toNat) ≠ out then (if ((0 ≤ ((10 * row) + col) ∧ ((10 * row) + col) < 100) ∧ (out = 0 ∨ out = 1)) then some (1, upz s7 27 ((10 * row) + col).toNat out) else none) else (if ((0 ≤ ((10 * row) + col) ∧ ((10 * row) + col) < 100) ∧ (out = 0 ∨ out = 1)) then some (0, upz s7 27 ((10 * row) + col).toNat out) else none)) else none) else none) else some ((-1), s7)) else none) else none)) else none) else none
set_option maxRecDepth 20000 in
theorem t_X12_hole (r0 : List va_E) (r1 : List va_E) (r2 : List va_E) (r3 : List va_E) (r4 : List va_E) (r5 : List va_E) (r6 : List va_E) (s7 : zZ) (r8 : List va_E) (r9 : List va_E) (row : Int) (col : Int) (out : Int) {rr : Int × zZ} (H : d_X12_hole s7 row col out = some rr) : xC MX12_hole 1 [.ref 7168, .int (zI row), .int (zI col), .int (zI out)] ([r0, r1, r2, r3, r4, r5, r6, zH s7 zL7 0, r8, r9]) (some (.int (zI rr.1))) ([r0, r1, r2, r3, r4, r5, r6, zH rr.2 zL7 0, r8, r9]) := by
  refine ⟨Nat.le_of_ble_eq_true rfl, ?_⟩
  show xBody MX12_hole 1 0 [some (.ref 7168), some (.int (zI row)), some (.int (zI col)), some (.int (zI out)), none] [] ([r0, r1, r2, r3, r4, r5, r6, zH s7 zL7 0, r8, r9]) _ _
  unfold d_X12_hole at H
  refine xB.run oX12_hole 1 (s := (1, [some (.ref 7168), some (.int (zI row)), some (.int (zI col)), some (.int (zI out)), none], [.int (zI row)], [r0, r1, r2, r3, r4, r5, r6, zH s7 zL7 0, r8, r9])) rfl ?_
  obtain ⟨g15, H⟩ := zgd H
  refine zB.opl oX12_hole rfl (zi_i2l g15) ?_
  refine xB.run oX12_hole 2 (s := (6, [some (.ref 7168), some (.int (zI row)), some (.int (zI col)), some (.int (zI out)), none], [.long (zJ 9), .long (zJ 0), .long (zJ row)], [r0, r1, r2, r3, r4, r5, r6, zH s7 zL7 0, r8, r9])) rfl ?_
  obtain ⟨y1, e2, H⟩ := zbd H
  refine xB.call oX12_hole (M2 := MX12_within) rfl rfl ((t_X12_within r0 r1 r2 r3 r4 r5 r6 (zH s7 zL7 0) r8 r9 row 0 9 e2).deep (by decide : 0 ≤ 0)) ?_
  show xBody MX12_hole 1 9 [some (.ref 7168), some (.int (zI row)), some (.int (zI col)), some (.int (zI out)), none] [.int (zI y1)] ([r0, r1, r2, r3, r4, r5, r6, zH s7 zL7 0, r8, r9]) _ _
  obtain ⟨g14, H⟩ := zgd H
  have H := zif H
  refine xB.brE oX12_hole (P := y1 = 0) rfl (zc_eq (a := y1) (b := 0) ⟨g14, by decide⟩) (fun h3 => ?_) (fun h3 => ?_)
  · have H := H.1 h3
    refine xB.run oX12_hole 1 (s := (25, [some (.ref 7168), some (.int (zI row)), some (.int (zI col)), some (.int (zI out)), none], [.int (zI (-1))], [r0, r1, r2, r3, r4, r5, r6, zH s7 zL7 0, r8, r9])) rfl ?_
    obtain rfl := Option.some.inj H
    exact xB.ret oX12_hole (r1 := some (.int (zI (-1)))) rfl rfl rfl
  · have H := H.2 h3
    refine xB.run oX12_hole 1 (s := (13, [some (.ref 7168), some (.int (zI row)), some (.int (zI col)), some (.int (zI out)), none], [.int (zI col)], [r0, r1, r2, r3, r4, r5, r6, zH s7 zL7 0, r8, r9])) rfl ?_
    obtain ⟨g13, H⟩ := zgd H
    refine zB.opl oX12_hole rfl (zi_i2l g13) ?_
    refine xB.run oX12_hole 2 (s := (18, [some (.ref 7168), some (.int (zI row)), some (.int (zI col)), some (.int (zI out)), none], [.long (zJ 9), .long (zJ 0), .long (zJ col)], [r0, r1, r2, r3, r4, r5, r6, zH s7 zL7 0, r8, r9])) rfl ?_
    obtain ⟨y4, e5, H⟩ := zbd H
    refine xB.call oX12_hole (M2 := MX12_within) rfl rfl ((t_X12_within r0 r1 r2 r3 r4 r5 r6 (zH s7 zL7 0) r8 r9 col 0 9 e5).deep (by decide : 0 ≤ 0)) ?_
    show xBody MX12_hole 1 21 [some (.ref 7168), some (.int (zI row)), some (.int (zI col)), some (.int (zI out)), none] [.int (zI y4)] ([r0, r1, r2, r3, r4, r5, r6, zH s7 zL7 0, r8, r9]) _ _
    obtain ⟨g12, H⟩ := zgd H
    have H := zif H
    refine xB.brE oX12_hole (P := y4 ≠ 0) rfl (zc_ne (a := y4) (b := 0) ⟨g12, by decide⟩) (fun h6 => ?_) (fun h6 => ?_)
    · have H := H.1 h6
      refine xB.run oX12_hole 4 (s := (33, [some (.ref 7168), some (.int (zI row)), some (.int (zI col)), some (.int (zI out)), none], [.int (zI row), .int (zI 10), .ref 7195], [r0, r1, r2, r3, r4, r5, r6, zH s7 zL7 0, r8, r9])) rfl ?_
      refine zB.opi oX12_hole rfl (zi_mul 10 row) ?_
      refine xB.run oX12_hole 1 (s := (35, [some (.ref 7168), some (.int (zI row)), some (.int (zI col)), some (.int (zI out)), none], [.int (zI col), .int (zI (10 * row)), .ref 7195], [r0, r1, r2, r3, r4, r5, r6, zH s7 zL7 0, r8, r9])) rfl ?_
      refine zB.opi oX12_hole rfl (zi_add (10 * row) col) ?_
      obtain ⟨g11, H⟩ := zgd H
      refine zB.bald oX12_hole (g := 7) (p := 27) (N := 100) (i := (10 * row) + col) rfl rfl (by decide) rfl rfl (by decide) g11 ?_
      refine xB.run oX12_hole 1 (s := (38, [some (.ref 7168), some (.int (zI row)), some (.int (zI col)), some (.int (zI out)), none], [.int (zI out), .int (zI (s7 27 ((10 * row) + col).toNat))], [r0, r1, r2, r3, r4, r5, r6, zH s7 zL7 0, r8, r9])) rfl ?_
      obtain ⟨g10, H⟩ := zgd H
      have H := zif H
      refine xB.brE oX12_hole (P := (s7 27 ((10 * row) + col).toNat) ≠ out) rfl (zc_ne (a := s7 27 ((10 * row) + col).toNat) (b := out) g10) (fun h7 => ?_) (fun h7 => ?_)
      · have H := H.1 h7
        refine xB.run oX12_hole 6 (s := (55, [some (.ref 7168), some (.int (zI row)), some (.int (zI col)), some (.int (zI out)), some (.int (zI 1))], [.int (zI row), .int (zI 10), .ref 7195], [r0, r1, r2, r3, r4, r5, r6, zH s7 zL7 0, r8, r9])) rfl ?_
        refine zB.opi oX12_hole rfl (zi_mul 10 row) ?_
        refine xB.run oX12_hole 1 (s := (57, [some (.ref 7168), some (.int (zI row)), some (.int (zI col)), some (.int (zI out)), some (.int (zI 1))], [.int (zI col), .int (zI (10 * row)), .ref 7195], [r0, r1, r2, r3, r4, r5, r6, zH s7 zL7 0, r8, r9])) rfl ?_
        refine zB.opi oX12_hole rfl (zi_add (10 * row) col) ?_
        refine xB.run oX12_hole 1 (s := (59, [some (.ref 7168), some (.int (zI row)), some (.int (zI col)), some (.int (zI out)), some (.int (zI 1))], [.int (zI out), .int (zI ((10 * row) + col)), .ref 7195], [r0, r1, r2, r3, r4, r5, r6, zH s7 zL7 0, r8, r9])) rfl ?_
        obtain ⟨g8, H⟩ := zgd H
        refine zB.bast oX12_hole (g := 7) (p := 27) (N := 100) (i := (10 * row) + col) (hp1 := [r0, r1, r2, r3, r4, r5, r6, zH (upz s7 27 ((10 * row) + col).toNat out) zL7 0, r8, r9]) rfl rfl (by decide) (by decide) rfl rfl (by decide) g8.2 g8.1 rfl ?_
        refine xB.run oX12_hole 1 (s := (62, [some (.ref 7168), some (.int (zI row)), some (.int (zI col)), some (.int (zI out)), some (.int (zI 1))], [.int (zI 1)], [r0, r1, r2, r3, r4, r5, r6, zH (upz s7 27 ((10 * row) + col).toNat out) zL7 0, r8, r9])) rfl ?_
        obtain rfl := Option.some.inj H
        exact xB.ret oX12_hole (r1 := some (.int (zI 1))) rfl rfl rfl
      · have H := H.2 h7
        refine xB.run oX12_hole 7 (s := (55, [some (.ref 7168), some (.int (zI row)), some (.int (zI col)), some (.int (zI out)), some (.int (zI 0))], [.int (zI row), .int (zI 10), .ref 7195], [r0, r1, r2, r3, r4, r5, r6, zH s7 zL7 0, r8, r9])) rfl ?_
        refine zB.opi oX12_hole rfl (zi_mul 10 row) ?_
        refine xB.run oX12_hole 1 (s := (57, [some (.ref 7168), some (.int (zI row)), some (.int (zI col)), some (.int (zI out)), some (.int (zI 0))], [.int (zI col), .int (zI (10 * row)), .ref 7195], [r0, r1, r2, r3, r4, r5, r6, zH s7 zL7 0, r8, r9])) rfl ?_
        refine zB.opi oX12_hole rfl (zi_add (10 * row) col) ?_
        refine xB.run oX12_hole 1 (s := (59, [some (.ref 7168), some (.int (zI row)), some (.int (zI col)), some (.int (zI out)), some (.int (zI 0))], [.int (zI out), .int (zI ((10 * row) + col)), .ref 7195], [r0, r1, r2, r3, r4, r5, r6, zH s7 zL7 0, r8, r9])) rfl ?_
        obtain ⟨g9, H⟩ := zgd H
        refine zB.bast oX12_hole (g := 7) (p := 27) (N := 100) (i := (10 * row) + col) (hp1 := [r0, r1, r2, r3, r4, r5, r6, zH (upz s7 27 ((10 * row) + col).toNat out) zL7 0, r8, r9]) rfl rfl (by decide) (by decide) rfl rfl (by decide) g9.2 g9.1 rfl ?_
        refine xB.run oX12_hole 1 (s := (62, [some (.ref 7168), some (.int (zI row)), some (.int (zI col)), some (.int (zI out)), some (.int (zI 0))], [.int (zI 0)], [r0, r1, r2, r3, r4, r5, r6, zH (upz s7 27 ((10 * row) + col).toNat out) zL7 0, r8, r9])) rfl ?_
        obtain rfl := Option.some.inj H
        exact xB.ret oX12_hole (r1 := some (.int (zI 0))) rfl rfl rfl
    · have H := H.2 h6
      refine xB.run oX12_hole 1 (s := (25, [some (.ref 7168), some (.int (zI row)), some (.int (zI col)), some (.int (zI out)), none], [.int (zI (-1))], [r0, r1, r2, r3, r4, r5, r6, zH s7 zL7 0, r8, r9])) rfl ?_
      obtain rfl := Option.some.inj H
      exact xB.ret oX12_hole (r1 := some (.int (zI (-1)))) rfl rfl rfl
def d_X12_areNear (s7 : zZ) (a : Int) (b : Int) (cor : Int) : Option (Int) := if (0 ≤ a ∧ zr a) then (if (0 ≤ b ∧ zr b) then (if (0 ≤ a ∧ zr a) then (if (0 ≤ b ∧ zr b) then (if zr ((a / 10) - (b / 10)) then ((d_X12_within ((a / 10) - (b / 10)) (-1) 1).bind fun y1 => if (zr y1) then (if y1 = 0 then some 0 else (if zr ((a % 10) - (b % 10)) then ((d_X12_within ((a % 10) - (b % 10)) (-1) 1).bind fun y4 => if (zr y4) then (if y4 = 0 then some 0 else (if (zr cor) then (if cor ≠ 0 then some 1 else (if (zr ((a / 10) - (b / 10))) then (if ((a / 10) - (b / 10)) = 0 then some 1 else (if (zr ((a % 10) - (b % 10))) then (if ((a % 10) - (b % 10)) ≠ 0 then some 0 else some 1) else none)) else none)) else none)) else none) else none)) else none) else none) else none) else none) else none) else none
set_option maxRecDepth 20000 in
theorem t_X12_areNear (r0 : List va_E) (r1 : List va_E) (r2 : List va_E) (r3 : List va_E) (r4 : List va_E) (r5 : List va_E) (r6 : List va_E) (s7 : zZ) (r8 : List va_E) (r9 : List va_E) (a : Int) (b : Int) (cor : Int) {rr : Int} (H : d_X12_areNear s7 a b cor = some rr) : xC MX12_areNear 1 [.ref 7168, .int (zI a), .int (zI b), .int (zI cor)] ([r0, r1, r2, r3, r4, r5, r6, zH s7 zL7 0, r8, r9]) (some (.int (zI rr))) ([r0, r1, r2, r3, r4, r5, r6, zH s7 zL7 0, r8, r9]) := by
  refine ⟨Nat.le_of_ble_eq_true rfl, ?_⟩
  show xBody MX12_areNear 1 0 [some (.ref 7168), some (.int (zI a)), some (.int (zI b)), some (.int (zI cor)), none, none, none] [] ([r0, r1, r2, r3, r4, r5, r6, zH s7 zL7 0, r8, r9]) _ _
  unfold d_X12_areNear at H
  refine xB.run oX12_areNear 2 (s := (3, [some (.ref 7168), some (.int (zI a)), some (.int (zI b)), some (.int (zI cor)), none, none, none], [.int (zI 10), .int (zI a)], [r0, r1, r2, r3, r4, r5, r6, zH s7 zL7 0, r8, r9])) rfl ?_
  obtain ⟨g20, H⟩ := zgd H
  refine zB.divi oX12_areNear (b := 10) rfl (zi_divp g20 (by decide)) rfl (by decide) ?_
  refine xB.run oX12_areNear 2 (s := (7, [some (.ref 7168), some (.int (zI a)), some (.int (zI b)), some (.int (zI cor)), none, none, none], [.int (zI 10), .int (zI b), .int (zI (a / 10))], [r0, r1, r2, r3, r4, r5, r6, zH s7 zL7 0, r8, r9])) rfl ?_
  obtain ⟨g19, H⟩ := zgd H
  refine zB.divi oX12_areNear (b := 10) rfl (zi_divp g19 (by decide)) rfl (by decide) ?_
  refine zB.opi oX12_areNear rfl (zi_sub (a / 10) (b / 10)) ?_
  refine xB.run oX12_areNear 3 (s := (14, [some (.ref 7168), some (.int (zI a)), some (.int (zI b)), some (.int (zI cor)), some (.int (zI ((a / 10) - (b / 10)))), none, none], [.int (zI 10), .int (zI a)], [r0, r1, r2, r3, r4, r5, r6, zH s7 zL7 0, r8, r9])) rfl ?_
  obtain ⟨g18, H⟩ := zgd H
  refine zB.divi oX12_areNear (b := 10) rfl (zi_remp g18 (by decide)) rfl (by decide) ?_
  refine xB.run oX12_areNear 2 (s := (18, [some (.ref 7168), some (.int (zI a)), some (.int (zI b)), some (.int (zI cor)), some (.int (zI ((a / 10) - (b / 10)))), none, none], [.int (zI 10), .int (zI b), .int (zI (a % 10))], [r0, r1, r2, r3, r4, r5, r6, zH s7 zL7 0, r8, r9])) rfl ?_
  obtain ⟨g17, H⟩ := zgd H
  refine zB.divi oX12_areNear (b := 10) rfl (zi_remp g17 (by decide)) rfl (by decide) ?_
  refine zB.opi oX12_areNear rfl (zi_sub (a % 10) (b % 10)) ?_
  refine xB.run oX12_areNear 2 (s := (24, [some (.ref 7168), some (.int (zI a)), some (.int (zI b)), some (.int (zI cor)), some (.int (zI ((a / 10) - (b / 10)))), some (.int (zI ((a % 10) - (b % 10)))), none], [.int (zI ((a / 10) - (b / 10)))], [r0, r1, r2, r3, r4, r5, r6, zH s7 zL7 0, r8, r9])) rfl ?_
  obtain ⟨g16, H⟩ := zgd H
  refine zB.opl oX12_areNear rfl (zi_i2l g16) ?_
  refine xB.run oX12_areNear 2 (s := (29, [some (.ref 7168), some (.int (zI a)), some (.int (zI b)), some (.int (zI cor)), some (.int (zI ((a / 10) - (b / 10)))), some (.int (zI ((a % 10) - (b % 10)))), none], [.long (zJ 1), .long (zJ (-1)), .long (zJ ((a / 10) - (b / 10)))], [r0, r1, r2, r3, r4, r5, r6, zH s7 zL7 0, r8, r9])) rfl ?_
  obtain ⟨y1, e2, H⟩ := zbd H
  refine xB.call oX12_areNear (M2 := MX12_within) rfl rfl ((t_X12_within r0 r1 r2 r3 r4 r5 r6 (zH s7 zL7 0) r8 r9 ((a / 10) - (b / 10)) (-1) 1 e2).deep (by decide : 0 ≤ 0)) ?_
  show xBody MX12_areNear 1 32 [some (.ref 7168), some (.int (zI a)), some (.int (zI b)), some (.int (zI cor)), some (.int (zI ((a / 10) - (b / 10)))), some (.int (zI ((a % 10) - (b % 10)))), none] [.int (zI y1)] ([r0, r1, r2, r3, r4, r5, r6, zH s7 zL7 0, r8, r9]) _ _
  obtain ⟨g15, H⟩ := zgd H
  have H := zif H
  refine xB.brE oX12_areNear (P := y1 = 0) rfl (zc_eq (a := y1) (b := 0) ⟨g15, by decide⟩) (fun h3 => ?_) (fun h3 => ?_)
  · have H := H.1 h3
    refine xB.run oX12_areNear 5 (s := (79, [some (.ref 7168), some (.int (zI a)), some (.int (zI b)), some (.int (zI cor)), some (.int (zI ((a / 10) - (b / 10)))), some (.int (zI ((a % 10) - (b % 10)))), some (.int (zI 0))], [.int (zI 0)], [r0, r1, r2, r3, r4, r5, r6, zH s7 zL7 0, r8, r9])) rfl ?_
    obtain rfl := Option.some.inj H
    exact xB.ret oX12_areNear (r1 := some (.int (zI 0))) rfl rfl rfl
  · have H := H.2 h3
    refine xB.run oX12_areNear 1 (s := (37, [some (.ref 7168), some (.int (zI a)), some (.int (zI b)), some (.int (zI cor)), some (.int (zI ((a / 10) - (b / 10)))), some (.int (zI ((a % 10) - (b % 10)))), none], [.int (zI ((a % 10) - (b % 10)))], [r0, r1, r2, r3, r4, r5, r6, zH s7 zL7 0, r8, r9])) rfl ?_
    obtain ⟨g14, H⟩ := zgd H
    refine zB.opl oX12_areNear rfl (zi_i2l g14) ?_
    refine xB.run oX12_areNear 2 (s := (42, [some (.ref 7168), some (.int (zI a)), some (.int (zI b)), some (.int (zI cor)), some (.int (zI ((a / 10) - (b / 10)))), some (.int (zI ((a % 10) - (b % 10)))), none], [.long (zJ 1), .long (zJ (-1)), .long (zJ ((a % 10) - (b % 10)))], [r0, r1, r2, r3, r4, r5, r6, zH s7 zL7 0, r8, r9])) rfl ?_
    obtain ⟨y4, e5, H⟩ := zbd H
    refine xB.call oX12_areNear (M2 := MX12_within) rfl rfl ((t_X12_within r0 r1 r2 r3 r4 r5 r6 (zH s7 zL7 0) r8 r9 ((a % 10) - (b % 10)) (-1) 1 e5).deep (by decide : 0 ≤ 0)) ?_
    show xBody MX12_areNear 1 45 [some (.ref 7168), some (.int (zI a)), some (.int (zI b)), some (.int (zI cor)), some (.int (zI ((a / 10) - (b / 10)))), some (.int (zI ((a % 10) - (b % 10)))), none] [.int (zI y4)] ([r0, r1, r2, r3, r4, r5, r6, zH s7 zL7 0, r8, r9]) _ _
    obtain ⟨g13, H⟩ := zgd H
    have H := zif H
    refine xB.brE oX12_areNear (P := y4 = 0) rfl (zc_eq (a := y4) (b := 0) ⟨g13, by decide⟩) (fun h6 => ?_) (fun h6 => ?_)
    · have H := H.1 h6
      refine xB.run oX12_areNear 5 (s := (79, [some (.ref 7168), some (.int (zI a)), some (.int (zI b)), some (.int (zI cor)), some (.int (zI ((a / 10) - (b / 10)))), some (.int (zI ((a % 10) - (b % 10)))), some (.int (zI 0))], [.int (zI 0)], [r0, r1, r2, r3, r4, r5, r6, zH s7 zL7 0, r8, r9])) rfl ?_
      obtain rfl := Option.some.inj H
      exact xB.ret oX12_areNear (r1 := some (.int (zI 0))) rfl rfl rfl
    · have H := H.2 h6
      refine xB.run oX12_areNear 6 (s := (61, [some (.ref 7168), some (.int (zI a)), some (.int (zI b)), some (.int (zI cor)), some (.int (zI ((a / 10) - (b / 10)))), some (.int (zI ((a % 10) - (b % 10)))), some (.int (zI 1))], [.int (zI cor)], [r0, r1, r2, r3, r4, r5, r6, zH s7 zL7 0, r8, r9])) rfl ?_
      obtain ⟨g12, H⟩ := zgd H
      have H := zif H
      refine xB.brE oX12_areNear (P := cor ≠ 0) rfl (zc_ne (a := cor) (b := 0) ⟨g12, by decide⟩) (fun h7 => ?_) (fun h7 => ?_)
      · have H := H.1 h7
        refine xB.run oX12_areNear 2 (s := (79, [some (.ref 7168), some (.int (zI a)), some (.int (zI b)), some (.int (zI cor)), some (.int (zI ((a / 10) - (b / 10)))), some (.int (zI ((a % 10) - (b % 10)))), some (.int (zI 1))], [.int (zI 1)], [r0, r1, r2, r3, r4, r5, r6, zH s7 zL7 0, r8, r9])) rfl ?_
        obtain rfl := Option.some.inj H
        exact xB.ret oX12_areNear (r1 := some (.int (zI 1))) rfl rfl rfl
      · have H := H.2 h7
        refine xB.run oX12_areNear 1 (s := (66, [some (.ref 7168), some (.int (zI a)), some (.int (zI b)), some (.int (zI cor)), some (.int (zI ((a / 10) - (b / 10)))), some (.int (zI ((a % 10) - (b % 10)))), some (.int (zI 1))], [.int (zI ((a / 10) - (b / 10)))], [r0, r1, r2, r3, r4, r5, r6, zH s7 zL7 0, r8, r9])) rfl ?_
        obtain ⟨g11, H⟩ := zgd H
        have H := zif H
        refine xB.brE oX12_areNear (P := ((a / 10) - (b / 10)) = 0) rfl (zc_eq (a := (a / 10) - (b / 10)) (b := 0) ⟨g11, by decide⟩) (fun h8 => ?_) (fun h8 => ?_)
        · have H := H.1 h8
          refine xB.run oX12_areNear 2 (s := (79, [some (.ref 7168), some (.int (zI a)), some (.int (zI b)), some (.int (zI cor)), some (.int (zI ((a / 10) - (b / 10)))), some (.int (zI ((a % 10) - (b % 10)))), some (.int (zI 1))], [.int (zI 1)], [r0, r1, r2, r3, r4, r5, r6, zH s7 zL7 0, r8, r9])) rfl ?_
          obtain rfl := Option.some.inj H
          exact xB.ret oX12_areNear (r1 := some (.int (zI 1))) rfl rfl rfl
        · have H := H.2 h8
          refine xB.run oX12_areNear 1 (s := (71, [some (.ref 7168), some (.int (zI a)), some (.int (zI b)), some (.int (zI cor)), some (.int (zI ((a / 10) - (b / 10)))), some (.int (zI ((a % 10) - (b % 10)))), some (.int (zI 1))], [.int (zI ((a % 10) - (b % 10)))], [r0, r1, r2, r3, r4, r5, r6, zH s7 zL7 0, r8, r9])) rfl ?_
          obtain ⟨g10, H⟩ := zgd H
          have H := zif H
          refine xB.brE oX12_areNear (P := ((a % 10) - (b % 10)) ≠ 0) rfl (zc_ne (a := (a % 10) - (b % 10)) (b := 0) ⟨g10, by decide⟩) (fun h9 => ?_) (fun h9 => ?_)
          · have H := H.1 h9
            refine xB.run oX12_areNear 1 (s := (79, [some (.ref 7168), some (.int (zI a)), some (.int (zI b)), some (.int (zI cor)), some (.int (zI ((a / 10) - (b / 10)))), some (.int (zI ((a % 10) - (b % 10)))), some (.int (zI 1))], [.int (zI 0)], [r0, r1, r2, r3, r4, r5, r6, zH s7 zL7 0, r8, r9])) rfl ?_
            obtain rfl := Option.some.inj H
            exact xB.ret oX12_areNear (r1 := some (.int (zI 0))) rfl rfl rfl
          · have H := H.2 h9
            refine xB.run oX12_areNear 2 (s := (79, [some (.ref 7168), some (.int (zI a)), some (.int (zI b)), some (.int (zI cor)), some (.int (zI ((a / 10) - (b / 10)))), some (.int (zI ((a % 10) - (b % 10)))), some (.int (zI 1))], [.int (zI 1)], [r0, r1, r2, r3, r4, r5, r6, zH s7 zL7 0, r8, r9])) rfl ?_
            obtain rfl := Option.some.inj H
            exact xB.ret oX12_areNear (r1 := some (.int (zI 1))) rfl rfl rfl
def d_X12_spread_59 (from_ : Int) (lot : Int) (a : Int) : Nat → Int → Int → zZ → Option (Int × Int × zZ)
  | 0, _, _, _ => none
  | uN + 1, more, d, s7 => if (zr d) then (if (9 : Int) ≤ d then some (more, d, s7) else (if (0 ≤ a ∧ zr a) then (if (0 ≤ d ∧ zr d) then (if (0 ≤ a ∧ zr a) then (if (0 ≤ d ∧ zr d) then (if zr (((a / 10) + (d / 3)) - 1) then ((d_X12_within (((a / 10) + (d / 3)) - 1) 0 9).bind fun y6 => if (zr y6) then (if y6 = 0 then (d_X12_spread_59 from_ lot a uN more (d + 1) s7) else (if zr (((a % 10) + (d % 3)) - 1) then ((d_X12_within (((a % 10) + (d % 3)) - 1) 0 9).bind fun y9 => if (zr y9) then (if y9 = 0 then (d_X12_spread_59 from_ lot a uN more (d + 1) s7) else (if (0 ≤ ((10 * (((a / 10) + (d / 3)) - 1)) + (((a % 10) + (d % 3)) - 1)) ∧ ((10 * (((a / 10) + (d / 3)) - 1)) + (((a % 10) + (d % 3)) - 1)) < 100) then (if (zr (s7 28 ((10 * (((a / 10) + (d / 3)) - 1)) + (((a % 10) + (d % 3)) - 1)).toNat) ∧ zr lot) then (if (s7 28 ((10 * (((a / 10) + (d / 3)) - 1)) + (((a % 10) + (d % 3)) - 1)).toNat) ≠ lot then (d_X12_spread_59 from_ lot a uN more (d + 1) s7) else (if (0 ≤ from_ ∧ from_ < 100) then ((d_X12_areNear s7 a ((10 * (((a / 10) + (d / 3)) - 1)) + (((a % 10) + (d % 3)) - 1)) (s7 27 from_.toNat)).bind fun y13 => if (zr y13) then (if y13 = 0 then (d_X12_spread_59 from_ lot a uN more (d + 1) s7) else (if (0 ≤ a ∧ a < 100) then some (1, d, upz s7 28 a.toNat lot) else none)) else none) else none)) else none) else none)) else none) else none)) else none) else none) else none) else none) else none) else none)) else none
def d_X12_spread_18 (from_ : Int) (lot : Int) : Nat → Int → Int → zZ → Option (Int × Int × zZ)
  | 0, _, _, _ => none
  | uN + 1, more, a, s7 => if (zr a) then (if (100 : Int) ≤ a then some (more, a, s7) else (if (0 ≤ a ∧ a < 100) then (if (zr (s7 28 a.toNat)) then (if (s7 28 a.toNat) ≠ (-9) then (d_X12_spread_18 from_ lot uN more (a + 1) s7) else (if (0 ≤ a ∧ a < 100) then (if (0 ≤ from_ ∧ from_ < 100) then (if (zr (s7 27 a.toNat) ∧ zr (s7 27 from_.toNat)) then (if (s7 27 a.toNat) = (s7 27 from_.toNat) then ((d_X12_spread_59 from_ lot a zF more 0 s7).bind fun y30 => d_X12_spread_18 from_ lot uN y30.1 (a + 1) y30.2.2) else (d_X12_spread_18 from_ lot uN more (a + 1) s7)) else none) else none) else none)) else none) else none)) else none
def d_X12_spread_9 (from_ : Int) (lot : Int) : Nat → Int → zZ → Option (Int × zZ)
  | 0, _, _ => none
  | uN + 1, more, s7 => if (zr more) then (if more = 0 then some (more, s7) else ((d_X12_spread_18 from_ lot zF 0 0 s7).bind fun y38 => d_X12_spread_9 from_ lot uN y38.1 y38.2.2)) else none
def d_X12_spread (s7 : zZ) (from_ : Int) (lot : Int) : Option (zZ) := if (0 ≤ from_ ∧ from_ < 100) then ((d_X12_spread_9 from_ lot zF 1 (upz s7 28 from_.toNat lot)).bind fun y41 => some y41.2) else none
set_option maxRecDepth 20000 in
theorem l_X12_spread_59 (r0 : List va_E) (r1 : List va_E) (r2 : List va_E) (r3 : List va_E) (r4 : List va_E) (r5 : List va_E) (r6 : List va_E) (r8 : List va_E) (r9 : List va_E) (from_ : Int) (lot : Int) (a : Int) {r : Option Value} {hp1 : xH} : ∀ (uN : Nat) (more : Int) (d : Int) (s7 : zZ) {uX : Int × Int × zZ}, d_X12_spread_59 from_ lot a uN more d s7 = some uX → (xBody MX12_spread 2 189 [some (.ref 7168), some (.int (zI from_)), some (.int (zI lot)), some (.int (zI uX.1)), some (.int (zI a)), some (.int (zI uX.2.1)), none, none, none, none] [] ([r0, r1, r2, r3, r4, r5, r6, zH uX.2.2 zL7 0, r8, r9]) r hp1) → xBody MX12_spread 2 59 [some (.ref 7168), some (.int (zI from_)), some (.int (zI lot)), some (.int (zI more)), some (.int (zI a)), some (.int (zI d)), none, none, none, none] [] ([r0, r1, r2, r3, r4, r5, r6, zH s7 zL7 0, r8, r9]) r hp1 := by
  intro uN
  induction uN with
  | zero => intro more d s7 uX H K; cases H
  | succ uN ih =>
    intro more d s7 uX H K
    unfold d_X12_spread_59 at H
    refine xB.run oX12_spread 2 (s := (63, [some (.ref 7168), some (.int (zI from_)), some (.int (zI lot)), some (.int (zI more)), some (.int (zI a)), some (.int (zI d)), none, none, none, none], [.int (zI 9), .int (zI d)], [r0, r1, r2, r3, r4, r5, r6, zH s7 zL7 0, r8, r9])) rfl ?_
    obtain ⟨g29, H⟩ := zgd H
    have H := zif H
    refine xB.brE oX12_spread (P := (9 : Int) ≤ d) rfl (zc_ge (a := d) (b := 9) ⟨g29, by decide⟩) (fun h5 => ?_) (fun h5 => ?_)
    · have H := H.1 h5
      obtain rfl := Option.some.inj H
      exact K
    · have H := H.2 h5
      refine xB.run oX12_spread 2 (s := (70, [some (.ref 7168), some (.int (zI from_)), some (.int (zI lot)), some (.int (zI more)), some (.int (zI a)), some (.int (zI d)), none, none, none, none], [.int (zI 10), .int (zI a)], [r0, r1, r2, r3, r4, r5, r6, zH s7 zL7 0, r8, r9])) rfl ?_
      obtain ⟨g28, H⟩ := zgd H
      refine zB.divi oX12_spread (b := 10) rfl (zi_divp g28 (by decide)) rfl (by decide) ?_
      refine xB.run oX12_spread 2 (s := (74, [some (.ref 7168), some (.int (zI from_)), some (.int (zI lot)), some (.int (zI more)), some (.int (zI a)), some (.int (zI d)), none, none, none, none], [.int (zI 3), .int (zI d), .int (zI (a / 10))], [r0, r1, r2, r3, r4, r5, r6, zH s7 zL7 0, r8, r9])) rfl ?_
      obtain ⟨g27, H⟩ := zgd H
      refine zB.divi oX12_spread (b := 3) rfl (zi_divp g27 (by decide)) rfl (by decide) ?_
      refine zB.opi oX12_spread rfl (zi_add (a / 10) (d / 3)) ?_
      refine xB.run oX12_spread 1 (s := (77, [some (.ref 7168), some (.int (zI from_)), some (.int (zI lot)), some (.int (zI more)), some (.int (zI a)), some (.int (zI d)), none, none, none, none], [.int (zI 1), .int (zI ((a / 10) + (d / 3)))], [r0, r1, r2, r3, r4, r5, r6, zH s7 zL7 0, r8, r9])) rfl ?_
      refine zB.opi oX12_spread rfl (zi_sub ((a / 10) + (d / 3)) 1) ?_
      refine xB.run oX12_spread 3 (s := (84, [some (.ref 7168), some (.int (zI from_)), some (.int (zI lot)), some (.int (zI more)), some (.int (zI a)), some (.int (zI d)), some (.int (zI (((a / 10) + (d / 3)) - 1))), none, none, none], [.int (zI 10), .int (zI a)], [r0, r1, r2, r3, r4, r5, r6, zH s7 zL7 0, r8, r9])) rfl ?_
      obtain ⟨g26, H⟩ := zgd H
      refine zB.divi oX12_spread (b := 10) rfl (zi_remp g26 (by decide)) rfl (by decide) ?_
      refine xB.run oX12_spread 2 (s := (88, [some (.ref 7168), some (.int (zI from_)), some (.int (zI lot)), some (.int (zI more)), some (.int (zI a)), some (.int (zI d)), some (.int (zI (((a / 10) + (d / 3)) - 1))), none, none, none], [.int (zI 3), .int (zI d), .int (zI (a % 10))], [r0, r1, r2, r3, r4, r5, r6, zH s7 zL7 0, r8, r9])) rfl ?_
      obtain ⟨g25, H⟩ := zgd H
      refine zB.divi oX12_spread (b := 3) rfl (zi_remp g25 (by decide)) rfl (by decide) ?_
      refine zB.opi oX12_spread rfl (zi_add (a % 10) (d % 3)) ?_
      refine xB.run oX12_spread 1 (s := (91, [some (.ref 7168), some (.int (zI from_)), some (.int (zI lot)), some (.int (zI more)), some (.int (zI a)), some (.int (zI d)), some (.int (zI (((a / 10) + (d / 3)) - 1))), none, none, none], [.int (zI 1), .int (zI ((a % 10) + (d % 3)))], [r0, r1, r2, r3, r4, r5, r6, zH s7 zL7 0, r8, r9])) rfl ?_
      refine zB.opi oX12_spread rfl (zi_sub ((a % 10) + (d % 3)) 1) ?_
      refine xB.run oX12_spread 3 (s := (98, [some (.ref 7168), some (.int (zI from_)), some (.int (zI lot)), some (.int (zI more)), some (.int (zI a)), some (.int (zI d)), some (.int (zI (((a / 10) + (d / 3)) - 1))), some (.int (zI (((a % 10) + (d % 3)) - 1))), none, none], [.int (zI (((a / 10) + (d / 3)) - 1)), .int (zI 10)], [r0, r1, r2, r3, r4, r5, r6, zH s7 zL7 0, r8, r9])) rfl ?_
      refine zB.opi oX12_spread rfl (zi_mul 10 (((a / 10) + (d / 3)) - 1)) ?_
      refine xB.run oX12_spread 1 (s := (101, [some (.ref 7168), some (.int (zI from_)), some (.int (zI lot)), some (.int (zI more)), some (.int (zI a)), some (.int (zI d)), some (.int (zI (((a / 10) + (d / 3)) - 1))), some (.int (zI (((a % 10) + (d % 3)) - 1))), none, none], [.int (zI (((a % 10) + (d % 3)) - 1)), .int (zI (10 * (((a / 10) + (d / 3)) - 1)))], [r0, r1, r2, r3, r4, r5, r6, zH s7 zL7 0, r8, r9])) rfl ?_
      refine zB.opi oX12_spread rfl (zi_add (10 * (((a / 10) + (d / 3)) - 1)) (((a % 10) + (d % 3)) - 1)) ?_
      refine xB.run oX12_spread 2 (s := (106, [some (.ref 7168), some (.int (zI from_)), some (.int (zI lot)), some (.int (zI more)), some (.int (zI a)), some (.int (zI d)), some (.int (zI (((a / 10) + (d / 3)) - 1))), some (.int (zI (((a % 10) + (d % 3)) - 1))), some (.int (zI ((10 * (((a / 10) + (d / 3)) - 1)) + (((a % 10) + (d % 3)) - 1)))), none], [.int (zI (((a / 10) + (d / 3)) - 1))], [r0, r1, r2, r3, r4, r5, r6, zH s7 zL7 0, r8, r9])) rfl ?_
      obtain ⟨g24, H⟩ := zgd H
      refine zB.opl oX12_spread rfl (zi_i2l g24) ?_
      refine xB.run oX12_spread 2 (s := (111, [some (.ref 7168), some (.int (zI from_)), some (.int (zI lot)), some (.int (zI more)), some (.int (zI a)), some (.int (zI d)), some (.int (zI (((a / 10) + (d / 3)) - 1))), some (.int (zI (((a % 10) + (d % 3)) - 1))), some (.int (zI ((10 * (((a / 10) + (d / 3)) - 1)) + (((a % 10) + (d % 3)) - 1)))), none], [.long (zJ 9), .long (zJ 0), .long (zJ (((a / 10) + (d / 3)) - 1))], [r0, r1, r2, r3, r4, r5, r6, zH s7 zL7 0, r8, r9])) rfl ?_
      obtain ⟨y6, e7, H⟩ := zbd H
      refine xB.call oX12_spread (M2 := MX12_within) rfl rfl ((t_X12_within r0 r1 r2 r3 r4 r5 r6 (zH s7 zL7 0) r8 r9 (((a / 10) + (d / 3)) - 1) 0 9 e7).deep (by decide : 0 ≤ 1)) ?_
      show xBody MX12_spread 2 114 [some (.ref 7168), some (.int (zI from_)), some (.int (zI lot)), some (.int (zI more)), some (.int (zI a)), some (.int (zI d)), some (.int (zI (((a / 10) + (d / 3)) - 1))), some (.int (zI (((a % 10) + (d % 3)) - 1))), some (.int (zI ((10 * (((a / 10) + (d / 3)) - 1)) + (((a % 10) + (d % 3)) - 1)))), none] [.int (zI y6)] ([r0, r1, r2, r3, r4, r5, r6, zH s7 zL7 0, r8, r9]) _ _
      obtain ⟨g23, H⟩ := zgd H
      have H := zif H
      refine xB.brE oX12_spread (P := y6 = 0) rfl (zc_eq (a := y6) (b := 0) ⟨g23, by decide⟩) (fun h8 => ?_) (fun h8 => ?_)
      · have H := H.1 h8
        refine xB.run oX12_spread 4 (s := (183, [some (.ref 7168), some (.int (zI from_)), some (.int (zI lot)), some (.int (zI more)), some (.int (zI a)), some (.int (zI d)), some (.int (zI (((a / 10) + (d / 3)) - 1))), some (.int (zI (((a % 10) + (d % 3)) - 1))), some (.int (zI ((10 * (((a / 10) + (d / 3)) - 1)) + (((a % 10) + (d % 3)) - 1)))), some (.int (zI 0))], [], [r0, r1, r2, r3, r4, r5, r6, zH s7 zL7 0, r8, r9])) rfl ?_
        refine zB.inc oX12_spread rfl (lv2 := [some (.ref 7168), some (.int (zI from_)), some (.int (zI lot)), some (.int (zI more)), some (.int (zI a)), some (.int (zI (d + 1))), some (.int (zI (((a / 10) + (d / 3)) - 1))), some (.int (zI (((a % 10) + (d % 3)) - 1))), some (.int (zI ((10 * (((a / 10) + (d / 3)) - 1)) + (((a % 10) + (d % 3)) - 1)))), some (.int (zI 0))]) (zi_inc (a := 0) (zi_addp1 d) _ rfl) ?_
        refine xB.run oX12_spread 1 (s := (59, [some (.ref 7168), some (.int (zI from_)), some (.int (zI lot)), some (.int (zI more)), some (.int (zI a)), some (.int (zI (d + 1))), some (.int (zI (((a / 10) + (d / 3)) - 1))), some (.int (zI (((a % 10) + (d % 3)) - 1))), some (.int (zI ((10 * (((a / 10) + (d / 3)) - 1)) + (((a % 10) + (d % 3)) - 1)))), some (.int (zI 0))], [], [r0, r1, r2, r3, r4, r5, r6, zH s7 zL7 0, r8, r9])) rfl ?_
        refine xB.forget (lv1 := [some (.ref 7168), some (.int (zI from_)), some (.int (zI lot)), some (.int (zI more)), some (.int (zI a)), some (.int (zI (d + 1))), none, none, none, none]) (xle_same (xle_same (xle_same (xle_same (xle_same (xle_same (xle_none (xle_none (xle_none (xle_none (xle_nil))))))))))) ?_
        exact ih more (d + 1) s7 H K
      · have H := H.2 h8
        refine xB.run oX12_spread 1 (s := (119, [some (.ref 7168), some (.int (zI from_)), some (.int (zI lot)), some (.int (zI more)), some (.int (zI a)), some (.int (zI d)), some (.int (zI (((a / 10) + (d / 3)) - 1))), some (.int (zI (((a % 10) + (d % 3)) - 1))), some (.int (zI ((10 * (((a / 10) + (d / 3)) - 1)) + (((a % 10) + (d % 3)) - 1)))), none], [.int (zI (((a % 10) + (d % 3)) - 1))], [r0, r1, r2, r3, r4, r5, r6, zH s7 zL7 0, r8, r9])) rfl ?_
        obtain ⟨g22, H⟩ := zgd H
        refine zB.opl oX12_spread rfl (zi_i2l g22) ?_
        refine xB.run oX12_spread 2 (s := (124, [some (.ref 7168), some (.int (zI from_)), some (.int (zI lot)), some (.int (zI more)), some (.int (zI a)), some (.int (zI d)), some (.int (zI (((a / 10) + (d / 3)) - 1))), some (.int (zI (((a % 10) + (d % 3)) - 1))), some (.int (zI ((10 * (((a / 10) + (d / 3)) - 1)) + (((a % 10) + (d % 3)) - 1)))), none], [.long (zJ 9), .long (zJ 0), .long (zJ (((a % 10) + (d % 3)) - 1))], [r0, r1, r2, r3, r4, r5, r6, zH s7 zL7 0, r8, r9])) rfl ?_
        obtain ⟨y9, e10, H⟩ := zbd H
        refine xB.call oX12_spread (M2 := MX12_within) rfl rfl ((t_X12_within r0 r1 r2 r3 r4 r5 r6 (zH s7 zL7 0) r8 r9 (((a % 10) + (d % 3)) - 1) 0 9 e10).deep (by decide : 0 ≤ 1)) ?_
        show xBody MX12_spread 2 127 [some (.ref 7168), some (.int (zI from_)), some (.int (zI lot)), some (.int (zI more)), some (.int (zI a)), some (.int (zI d)), some (.int (zI (((a / 10) + (d / 3)) - 1))), some (.int (zI (((a % 10) + (d % 3)) - 1))), some (.int (zI ((10 * (((a / 10) + (d / 3)) - 1)) + (((a % 10) + (d % 3)) - 1)))), none] [.int (zI y9)] ([r0, r1, r2, r3, r4, r5, r6, zH s7 zL7 0, r8, r9]) _ _
        obtain ⟨g21, H⟩ := zgd H
        have H := zif H
        refine xB.brE oX12_spread (P := y9 = 0) rfl (zc_eq (a := y9) (b := 0) ⟨g21, by decide⟩) (fun h11 => ?_) (fun h11 => ?_)
        · have H := H.1 h11
          refine xB.run oX12_spread 4 (s := (183, [some (.ref 7168), some (.int (zI from_)), some (.int (zI lot)), some (.int (zI more)), some (.int (zI a)), some (.int (zI d)), some (.int (zI (((a / 10) + (d / 3)) - 1))), some (.int (zI (((a % 10) + (d % 3)) - 1))), some (.int (zI ((10 * (((a / 10) + (d / 3)) - 1)) + (((a % 10) + (d % 3)) - 1)))), some (.int (zI 0))], [], [r0, r1, r2, r3, r4, r5, r6, zH s7 zL7 0, r8, r9])) rfl ?_
          refine zB.inc oX12_spread rfl (lv2 := [some (.ref 7168), some (.int (zI from_)), some (.int (zI lot)), some (.int (zI more)), some (.int (zI a)), some (.int (zI (d + 1))), some (.int (zI (((a / 10) + (d / 3)) - 1))), some (.int (zI (((a % 10) + (d % 3)) - 1))), some (.int (zI ((10 * (((a / 10) + (d / 3)) - 1)) + (((a % 10) + (d % 3)) - 1)))), some (.int (zI 0))]) (zi_inc (a := 0) (zi_addp1 d) _ rfl) ?_
          refine xB.run oX12_spread 1 (s := (59, [some (.ref 7168), some (.int (zI from_)), some (.int (zI lot)), some (.int (zI more)), some (.int (zI a)), some (.int (zI (d + 1))), some (.int (zI (((a / 10) + (d / 3)) - 1))), some (.int (zI (((a % 10) + (d % 3)) - 1))), some (.int (zI ((10 * (((a / 10) + (d / 3)) - 1)) + (((a % 10) + (d % 3)) - 1)))), some (.int (zI 0))], [], [r0, r1, r2, r3, r4, r5, r6, zH s7 zL7 0, r8, r9])) rfl ?_
          refine xB.forget (lv1 := [some (.ref 7168), some (.int (zI from_)), some (.int (zI lot)), some (.int (zI more)), some (.int (zI a)), some (.int (zI (d + 1))), none, none, none, none]) (xle_same (xle_same (xle_same (xle_same (xle_same (xle_same (xle_none (xle_none (xle_none (xle_none (xle_nil))))))))))) ?_
          exact ih more (d + 1) s7 H K
        · have H := H.2 h11
          refine xB.run oX12_spread 8 (s := (148, [some (.ref 7168), some (.int (zI from_)), some (.int (zI lot)), some (.int (zI more)), some (.int (zI a)), some (.int (zI d)), some (.int (zI (((a / 10) + (d / 3)) - 1))), some (.int (zI (((a % 10) + (d % 3)) - 1))), some (.int (zI ((10 * (((a / 10) + (d / 3)) - 1)) + (((a % 10) + (d % 3)) - 1)))), some (.int (zI 1))], [.int (zI ((10 * (((a / 10) + (d / 3)) - 1)) + (((a % 10) + (d % 3)) - 1))), .ref 7196], [r0, r1, r2, r3, r4, r5, r6, zH s7 zL7 0, r8, r9])) rfl ?_
          obtain ⟨g20, H⟩ := zgd H
          refine zB.iald oX12_spread (g := 7) (p := 28) (N := 100) (i := (10 * (((a / 10) + (d / 3)) - 1)) + (((a % 10) + (d % 3)) - 1)) rfl rfl (by decide) rfl rfl (by decide) g20 ?_
          refine xB.run oX12_spread 1 (s := (150, [some (.ref 7168), some (.int (zI from_)), some (.int (zI lot)), some (.int (zI more)), some (.int (zI a)), some (.int (zI d)), some (.int (zI (((a / 10) + (d / 3)) - 1))), some (.int (zI (((a % 10) + (d % 3)) - 1))), some (.int (zI ((10 * (((a / 10) + (d / 3)) - 1)) + (((a % 10) + (d % 3)) - 1)))), some (.int (zI 1))], [.int (zI lot), .int (zI (s7 28 ((10 * (((a / 10) + (d / 3)) - 1)) + (((a % 10) + (d % 3)) - 1)).toNat))], [r0, r1, r2, r3, r4, r5, r6, zH s7 zL7 0, r8, r9])) rfl ?_
          obtain ⟨g19, H⟩ := zgd H
          have H := zif H
          refine xB.brE oX12_spread (P := (s7 28 ((10 * (((a / 10) + (d / 3)) - 1)) + (((a % 10) + (d % 3)) - 1)).toNat) ≠ lot) rfl (zc_ne (a := s7 28 ((10 * (((a / 10) + (d / 3)) - 1)) + (((a % 10) + (d % 3)) - 1)).toNat) (b := lot) g19) (fun h12 => ?_) (fun h12 => ?_)
          · have H := H.1 h12
            refine zB.inc oX12_spread rfl (lv2 := [some (.ref 7168), some (.int (zI from_)), some (.int (zI lot)), some (.int (zI more)), some (.int (zI a)), some (.int (zI (d + 1))), some (.int (zI (((a / 10) + (d / 3)) - 1))), some (.int (zI (((a % 10) + (d % 3)) - 1))), some (.int (zI ((10 * (((a / 10) + (d / 3)) - 1)) + (((a % 10) + (d % 3)) - 1)))), some (.int (zI 1))]) (zi_inc (a := 0) (zi_addp1 d) _ rfl) ?_
            refine xB.run oX12_spread 1 (s := (59, [some (.ref 7168), some (.int (zI from_)), some (.int (zI lot)), some (.int (zI more)), some (.int (zI a)), some (.int (zI (d + 1))), some (.int (zI (((a / 10) + (d / 3)) - 1))), some (.int (zI (((a % 10) + (d % 3)) - 1))), some (.int (zI ((10 * (((a / 10) + (d / 3)) - 1)) + (((a % 10) + (d % 3)) - 1)))), some (.int (zI 1))], [], [r0, r1, r2, r3, r4, r5, r6, zH s7 zL7 0, r8, r9])) rfl ?_
            refine xB.forget (lv1 := [some (.ref 7168), some (.int (zI from_)), some (.int (zI lot)), some (.int (zI more)), some (.int (zI a)), some (.int (zI (d + 1))), none, none, none, none]) (xle_same (xle_same (xle_same (xle_same (xle_same (xle_same (xle_none (xle_none (xle_none (xle_none (xle_nil))))))))))) ?_
            exact ih more (d + 1) s7 H K
          · have H := H.2 h12
            refine xB.run oX12_spread 6 (s := (163, [some (.ref 7168), some (.int (zI from_)), some (.int (zI lot)), some (.int (zI more)), some (.int (zI a)), some (.int (zI d)), some (.int (zI (((a / 10) + (d / 3)) - 1))), some (.int (zI (((a % 10) + (d % 3)) - 1))), some (.int (zI ((10 * (((a / 10) + (d / 3)) - 1)) + (((a % 10) + (d % 3)) - 1)))), some (.int (zI 1))], [.int (zI from_), .ref 7195, .int (zI ((10 * (((a / 10) + (d / 3)) - 1)) + (((a % 10) + (d % 3)) - 1))), .int (zI a), .ref 7168], [r0, r1, r2, r3, r4, r5, r6, zH s7 zL7 0, r8, r9])) rfl ?_
            obtain ⟨g18, H⟩ := zgd H
            refine zB.bald oX12_spread (g := 7) (p := 27) (N := 100) (i := from_) rfl rfl (by decide) rfl rfl (by decide) g18 ?_
            obtain ⟨y13, e14, H⟩ := zbd H
            refine xB.call oX12_spread (M2 := MX12_areNear) rfl rfl ((t_X12_areNear r0 r1 r2 r3 r4 r5 r6 s7 r8 r9 a ((10 * (((a / 10) + (d / 3)) - 1)) + (((a % 10) + (d % 3)) - 1)) (s7 27 from_.toNat) e14).deep (by decide : 1 ≤ 1)) ?_
            show xBody MX12_spread 2 167 [some (.ref 7168), some (.int (zI from_)), some (.int (zI lot)), some (.int (zI more)), some (.int (zI a)), some (.int (zI d)), some (.int (zI (((a / 10) + (d / 3)) - 1))), some (.int (zI (((a % 10) + (d % 3)) - 1))), some (.int (zI ((10 * (((a / 10) + (d / 3)) - 1)) + (((a % 10) + (d % 3)) - 1)))), some (.int (zI 1))] [.int (zI y13)] ([r0, r1, r2, r3, r4, r5, r6, zH s7 zL7 0, r8, r9]) _ _
            obtain ⟨g17, H⟩ := zgd H
            have H := zif H
            refine xB.brE oX12_spread (P := y13 = 0) rfl (zc_eq (a := y13) (b := 0) ⟨g17, by decide⟩) (fun h15 => ?_) (fun h15 => ?_)
            · have H := H.1 h15
              refine zB.inc oX12_spread rfl (lv2 := [some (.ref 7168), some (.int (zI from_)), some (.int (zI lot)), some (.int (zI more)), some (.int (zI a)), some (.int (zI (d + 1))), some (.int (zI (((a / 10) + (d / 3)) - 1))), some (.int (zI (((a % 10) + (d % 3)) - 1))), some (.int (zI ((10 * (((a / 10) + (d / 3)) - 1)) + (((a % 10) + (d % 3)) - 1)))), some (.int (zI 1))]) (zi_inc (a := 0) (zi_addp1 d) _ rfl) ?_
              refine xB.run oX12_spread 1 (s := (59, [some (.ref 7168), some (.int (zI from_)), some (.int (zI lot)), some (.int (zI more)), some (.int (zI a)), some (.int (zI (d + 1))), some (.int (zI (((a / 10) + (d / 3)) - 1))), some (.int (zI (((a % 10) + (d % 3)) - 1))), some (.int (zI ((10 * (((a / 10) + (d / 3)) - 1)) + (((a % 10) + (d % 3)) - 1)))), some (.int (zI 1))], [], [r0, r1, r2, r3, r4, r5, r6, zH s7 zL7 0, r8, r9])) rfl ?_
              refine xB.forget (lv1 := [some (.ref 7168), some (.int (zI from_)), some (.int (zI lot)), some (.int (zI more)), some (.int (zI a)), some (.int (zI (d + 1))), none, none, none, none]) (xle_same (xle_same (xle_same (xle_same (xle_same (xle_same (xle_none (xle_none (xle_none (xle_none (xle_nil))))))))))) ?_
              exact ih more (d + 1) s7 H K
            · have H := H.2 h15
              refine xB.run oX12_spread 4 (s := (177, [some (.ref 7168), some (.int (zI from_)), some (.int (zI lot)), some (.int (zI more)), some (.int (zI a)), some (.int (zI d)), some (.int (zI (((a / 10) + (d / 3)) - 1))), some (.int (zI (((a % 10) + (d % 3)) - 1))), some (.int (zI ((10 * (((a / 10) + (d / 3)) - 1)) + (((a % 10) + (d % 3)) - 1)))), some (.int (zI 1))], [.int (zI lot), .int (zI a), .ref 7196], [r0, r1, r2, r3, r4, r5, r6, zH s7 zL7 0, r8, r9])) rfl ?_
              obtain ⟨g16, H⟩ := zgd H
              refine zB.iast oX12_spread (g := 7) (p := 28) (N := 100) (i := a) (hp1 := [r0, r1, r2, r3, r4, r5, r6, zH (upz s7 28 a.toNat lot) zL7 0, r8, r9]) rfl rfl (by decide) (by decide) rfl rfl (by decide) g16 rfl ?_
              refine xB.run oX12_spread 3 (s := (189, [some (.ref 7168), some (.int (zI from_)), some (.int (zI lot)), some (.int (zI 1)), some (.int (zI a)), some (.int (zI d)), some (.int (zI (((a / 10) + (d / 3)) - 1))), some (.int (zI (((a % 10) + (d % 3)) - 1))), some (.int (zI ((10 * (((a / 10) + (d / 3)) - 1)) + (((a % 10) + (d % 3)) - 1)))), some (.int (zI 1))], [], [r0, r1, r2, r3, r4, r5, r6, zH (upz s7 28 a.toNat lot) zL7 0, r8, r9])) rfl ?_
              refine xB.forget (lv1 := [some (.ref 7168), some (.int (zI from_)), some (.int (zI lot)), some (.int (zI 1)), some (.int (zI a)), some (.int (zI d)), none, none, none, none]) (xle_same (xle_same (xle_same (xle_same (xle_same (xle_same (xle_none (xle_none (xle_none (xle_none (xle_nil))))))))))) ?_
              obtain rfl := Option.some.inj H
              exact K
set_option maxRecDepth 20000 in
theorem l_X12_spread_18 (r0 : List va_E) (r1 : List va_E) (r2 : List va_E) (r3 : List va_E) (r4 : List va_E) (r5 : List va_E) (r6 : List va_E) (r8 : List va_E) (r9 : List va_E) (from_ : Int) (lot : Int) {r : Option Value} {hp1 : xH} : ∀ (uN : Nat) (more : Int) (a : Int) (s7 : zZ) {uX : Int × Int × zZ}, d_X12_spread_18 from_ lot uN more a s7 = some uX → (xBody MX12_spread 2 195 [some (.ref 7168), some (.int (zI from_)), some (.int (zI lot)), some (.int (zI uX.1)), some (.int (zI uX.2.1)), none, none, none, none, none] [] ([r0, r1, r2, r3, r4, r5, r6, zH uX.2.2 zL7 0, r8, r9]) r hp1) → xBody MX12_spread 2 18 [some (.ref 7168), some (.int (zI from_)), some (.int (zI lot)), some (.int (zI more)), some (.int (zI a)), none, none, none, none, none] [] ([r0, r1, r2, r3, r4, r5, r6, zH s7 zL7 0, r8, r9]) r hp1 := by
  intro uN
  induction uN with
  | zero => intro more a s7 uX H K; cases H
  | succ uN ih =>
    intro more a s7 uX H K
    unfold d_X12_spread_18 at H
    refine xB.run oX12_spread 2 (s := (22, [some (.ref 7168), some (.int (zI from_)), some (.int (zI lot)), some (.int (zI more)), some (.int (zI a)), none, none, none, none, none], [.int (zI 100), .int (zI a)], [r0, r1, r2, r3, r4, r5, r6, zH s7 zL7 0, r8, r9])) rfl ?_
    obtain ⟨g37, H⟩ := zgd H
    have H := zif H
    refine xB.brE oX12_spread (P := (100 : Int) ≤ a) rfl (zc_ge (a := a) (b := 100) ⟨g37, by decide⟩) (fun h2 => ?_) (fun h2 => ?_)
    · have H := H.1 h2
      obtain rfl := Option.some.inj H
      exact K
    · have H := H.2 h2
      refine xB.run oX12_spread 3 (s := (31, [some (.ref 7168), some (.int (zI from_)), some (.int (zI lot)), some (.int (zI more)), some (.int (zI a)), none, none, none, none, none], [.int (zI a), .ref 7196], [r0, r1, r2, r3, r4, r5, r6, zH s7 zL7 0, r8, r9])) rfl ?_
      obtain ⟨g36, H⟩ := zgd H
      refine zB.iald oX12_spread (g := 7) (p := 28) (N := 100) (i := a) rfl rfl (by decide) rfl rfl (by decide) g36 ?_
      refine xB.run oX12_spread 1 (s := (34, [some (.ref 7168), some (.int (zI from_)), some (.int (zI lot)), some (.int (zI more)), some (.int (zI a)), none, none, none, none, none], [.int (zI (-9)), .int (zI (s7 28 a.toNat))], [r0, r1, r2, r3, r4, r5, r6, zH s7 zL7 0, r8, r9])) rfl ?_
      obtain ⟨g35, H⟩ := zgd H
      have H := zif H
      refine xB.brE oX12_spread (P := (s7 28 a.toNat) ≠ (-9)) rfl (zc_ne (a := s7 28 a.toNat) (b := (-9)) ⟨g35, by decide⟩) (fun h3 => ?_) (fun h3 => ?_)
      · have H := H.1 h3
        refine zB.inc oX12_spread rfl (lv2 := [some (.ref 7168), some (.int (zI from_)), some (.int (zI lot)), some (.int (zI more)), some (.int (zI (a + 1))), none, none, none, none, none]) (zi_inc (a := 0) (zi_addp1 a) _ rfl) ?_
        refine xB.run oX12_spread 1 (s := (18, [some (.ref 7168), some (.int (zI from_)), some (.int (zI lot)), some (.int (zI more)), some (.int (zI (a + 1))), none, none, none, none, none], [], [r0, r1, r2, r3, r4, r5, r6, zH s7 zL7 0, r8, r9])) rfl ?_
        exact ih more (a + 1) s7 H K
      · have H := H.2 h3
        refine xB.run oX12_spread 3 (s := (43, [some (.ref 7168), some (.int (zI from_)), some (.int (zI lot)), some (.int (zI more)), some (.int (zI a)), none, none, none, none, none], [.int (zI a), .ref 7195], [r0, r1, r2, r3, r4, r5, r6, zH s7 zL7 0, r8, r9])) rfl ?_
        obtain ⟨g34, H⟩ := zgd H
        refine zB.bald oX12_spread (g := 7) (p := 27) (N := 100) (i := a) rfl rfl (by decide) rfl rfl (by decide) g34 ?_
        refine xB.run oX12_spread 3 (s := (49, [some (.ref 7168), some (.int (zI from_)), some (.int (zI lot)), some (.int (zI more)), some (.int (zI a)), none, none, none, none, none], [.int (zI from_), .ref 7195, .int (zI (s7 27 a.toNat))], [r0, r1, r2, r3, r4, r5, r6, zH s7 zL7 0, r8, r9])) rfl ?_
        obtain ⟨g33, H⟩ := zgd H
        refine zB.bald oX12_spread (g := 7) (p := 27) (N := 100) (i := from_) rfl rfl (by decide) rfl rfl (by decide) g33 ?_
        obtain ⟨g32, H⟩ := zgd H
        have H := zif H
        refine xB.brE oX12_spread (P := (s7 27 a.toNat) = (s7 27 from_.toNat)) rfl (zc_eq (a := s7 27 a.toNat) (b := s7 27 from_.toNat) g32) (fun h4 => ?_) (fun h4 => ?_)
        · have H := H.1 h4
          refine xB.run oX12_spread 2 (s := (59, [some (.ref 7168), some (.int (zI from_)), some (.int (zI lot)), some (.int (zI more)), some (.int (zI a)), some (.int (zI 0)), none, none, none, none], [], [r0, r1, r2, r3, r4, r5, r6, zH s7 zL7 0, r8, r9])) rfl ?_
          obtain ⟨y30, e31, H⟩ := zbd H
          refine l_X12_spread_59 r0 r1 r2 r3 r4 r5 r6 r8 r9 from_ lot a _ more 0 s7 e31 ?_
          refine zB.inc oX12_spread rfl (lv2 := [some (.ref 7168), some (.int (zI from_)), some (.int (zI lot)), some (.int (zI y30.1)), some (.int (zI (a + 1))), some (.int (zI y30.2.1)), none, none, none, none]) (zi_inc (a := 0) (zi_addp1 a) _ rfl) ?_
          refine xB.run oX12_spread 1 (s := (18, [some (.ref 7168), some (.int (zI from_)), some (.int (zI lot)), some (.int (zI y30.1)), some (.int (zI (a + 1))), some (.int (zI y30.2.1)), none, none, none, none], [], [r0, r1, r2, r3, r4, r5, r6, zH y30.2.2 zL7 0, r8, r9])) rfl ?_
          refine xB.forget (lv1 := [some (.ref 7168), some (.int (zI from_)), some (.int (zI lot)), some (.int (zI y30.1)), some (.int (zI (a + 1))), none, none, none, none, none]) (xle_same (xle_same (xle_same (xle_same (xle_same (xle_none (xle_same (xle_same (xle_same (xle_same (xle_nil))))))))))) ?_
          exact ih y30.1 (a + 1) y30.2.2 H K
        · have H := H.2 h4
          refine xB.run oX12_spread 1 (s := (189, [some (.ref 7168), some (.int (zI from_)), some (.int (zI lot)), some (.int (zI more)), some (.int (zI a)), none, none, none, none, none], [], [r0, r1, r2, r3, r4, r5, r6, zH s7 zL7 0, r8, r9])) rfl ?_
          refine zB.inc oX12_spread rfl (lv2 := [some (.ref 7168), some (.int (zI from_)), some (.int (zI lot)), some (.int (zI more)), some (.int (zI (a + 1))), none, none, none, none, none]) (zi_inc (a := 0) (zi_addp1 a) _ rfl) ?_
          refine xB.run oX12_spread 1 (s := (18, [some (.ref 7168), some (.int (zI from_)), some (.int (zI lot)), some (.int (zI more)), some (.int (zI (a + 1))), none, none, none, none, none], [], [r0, r1, r2, r3, r4, r5, r6, zH s7 zL7 0, r8, r9])) rfl ?_
          exact ih more (a + 1) s7 H K
set_option maxRecDepth 20000 in
theorem l_X12_spread_9 (r0 : List va_E) (r1 : List va_E) (r2 : List va_E) (r3 : List va_E) (r4 : List va_E) (r5 : List va_E) (r6 : List va_E) (r8 : List va_E) (r9 : List va_E) (from_ : Int) (lot : Int) {r : Option Value} {hp1 : xH} : ∀ (uN : Nat) (more : Int) (s7 : zZ) {uX : Int × zZ}, d_X12_spread_9 from_ lot uN more s7 = some uX → (xBody MX12_spread 2 198 [some (.ref 7168), some (.int (zI from_)), some (.int (zI lot)), some (.int (zI uX.1)), none, none, none, none, none, none] [] ([r0, r1, r2, r3, r4, r5, r6, zH uX.2 zL7 0, r8, r9]) r hp1) → xBody MX12_spread 2 9 [some (.ref 7168), some (.int (zI from_)), some (.int (zI lot)), some (.int (zI more)), none, none, none, none, none, none] [] ([r0, r1, r2, r3, r4, r5, r6, zH s7 zL7 0, r8, r9]) r hp1 := by
  intro uN
  induction uN with
  | zero => intro more s7 uX H K; cases H
  | succ uN ih =>
    intro more s7 uX H K
    unfold d_X12_spread_9 at H
    refine xB.run oX12_spread 1 (s := (10, [some (.ref 7168), some (.int (zI from_)), some (.int (zI lot)), some (.int (zI more)), none, none, none, none, none, none], [.int (zI more)], [r0, r1, r2, r3, r4, r5, r6, zH s7 zL7 0, r8, r9])) rfl ?_
    obtain ⟨g40, H⟩ := zgd H
    have H := zif H
    refine xB.brE oX12_spread (P := more = 0) rfl (zc_eq (a := more) (b := 0) ⟨g40, by decide⟩) (fun h1 => ?_) (fun h1 => ?_)
    · have H := H.1 h1
      obtain rfl := Option.some.inj H
      exact K
    · have H := H.2 h1
      refine xB.run oX12_spread 4 (s := (18, [some (.ref 7168), some (.int (zI from_)), some (.int (zI lot)), some (.int (zI 0)), some (.int (zI 0)), none, none, none, none, none], [], [r0, r1, r2, r3, r4, r5, r6, zH s7 zL7 0, r8, r9])) rfl ?_
      obtain ⟨y38, e39, H⟩ := zbd H
      refine l_X12_spread_18 r0 r1 r2 r3 r4 r5 r6 r8 r9 from_ lot _ 0 0 s7 e39 ?_
      refine xB.run oX12_spread 1 (s := (9, [some (.ref 7168), some (.int (zI from_)), some (.int (zI lot)), some (.int (zI y38.1)), some (.int (zI y38.2.1)), none, none, none, none, none], [], [r0, r1, r2, r3, r4, r5, r6, zH y38.2.2 zL7 0, r8, r9])) rfl ?_
      refine xB.forget (lv1 := [some (.ref 7168), some (.int (zI from_)), some (.int (zI lot)), some (.int (zI y38.1)), none, none, none, none, none, none]) (xle_same (xle_same (xle_same (xle_same (xle_none (xle_same (xle_same (xle_same (xle_same (xle_same (xle_nil))))))))))) ?_
      exact ih y38.1 y38.2.2 H K
set_option maxRecDepth 20000 in
theorem t_X12_spread (r0 : List va_E) (r1 : List va_E) (r2 : List va_E) (r3 : List va_E) (r4 : List va_E) (r5 : List va_E) (r6 : List va_E) (s7 : zZ) (r8 : List va_E) (r9 : List va_E) (from_ : Int) (lot : Int) {rr : zZ} (H : d_X12_spread s7 from_ lot = some rr) : xC MX12_spread 2 [.ref 7168, .int (zI from_), .int (zI lot)] ([r0, r1, r2, r3, r4, r5, r6, zH s7 zL7 0, r8, r9]) (none) ([r0, r1, r2, r3, r4, r5, r6, zH rr zL7 0, r8, r9]) := by
  refine ⟨Nat.le_of_ble_eq_true rfl, ?_⟩
  show xBody MX12_spread 2 0 [some (.ref 7168), some (.int (zI from_)), some (.int (zI lot)), none, none, none, none, none, none, none] [] ([r0, r1, r2, r3, r4, r5, r6, zH s7 zL7 0, r8, r9]) _ _
  unfold d_X12_spread at H
  refine xB.run oX12_spread 4 (s := (6, [some (.ref 7168), some (.int (zI from_)), some (.int (zI lot)), none, none, none, none, none, none, none], [.int (zI lot), .int (zI from_), .ref 7196], [r0, r1, r2, r3, r4, r5, r6, zH s7 zL7 0, r8, r9])) rfl ?_
  obtain ⟨g43, H⟩ := zgd H
  refine zB.iast oX12_spread (g := 7) (p := 28) (N := 100) (i := from_) (hp1 := [r0, r1, r2, r3, r4, r5, r6, zH (upz s7 28 from_.toNat lot) zL7 0, r8, r9]) rfl rfl (by decide) (by decide) rfl rfl (by decide) g43 rfl ?_
  refine xB.run oX12_spread 2 (s := (9, [some (.ref 7168), some (.int (zI from_)), some (.int (zI lot)), some (.int (zI 1)), none, none, none, none, none, none], [], [r0, r1, r2, r3, r4, r5, r6, zH (upz s7 28 from_.toNat lot) zL7 0, r8, r9])) rfl ?_
  obtain ⟨y41, e42, H⟩ := zbd H
  refine l_X12_spread_9 r0 r1 r2 r3 r4 r5 r6 r8 r9 from_ lot _ 1 (upz s7 28 from_.toNat lot) e42 ?_
  obtain rfl := Option.some.inj H
  exact xB.ret oX12_spread (r1 := none) rfl rfl rfl
def d_X12_layLots_2  : Nat → Int → zZ → Option (Int × zZ)
  | 0, _, _ => none
  | uN + 1, cn, s7 => if (zr cn) then (if (100 : Int) ≤ cn then some (cn, s7) else (if (0 ≤ cn ∧ cn < 100) then (d_X12_layLots_2 uN (cn + 1) (upz s7 28 cn.toNat (-9))) else none)) else none
def d_X12_layLots_26  : Nat → Int → Int → zZ → Option (Int × Int × zZ)
  | 0, _, _, _ => none
  | uN + 1, cn, v2, s7 => if (zr v2) then (if (100 : Int) ≤ v2 then some (cn, v2, s7) else (if (0 ≤ v2 ∧ v2 < 100) then (if (zr (s7 28 v2.toNat)) then (if (s7 28 v2.toNat) ≠ (-9) then (d_X12_layLots_26 uN cn (v2 + 1) s7) else ((d_X12_spread s7 v2 cn).bind fun y8 => d_X12_layLots_26 uN (cn + 1) (v2 + 1) y8)) else none) else none)) else none
def d_X12_layLots (s7 : zZ) : Option (Int × zZ) := (d_X12_layLots_2 zF 0 s7).bind fun y4 => (d_X12_layLots_26 zF 0 0 y4.2).bind fun y13 => some (y13.1, y13.2.2)
set_option maxRecDepth 20000 in
theorem l_X12_layLots_2 (r0 : List va_E) (r1 : List va_E) (r2 : List va_E) (r3 : List va_E) (r4 : List va_E) (r5 : List va_E) (r6 : List va_E) (r8 : List va_E) (r9 : List va_E) {r : Option Value} {hp1 : xH} : ∀ (uN : Nat) (cn : Int) (s7 : zZ) {uX : Int × zZ}, d_X12_layLots_2 uN cn s7 = some uX → (xBody MX12_layLots 3 22 [some (.ref 7168), some (.int (zI uX.1)), none] [] ([r0, r1, r2, r3, r4, r5, r6, zH uX.2 zL7 0, r8, r9]) r hp1) → xBody MX12_layLots 3 2 [some (.ref 7168), some (.int (zI cn)), none] [] ([r0, r1, r2, r3, r4, r5, r6, zH s7 zL7 0, r8, r9]) r hp1 := by
  intro uN
  induction uN with
  | zero => intro cn s7 uX H K; cases H
  | succ uN ih =>
    intro cn s7 uX H K
    unfold d_X12_layLots_2 at H
    refine xB.run oX12_layLots 2 (s := (5, [some (.ref 7168), some (.int (zI cn)), none], [.int (zI 100), .int (zI cn)], [r0, r1, r2, r3, r4, r5, r6, zH s7 zL7 0, r8, r9])) rfl ?_
    obtain ⟨g3, H⟩ := zgd H
    have H := zif H
    refine xB.brE oX12_layLots (P := (100 : Int) ≤ cn) rfl (zc_ge (a := cn) (b := 100) ⟨g3, by decide⟩) (fun h1 => ?_) (fun h1 => ?_)
    · have H := H.1 h1
      obtain rfl := Option.some.inj H
      exact K
    · have H := H.2 h1
      refine xB.run oX12_layLots 4 (s := (15, [some (.ref 7168), some (.int (zI cn)), none], [.int (zI (-9)), .int (zI cn), .ref 7196], [r0, r1, r2, r3, r4, r5, r6, zH s7 zL7 0, r8, r9])) rfl ?_
      obtain ⟨g2, H⟩ := zgd H
      refine zB.iast oX12_layLots (g := 7) (p := 28) (N := 100) (i := cn) (hp1 := [r0, r1, r2, r3, r4, r5, r6, zH (upz s7 28 cn.toNat (-9)) zL7 0, r8, r9]) rfl rfl (by decide) (by decide) rfl rfl (by decide) g2 rfl ?_
      refine zB.inc oX12_layLots rfl (lv2 := [some (.ref 7168), some (.int (zI (cn + 1))), none]) (zi_inc (a := 0) (zi_addp1 cn) _ rfl) ?_
      refine xB.run oX12_layLots 1 (s := (2, [some (.ref 7168), some (.int (zI (cn + 1))), none], [], [r0, r1, r2, r3, r4, r5, r6, zH (upz s7 28 cn.toNat (-9)) zL7 0, r8, r9])) rfl ?_
      exact ih (cn + 1) (upz s7 28 cn.toNat (-9)) H K
set_option maxRecDepth 20000 in
theorem l_X12_layLots_26 (r0 : List va_E) (r1 : List va_E) (r2 : List va_E) (r3 : List va_E) (r4 : List va_E) (r5 : List va_E) (r6 : List va_E) (r8 : List va_E) (r9 : List va_E) {r : Option Value} {hp1 : xH} : ∀ (uN : Nat) (cn : Int) (v2 : Int) (s7 : zZ) {uX : Int × Int × zZ}, d_X12_layLots_26 uN cn v2 s7 = some uX → (xBody MX12_layLots 3 58 [some (.ref 7168), some (.int (zI uX.1)), some (.int (zI uX.2.1))] [] ([r0, r1, r2, r3, r4, r5, r6, zH uX.2.2 zL7 0, r8, r9]) r hp1) → xBody MX12_layLots 3 26 [some (.ref 7168), some (.int (zI cn)), some (.int (zI v2))] [] ([r0, r1, r2, r3, r4, r5, r6, zH s7 zL7 0, r8, r9]) r hp1 := by
  intro uN
  induction uN with
  | zero => intro cn v2 s7 uX H K; cases H
  | succ uN ih =>
    intro cn v2 s7 uX H K
    unfold d_X12_layLots_26 at H
    refine xB.run oX12_layLots 2 (s := (29, [some (.ref 7168), some (.int (zI cn)), some (.int (zI v2))], [.int (zI 100), .int (zI v2)], [r0, r1, r2, r3, r4, r5, r6, zH s7 zL7 0, r8, r9])) rfl ?_
    obtain ⟨g12, H⟩ := zgd H
    have H := zif H
    refine xB.brE oX12_layLots (P := (100 : Int) ≤ v2) rfl (zc_ge (a := v2) (b := 100) ⟨g12, by decide⟩) (fun h6 => ?_) (fun h6 => ?_)
    · have H := H.1 h6
      obtain rfl := Option.some.inj H
      exact K
    · have H := H.2 h6
      refine xB.run oX12_layLots 3 (s := (37, [some (.ref 7168), some (.int (zI cn)), some (.int (zI v2))], [.int (zI v2), .ref 7196], [r0, r1, r2, r3, r4, r5, r6, zH s7 zL7 0, r8, r9])) rfl ?_
      obtain ⟨g11, H⟩ := zgd H
      refine zB.iald oX12_layLots (g := 7) (p := 28) (N := 100) (i := v2) rfl rfl (by decide) rfl rfl (by decide) g11 ?_
      refine xB.run oX12_layLots 1 (s := (40, [some (.ref 7168), some (.int (zI cn)), some (.int (zI v2))], [.int (zI (-9)), .int (zI (s7 28 v2.toNat))], [r0, r1, r2, r3, r4, r5, r6, zH s7 zL7 0, r8, r9])) rfl ?_
      obtain ⟨g10, H⟩ := zgd H
      have H := zif H
      refine xB.brE oX12_layLots (P := (s7 28 v2.toNat) ≠ (-9)) rfl (zc_ne (a := s7 28 v2.toNat) (b := (-9)) ⟨g10, by decide⟩) (fun h7 => ?_) (fun h7 => ?_)
      · have H := H.1 h7
        refine zB.inc oX12_layLots rfl (lv2 := [some (.ref 7168), some (.int (zI cn)), some (.int (zI (v2 + 1)))]) (zi_inc (a := 0) (zi_addp1 v2) _ rfl) ?_
        refine xB.run oX12_layLots 1 (s := (26, [some (.ref 7168), some (.int (zI cn)), some (.int (zI (v2 + 1)))], [], [r0, r1, r2, r3, r4, r5, r6, zH s7 zL7 0, r8, r9])) rfl ?_
        exact ih cn (v2 + 1) s7 H K
      · have H := H.2 h7
        refine xB.run oX12_layLots 3 (s := (46, [some (.ref 7168), some (.int (zI cn)), some (.int (zI v2))], [.int (zI cn), .int (zI v2), .ref 7168], [r0, r1, r2, r3, r4, r5, r6, zH s7 zL7 0, r8, r9])) rfl ?_
        obtain ⟨y8, e9, H⟩ := zbd H
        refine xB.call oX12_layLots (M2 := MX12_spread) rfl rfl ((t_X12_spread r0 r1 r2 r3 r4 r5 r6 s7 r8 r9 v2 cn e9).deep (by decide : 2 ≤ 2)) ?_
        show xBody MX12_layLots 3 49 [some (.ref 7168), some (.int (zI cn)), some (.int (zI v2))] [] ([r0, r1, r2, r3, r4, r5, r6, zH y8 zL7 0, r8, r9]) _ _
        refine zB.inc oX12_layLots rfl (lv2 := [some (.ref 7168), some (.int (zI (cn + 1))), some (.int (zI v2))]) (zi_inc (a := 0) (zi_addp1 cn) _ rfl) ?_
        refine zB.inc oX12_layLots rfl (lv2 := [some (.ref 7168), some (.int (zI (cn + 1))), some (.int (zI (v2 + 1)))]) (zi_inc (a := 0) (zi_addp1 v2) _ rfl) ?_
        refine xB.run oX12_layLots 1 (s := (26, [some (.ref 7168), some (.int (zI (cn + 1))), some (.int (zI (v2 + 1)))], [], [r0, r1, r2, r3, r4, r5, r6, zH y8 zL7 0, r8, r9])) rfl ?_
        exact ih (cn + 1) (v2 + 1) y8 H K
set_option maxRecDepth 20000 in
theorem t_X12_layLots (r0 : List va_E) (r1 : List va_E) (r2 : List va_E) (r3 : List va_E) (r4 : List va_E) (r5 : List va_E) (r6 : List va_E) (s7 : zZ) (r8 : List va_E) (r9 : List va_E) {rr : Int × zZ} (H : d_X12_layLots s7 = some rr) : xC MX12_layLots 3 [.ref 7168] ([r0, r1, r2, r3, r4, r5, r6, zH s7 zL7 0, r8, r9]) (some (.int (zI rr.1))) ([r0, r1, r2, r3, r4, r5, r6, zH rr.2 zL7 0, r8, r9]) := by
  refine ⟨Nat.le_of_ble_eq_true rfl, ?_⟩
  show xBody MX12_layLots 3 0 [some (.ref 7168), none, none] [] ([r0, r1, r2, r3, r4, r5, r6, zH s7 zL7 0, r8, r9]) _ _
  unfold d_X12_layLots at H
  refine xB.run oX12_layLots 2 (s := (2, [some (.ref 7168), some (.int (zI 0)), none], [], [r0, r1, r2, r3, r4, r5, r6, zH s7 zL7 0, r8, r9])) rfl ?_
  obtain ⟨y4, e5, H⟩ := zbd H
  refine l_X12_layLots_2 r0 r1 r2 r3 r4 r5 r6 r8 r9  _ 0 s7 e5 ?_
  refine xB.run oX12_layLots 4 (s := (26, [some (.ref 7168), some (.int (zI 0)), some (.int (zI 0))], [], [r0, r1, r2, r3, r4, r5, r6, zH y4.2 zL7 0, r8, r9])) rfl ?_
  obtain ⟨y13, e14, H⟩ := zbd H
  refine l_X12_layLots_26 r0 r1 r2 r3 r4 r5 r6 r8 r9  _ 0 0 y4.2 e14 ?_
  refine xB.run oX12_layLots 1 (s := (59, [some (.ref 7168), some (.int (zI y13.1)), some (.int (zI y13.2.1))], [.int (zI y13.1)], [r0, r1, r2, r3, r4, r5, r6, zH y13.2.2 zL7 0, r8, r9])) rfl ?_
  obtain rfl := Option.some.inj H
  exact xB.ret oX12_layLots (r1 := some (.int (zI y13.1))) rfl rfl rfl
def d_X12_apart_22 (s7 : zZ) (gaps : Int) (all : Int) (cn : Int) (lot : Int) : Nat → Int → Int → Option (Int × Int)
  | 0, _, _ => none
  | uN + 1, is, a => if (zr a) then (if (100 : Int) ≤ a then some (is, a) else (if (0 ≤ a ∧ a < 100) then (if (zr (s7 28 a.toNat) ∧ zr lot) then (if (s7 28 a.toNat) ≠ lot then (d_X12_apart_22 s7 gaps all cn lot uN is (a + 1)) else (if (zr is) then (if is = 0 then (d_X12_apart_22 s7 gaps all cn lot uN 0 (a + 1)) else (if (0 ≤ a ∧ a < 100) then (if (zr (s7 27 a.toNat) ∧ zr gaps) then (if (s7 27 a.toNat) ≠ gaps then (d_X12_apart_22 s7 gaps all cn lot uN 0 (a + 1)) else (if (zr gaps) then (if gaps = 0 then (if (0 ≤ a ∧ zr a) then (if (zr (a / 10)) then (if (a / 10) = 9 then (d_X12_apart_22 s7 gaps all cn lot uN 0 (a + 1)) else (d_X12_apart_22 s7 gaps all cn lot uN 1 (a + 1))) else none) else none) else ((d_X12_isRim a).bind fun y12 => if (zr y12) then (if y12 = 0 then (d_X12_apart_22 s7 gaps all cn lot uN 1 (a + 1)) else (d_X12_apart_22 s7 gaps all cn lot uN 0 (a + 1))) else none)) else none)) else none) else none)) else none)) else none) else none)) else none
def d_X12_apart_10 (s7 : zZ) (gaps : Int) (all : Int) : Nat → Int → Int → Option (Int × Int)
  | 0, _, _ => none
  | uN + 1, cn, lot => if (zr lot ∧ zr all) then (if all ≤ lot then some (cn, lot) else ((d_X12_apart_22 s7 gaps all cn lot zF 1 0).bind fun y23 => if (zr y23.1) then (if y23.1 = 0 then (d_X12_apart_10 s7 gaps all uN (cn + 0) (lot + 1)) else (d_X12_apart_10 s7 gaps all uN (cn + 1) (lot + 1))) else none)) else none
def d_X12_apart (s7 : zZ) (gaps : Int) : Option (Int × zZ) := (d_X12_layLots s7).bind fun y1 => (d_X12_apart_10 y1.2 gaps y1.1 zF 0 0).bind fun y28 => some (y28.1, y1.2)
set_option maxRecDepth 20000 in
theorem l_X12_apart_22 (r0 : List va_E) (r1 : List va_E) (r2 : List va_E) (r3 : List va_E) (r4 : List va_E) (r5 : List va_E) (r6 : List va_E) (s7 : zZ) (r8 : List va_E) (r9 : List va_E) (gaps : Int) (all : Int) (cn : Int) (lot : Int) {r : Option Value} {hp1 : xH} : ∀ (uN : Nat) (is : Int) (a : Int) {uX : Int × Int}, d_X12_apart_22 s7 gaps all cn lot uN is a = some uX → (xBody MX12_apart 4 95 [some (.ref 7168), some (.int (zI gaps)), some (.int (zI all)), some (.int (zI cn)), some (.int (zI lot)), some (.int (zI uX.1)), some (.int (zI uX.2))] [] ([r0, r1, r2, r3, r4, r5, r6, zH s7 zL7 0, r8, r9]) r hp1) → xBody MX12_apart 4 22 [some (.ref 7168), some (.int (zI gaps)), some (.int (zI all)), some (.int (zI cn)), some (.int (zI lot)), some (.int (zI is)), some (.int (zI a))] [] ([r0, r1, r2, r3, r4, r5, r6, zH s7 zL7 0, r8, r9]) r hp1 := by
  intro uN
  induction uN with
  | zero => intro is a uX H K; cases H
  | succ uN ih =>
    intro is a uX H K
    unfold d_X12_apart_22 at H
    refine xB.run oX12_apart 2 (s := (26, [some (.ref 7168), some (.int (zI gaps)), some (.int (zI all)), some (.int (zI cn)), some (.int (zI lot)), some (.int (zI is)), some (.int (zI a))], [.int (zI 100), .int (zI a)], [r0, r1, r2, r3, r4, r5, r6, zH s7 zL7 0, r8, r9])) rfl ?_
    obtain ⟨g22, H⟩ := zgd H
    have H := zif H
    refine xB.brE oX12_apart (P := (100 : Int) ≤ a) rfl (zc_ge (a := a) (b := 100) ⟨g22, by decide⟩) (fun h4 => ?_) (fun h4 => ?_)
    · have H := H.1 h4
      obtain rfl := Option.some.inj H
      exact K
    · have H := H.2 h4
      refine xB.run oX12_apart 3 (s := (35, [some (.ref 7168), some (.int (zI gaps)), some (.int (zI all)), some (.int (zI cn)), some (.int (zI lot)), some (.int (zI is)), some (.int (zI a))], [.int (zI a), .ref 7196], [r0, r1, r2, r3, r4, r5, r6, zH s7 zL7 0, r8, r9])) rfl ?_
      obtain ⟨g21, H⟩ := zgd H
      refine zB.iald oX12_apart (g := 7) (p := 28) (N := 100) (i := a) rfl rfl (by decide) rfl rfl (by decide) g21 ?_
      refine xB.run oX12_apart 1 (s := (38, [some (.ref 7168), some (.int (zI gaps)), some (.int (zI all)), some (.int (zI cn)), some (.int (zI lot)), some (.int (zI is)), some (.int (zI a))], [.int (zI lot), .int (zI (s7 28 a.toNat))], [r0, r1, r2, r3, r4, r5, r6, zH s7 zL7 0, r8, r9])) rfl ?_
      obtain ⟨g20, H⟩ := zgd H
      have H := zif H
      refine xB.brE oX12_apart (P := (s7 28 a.toNat) ≠ lot) rfl (zc_ne (a := s7 28 a.toNat) (b := lot) g20) (fun h5 => ?_) (fun h5 => ?_)
      · have H := H.1 h5
        refine zB.inc oX12_apart rfl (lv2 := [some (.ref 7168), some (.int (zI gaps)), some (.int (zI all)), some (.int (zI cn)), some (.int (zI lot)), some (.int (zI is)), some (.int (zI (a + 1)))]) (zi_inc (a := 0) (zi_addp1 a) _ rfl) ?_
        refine xB.run oX12_apart 1 (s := (22, [some (.ref 7168), some (.int (zI gaps)), some (.int (zI all)), some (.int (zI cn)), some (.int (zI lot)), some (.int (zI is)), some (.int (zI (a + 1)))], [], [r0, r1, r2, r3, r4, r5, r6, zH s7 zL7 0, r8, r9])) rfl ?_
        exact ih is (a + 1) H K
      · have H := H.2 h5
        refine xB.run oX12_apart 1 (s := (43, [some (.ref 7168), some (.int (zI gaps)), some (.int (zI all)), some (.int (zI cn)), some (.int (zI lot)), some (.int (zI is)), some (.int (zI a))], [.int (zI is)], [r0, r1, r2, r3, r4, r5, r6, zH s7 zL7 0, r8, r9])) rfl ?_
        obtain ⟨g19, H⟩ := zgd H
        have H := zif H
        refine xB.brE oX12_apart (P := is = 0) rfl (zc_eq (a := is) (b := 0) ⟨g19, by decide⟩) (fun h6 => ?_) (fun h6 => ?_)
        · have H := H.1 h6
          refine xB.run oX12_apart 2 (s := (89, [some (.ref 7168), some (.int (zI gaps)), some (.int (zI all)), some (.int (zI cn)), some (.int (zI lot)), some (.int (zI 0)), some (.int (zI a))], [], [r0, r1, r2, r3, r4, r5, r6, zH s7 zL7 0, r8, r9])) rfl ?_
          refine zB.inc oX12_apart rfl (lv2 := [some (.ref 7168), some (.int (zI gaps)), some (.int (zI all)), some (.int (zI cn)), some (.int (zI lot)), some (.int (zI 0)), some (.int (zI (a + 1)))]) (zi_inc (a := 0) (zi_addp1 a) _ rfl) ?_
          refine xB.run oX12_apart 1 (s := (22, [some (.ref 7168), some (.int (zI gaps)), some (.int (zI all)), some (.int (zI cn)), some (.int (zI lot)), some (.int (zI 0)), some (.int (zI (a + 1)))], [], [r0, r1, r2, r3, r4, r5, r6, zH s7 zL7 0, r8, r9])) rfl ?_
          exact ih 0 (a + 1) H K
        · have H := H.2 h6
          refine xB.run oX12_apart 3 (s := (52, [some (.ref 7168), some (.int (zI gaps)), some (.int (zI all)), some (.int (zI cn)), some (.int (zI lot)), some (.int (zI is)), some (.int (zI a))], [.int (zI a), .ref 7195], [r0, r1, r2, r3, r4, r5, r6, zH s7 zL7 0, r8, r9])) rfl ?_
          obtain ⟨g18, H⟩ := zgd H
          refine zB.bald oX12_apart (g := 7) (p := 27) (N := 100) (i := a) rfl rfl (by decide) rfl rfl (by decide) g18 ?_
          refine xB.run oX12_apart 1 (s := (54, [some (.ref 7168), some (.int (zI gaps)), some (.int (zI all)), some (.int (zI cn)), some (.int (zI lot)), some (.int (zI is)), some (.int (zI a))], [.int (zI gaps), .int (zI (s7 27 a.toNat))], [r0, r1, r2, r3, r4, r5, r6, zH s7 zL7 0, r8, r9])) rfl ?_
          obtain ⟨g17, H⟩ := zgd H
          have H := zif H
          refine xB.brE oX12_apart (P := (s7 27 a.toNat) ≠ gaps) rfl (zc_ne (a := s7 27 a.toNat) (b := gaps) g17) (fun h7 => ?_) (fun h7 => ?_)
          · have H := H.1 h7
            refine xB.run oX12_apart 2 (s := (89, [some (.ref 7168), some (.int (zI gaps)), some (.int (zI all)), some (.int (zI cn)), some (.int (zI lot)), some (.int (zI 0)), some (.int (zI a))], [], [r0, r1, r2, r3, r4, r5, r6, zH s7 zL7 0, r8, r9])) rfl ?_
            refine zB.inc oX12_apart rfl (lv2 := [some (.ref 7168), some (.int (zI gaps)), some (.int (zI all)), some (.int (zI cn)), some (.int (zI lot)), some (.int (zI 0)), some (.int (zI (a + 1)))]) (zi_inc (a := 0) (zi_addp1 a) _ rfl) ?_
            refine xB.run oX12_apart 1 (s := (22, [some (.ref 7168), some (.int (zI gaps)), some (.int (zI all)), some (.int (zI cn)), some (.int (zI lot)), some (.int (zI 0)), some (.int (zI (a + 1)))], [], [r0, r1, r2, r3, r4, r5, r6, zH s7 zL7 0, r8, r9])) rfl ?_
            exact ih 0 (a + 1) H K
          · have H := H.2 h7
            refine xB.run oX12_apart 1 (s := (58, [some (.ref 7168), some (.int (zI gaps)), some (.int (zI all)), some (.int (zI cn)), some (.int (zI lot)), some (.int (zI is)), some (.int (zI a))], [.int (zI gaps)], [r0, r1, r2, r3, r4, r5, r6, zH s7 zL7 0, r8, r9])) rfl ?_
            obtain ⟨g16, H⟩ := zgd H
            have H := zif H
            refine xB.brE oX12_apart (P := gaps = 0) rfl (zc_eq (a := gaps) (b := 0) ⟨g16, by decide⟩) (fun h8 => ?_) (fun h8 => ?_)
            · have H := H.1 h8
              refine xB.run oX12_apart 2 (s := (76, [some (.ref 7168), some (.int (zI gaps)), some (.int (zI all)), some (.int (zI cn)), some (.int (zI lot)), some (.int (zI is)), some (.int (zI a))], [.int (zI 10), .int (zI a)], [r0, r1, r2, r3, r4, r5, r6, zH s7 zL7 0, r8, r9])) rfl ?_
              obtain ⟨g11, H⟩ := zgd H
              refine zB.divi oX12_apart (b := 10) rfl (zi_divp g11 (by decide)) rfl (by decide) ?_
              refine xB.run oX12_apart 1 (s := (79, [some (.ref 7168), some (.int (zI gaps)), some (.int (zI all)), some (.int (zI cn)), some (.int (zI lot)), some (.int (zI is)), some (.int (zI a))], [.int (zI 9), .int (zI (a / 10))], [r0, r1, r2, r3, r4, r5, r6, zH s7 zL7 0, r8, r9])) rfl ?_
              obtain ⟨g10, H⟩ := zgd H
              have H := zif H
              refine xB.brE oX12_apart (P := (a / 10) = 9) rfl (zc_eq (a := a / 10) (b := 9) ⟨g10, by decide⟩) (fun h9 => ?_) (fun h9 => ?_)
              · have H := H.1 h9
                refine xB.run oX12_apart 2 (s := (89, [some (.ref 7168), some (.int (zI gaps)), some (.int (zI all)), some (.int (zI cn)), some (.int (zI lot)), some (.int (zI 0)), some (.int (zI a))], [], [r0, r1, r2, r3, r4, r5, r6, zH s7 zL7 0, r8, r9])) rfl ?_
                refine zB.inc oX12_apart rfl (lv2 := [some (.ref 7168), some (.int (zI gaps)), some (.int (zI all)), some (.int (zI cn)), some (.int (zI lot)), some (.int (zI 0)), some (.int (zI (a + 1)))]) (zi_inc (a := 0) (zi_addp1 a) _ rfl) ?_
                refine xB.run oX12_apart 1 (s := (22, [some (.ref 7168), some (.int (zI gaps)), some (.int (zI all)), some (.int (zI cn)), some (.int (zI lot)), some (.int (zI 0)), some (.int (zI (a + 1)))], [], [r0, r1, r2, r3, r4, r5, r6, zH s7 zL7 0, r8, r9])) rfl ?_
                exact ih 0 (a + 1) H K
              · have H := H.2 h9
                refine xB.run oX12_apart 3 (s := (89, [some (.ref 7168), some (.int (zI gaps)), some (.int (zI all)), some (.int (zI cn)), some (.int (zI lot)), some (.int (zI 1)), some (.int (zI a))], [], [r0, r1, r2, r3, r4, r5, r6, zH s7 zL7 0, r8, r9])) rfl ?_
                refine zB.inc oX12_apart rfl (lv2 := [some (.ref 7168), some (.int (zI gaps)), some (.int (zI all)), some (.int (zI cn)), some (.int (zI lot)), some (.int (zI 1)), some (.int (zI (a + 1)))]) (zi_inc (a := 0) (zi_addp1 a) _ rfl) ?_
                refine xB.run oX12_apart 1 (s := (22, [some (.ref 7168), some (.int (zI gaps)), some (.int (zI all)), some (.int (zI cn)), some (.int (zI lot)), some (.int (zI 1)), some (.int (zI (a + 1)))], [], [r0, r1, r2, r3, r4, r5, r6, zH s7 zL7 0, r8, r9])) rfl ?_
                exact ih 1 (a + 1) H K
            · have H := H.2 h8
              refine xB.run oX12_apart 1 (s := (63, [some (.ref 7168), some (.int (zI gaps)), some (.int (zI all)), some (.int (zI cn)), some (.int (zI lot)), some (.int (zI is)), some (.int (zI a))], [.int (zI a)], [r0, r1, r2, r3, r4, r5, r6, zH s7 zL7 0, r8, r9])) rfl ?_
              obtain ⟨y12, e13, H⟩ := zbd H
              refine xB.call oX12_apart (M2 := MX12_isRim) rfl rfl ((t_X12_isRim r0 r1 r2 r3 r4 r5 r6 (zH s7 zL7 0) r8 r9 a e13).deep (by decide : 0 ≤ 3)) ?_
              show xBody MX12_apart 4 66 [some (.ref 7168), some (.int (zI gaps)), some (.int (zI all)), some (.int (zI cn)), some (.int (zI lot)), some (.int (zI is)), some (.int (zI a))] [.int (zI y12)] ([r0, r1, r2, r3, r4, r5, r6, zH s7 zL7 0, r8, r9]) _ _
              obtain ⟨g15, H⟩ := zgd H
              have H := zif H
              refine xB.brE oX12_apart (P := y12 = 0) rfl (zc_eq (a := y12) (b := 0) ⟨g15, by decide⟩) (fun h14 => ?_) (fun h14 => ?_)
              · have H := H.1 h14
                refine xB.run oX12_apart 3 (s := (89, [some (.ref 7168), some (.int (zI gaps)), some (.int (zI all)), some (.int (zI cn)), some (.int (zI lot)), some (.int (zI 1)), some (.int (zI a))], [], [r0, r1, r2, r3, r4, r5, r6, zH s7 zL7 0, r8, r9])) rfl ?_
                refine zB.inc oX12_apart rfl (lv2 := [some (.ref 7168), some (.int (zI gaps)), some (.int (zI all)), some (.int (zI cn)), some (.int (zI lot)), some (.int (zI 1)), some (.int (zI (a + 1)))]) (zi_inc (a := 0) (zi_addp1 a) _ rfl) ?_
                refine xB.run oX12_apart 1 (s := (22, [some (.ref 7168), some (.int (zI gaps)), some (.int (zI all)), some (.int (zI cn)), some (.int (zI lot)), some (.int (zI 1)), some (.int (zI (a + 1)))], [], [r0, r1, r2, r3, r4, r5, r6, zH s7 zL7 0, r8, r9])) rfl ?_
                exact ih 1 (a + 1) H K
              · have H := H.2 h14
                refine xB.run oX12_apart 3 (s := (89, [some (.ref 7168), some (.int (zI gaps)), some (.int (zI all)), some (.int (zI cn)), some (.int (zI lot)), some (.int (zI 0)), some (.int (zI a))], [], [r0, r1, r2, r3, r4, r5, r6, zH s7 zL7 0, r8, r9])) rfl ?_
                refine zB.inc oX12_apart rfl (lv2 := [some (.ref 7168), some (.int (zI gaps)), some (.int (zI all)), some (.int (zI cn)), some (.int (zI lot)), some (.int (zI 0)), some (.int (zI (a + 1)))]) (zi_inc (a := 0) (zi_addp1 a) _ rfl) ?_
                refine xB.run oX12_apart 1 (s := (22, [some (.ref 7168), some (.int (zI gaps)), some (.int (zI all)), some (.int (zI cn)), some (.int (zI lot)), some (.int (zI 0)), some (.int (zI (a + 1)))], [], [r0, r1, r2, r3, r4, r5, r6, zH s7 zL7 0, r8, r9])) rfl ?_
                exact ih 0 (a + 1) H K
set_option maxRecDepth 20000 in
theorem l_X12_apart_10 (r0 : List va_E) (r1 : List va_E) (r2 : List va_E) (r3 : List va_E) (r4 : List va_E) (r5 : List va_E) (r6 : List va_E) (s7 : zZ) (r8 : List va_E) (r9 : List va_E) (gaps : Int) (all : Int) {r : Option Value} {hp1 : xH} : ∀ (uN : Nat) (cn : Int) (lot : Int) {uX : Int × Int}, d_X12_apart_10 s7 gaps all uN cn lot = some uX → (xBody MX12_apart 4 114 [some (.ref 7168), some (.int (zI gaps)), some (.int (zI all)), some (.int (zI uX.1)), some (.int (zI uX.2)), none, none] [] ([r0, r1, r2, r3, r4, r5, r6, zH s7 zL7 0, r8, r9]) r hp1) → xBody MX12_apart 4 10 [some (.ref 7168), some (.int (zI gaps)), some (.int (zI all)), some (.int (zI cn)), some (.int (zI lot)), none, none] [] ([r0, r1, r2, r3, r4, r5, r6, zH s7 zL7 0, r8, r9]) r hp1 := by
  intro uN
  induction uN with
  | zero => intro cn lot uX H K; cases H
  | succ uN ih =>
    intro cn lot uX H K
    unfold d_X12_apart_10 at H
    refine xB.run oX12_apart 2 (s := (13, [some (.ref 7168), some (.int (zI gaps)), some (.int (zI all)), some (.int (zI cn)), some (.int (zI lot)), none, none], [.int (zI all), .int (zI lot)], [r0, r1, r2, r3, r4, r5, r6, zH s7 zL7 0, r8, r9])) rfl ?_
    obtain ⟨g27, H⟩ := zgd H
    have H := zif H
    refine xB.brE oX12_apart (P := all ≤ lot) rfl (zc_ge (a := lot) (b := all) g27) (fun h3 => ?_) (fun h3 => ?_)
    · have H := H.1 h3
      obtain rfl := Option.some.inj H
      exact K
    · have H := H.2 h3
      refine xB.run oX12_apart 4 (s := (22, [some (.ref 7168), some (.int (zI gaps)), some (.int (zI all)), some (.int (zI cn)), some (.int (zI lot)), some (.int (zI 1)), some (.int (zI 0))], [], [r0, r1, r2, r3, r4, r5, r6, zH s7 zL7 0, r8, r9])) rfl ?_
      obtain ⟨y23, e24, H⟩ := zbd H
      refine l_X12_apart_22 r0 r1 r2 r3 r4 r5 r6 s7 r8 r9 gaps all cn lot _ 1 0 e24 ?_
      refine xB.run oX12_apart 2 (s := (98, [some (.ref 7168), some (.int (zI gaps)), some (.int (zI all)), some (.int (zI cn)), some (.int (zI lot)), some (.int (zI y23.1)), some (.int (zI y23.2))], [.int (zI y23.1), .int (zI cn)], [r0, r1, r2, r3, r4, r5, r6, zH s7 zL7 0, r8, r9])) rfl ?_
      obtain ⟨g26, H⟩ := zgd H
      have H := zif H
      refine xB.brE oX12_apart (P := y23.1 = 0) rfl (zc_eq (a := y23.1) (b := 0) ⟨g26, by decide⟩) (fun h25 => ?_) (fun h25 => ?_)
      · have H := H.1 h25
        refine xB.run oX12_apart 1 (s := (106, [some (.ref 7168), some (.int (zI gaps)), some (.int (zI all)), some (.int (zI cn)), some (.int (zI lot)), some (.int (zI y23.1)), some (.int (zI y23.2))], [.int (zI 0), .int (zI cn)], [r0, r1, r2, r3, r4, r5, r6, zH s7 zL7 0, r8, r9])) rfl ?_
        refine zB.opi oX12_apart rfl (zi_add cn 0) ?_
        refine xB.run oX12_apart 1 (s := (108, [some (.ref 7168), some (.int (zI gaps)), some (.int (zI all)), some (.int (zI (cn + 0))), some (.int (zI lot)), some (.int (zI y23.1)), some (.int (zI y23.2))], [], [r0, r1, r2, r3, r4, r5, r6, zH s7 zL7 0, r8, r9])) rfl ?_
        refine zB.inc oX12_apart rfl (lv2 := [some (.ref 7168), some (.int (zI gaps)), some (.int (zI all)), some (.int (zI (cn + 0))), some (.int (zI (lot + 1))), some (.int (zI y23.1)), some (.int (zI y23.2))]) (zi_inc (a := 0) (zi_addp1 lot) _ rfl) ?_
        refine xB.run oX12_apart 1 (s := (10, [some (.ref 7168), some (.int (zI gaps)), some (.int (zI all)), some (.int (zI (cn + 0))), some (.int (zI (lot + 1))), some (.int (zI y23.1)), some (.int (zI y23.2))], [], [r0, r1, r2, r3, r4, r5, r6, zH s7 zL7 0, r8, r9])) rfl ?_
        refine xB.forget (lv1 := [some (.ref 7168), some (.int (zI gaps)), some (.int (zI all)), some (.int (zI (cn + 0))), some (.int (zI (lot + 1))), none, none]) (xle_same (xle_same (xle_same (xle_same (xle_same (xle_none (xle_none (xle_nil)))))))) ?_
        exact ih (cn + 0) (lot + 1) H K
      · have H := H.2 h25
        refine xB.run oX12_apart 2 (s := (106, [some (.ref 7168), some (.int (zI gaps)), some (.int (zI all)), some (.int (zI cn)), some (.int (zI lot)), some (.int (zI y23.1)), some (.int (zI y23.2))], [.int (zI 1), .int (zI cn)], [r0, r1, r2, r3, r4, r5, r6, zH s7 zL7 0, r8, r9])) rfl ?_
        refine zB.opi oX12_apart rfl (zi_add cn 1) ?_
        refine xB.run oX12_apart 1 (s := (108, [some (.ref 7168), some (.int (zI gaps)), some (.int (zI all)), some (.int (zI (cn + 1))), some (.int (zI lot)), some (.int (zI y23.1)), some (.int (zI y23.2))], [], [r0, r1, r2, r3, r4, r5, r6, zH s7 zL7 0, r8, r9])) rfl ?_
        refine zB.inc oX12_apart rfl (lv2 := [some (.ref 7168), some (.int (zI gaps)), some (.int (zI all)), some (.int (zI (cn + 1))), some (.int (zI (lot + 1))), some (.int (zI y23.1)), some (.int (zI y23.2))]) (zi_inc (a := 0) (zi_addp1 lot) _ rfl) ?_
        refine xB.run oX12_apart 1 (s := (10, [some (.ref 7168), some (.int (zI gaps)), some (.int (zI all)), some (.int (zI (cn + 1))), some (.int (zI (lot + 1))), some (.int (zI y23.1)), some (.int (zI y23.2))], [], [r0, r1, r2, r3, r4, r5, r6, zH s7 zL7 0, r8, r9])) rfl ?_
        refine xB.forget (lv1 := [some (.ref 7168), some (.int (zI gaps)), some (.int (zI all)), some (.int (zI (cn + 1))), some (.int (zI (lot + 1))), none, none]) (xle_same (xle_same (xle_same (xle_same (xle_same (xle_none (xle_none (xle_nil)))))))) ?_
        exact ih (cn + 1) (lot + 1) H K
set_option maxRecDepth 20000 in
theorem t_X12_apart (r0 : List va_E) (r1 : List va_E) (r2 : List va_E) (r3 : List va_E) (r4 : List va_E) (r5 : List va_E) (r6 : List va_E) (s7 : zZ) (r8 : List va_E) (r9 : List va_E) (gaps : Int) {rr : Int × zZ} (H : d_X12_apart s7 gaps = some rr) : xC MX12_apart 4 [.ref 7168, .int (zI gaps)] ([r0, r1, r2, r3, r4, r5, r6, zH s7 zL7 0, r8, r9]) (some (.int (zI rr.1))) ([r0, r1, r2, r3, r4, r5, r6, zH rr.2 zL7 0, r8, r9]) := by
  refine ⟨Nat.le_of_ble_eq_true rfl, ?_⟩
  show xBody MX12_apart 4 0 [some (.ref 7168), some (.int (zI gaps)), none, none, none, none, none] [] ([r0, r1, r2, r3, r4, r5, r6, zH s7 zL7 0, r8, r9]) _ _
  unfold d_X12_apart at H
  refine xB.run oX12_apart 1 (s := (1, [some (.ref 7168), some (.int (zI gaps)), none, none, none, none, none], [.ref 7168], [r0, r1, r2, r3, r4, r5, r6, zH s7 zL7 0, r8, r9])) rfl ?_
  obtain ⟨y1, e2, H⟩ := zbd H
  refine xB.call oX12_apart (M2 := MX12_layLots) rfl rfl ((t_X12_layLots r0 r1 r2 r3 r4 r5 r6 s7 r8 r9  e2).deep (by decide : 3 ≤ 3)) ?_
  show xBody MX12_apart 4 4 [some (.ref 7168), some (.int (zI gaps)), none, none, none, none, none] [.int (zI y1.1)] ([r0, r1, r2, r3, r4, r5, r6, zH y1.2 zL7 0, r8, r9]) _ _
  refine xB.run oX12_apart 5 (s := (10, [some (.ref 7168), some (.int (zI gaps)), some (.int (zI y1.1)), some (.int (zI 0)), some (.int (zI 0)), none, none], [], [r0, r1, r2, r3, r4, r5, r6, zH y1.2 zL7 0, r8, r9])) rfl ?_
  obtain ⟨y28, e29, H⟩ := zbd H
  refine l_X12_apart_10 r0 r1 r2 r3 r4 r5 r6 y1.2 r8 r9 gaps y1.1 _ 0 0 e29 ?_
  refine xB.run oX12_apart 1 (s := (115, [some (.ref 7168), some (.int (zI gaps)), some (.int (zI y1.1)), some (.int (zI y28.1)), some (.int (zI y28.2)), none, none], [.int (zI y28.1)], [r0, r1, r2, r3, r4, r5, r6, zH y1.2 zL7 0, r8, r9])) rfl ?_
  obtain rfl := Option.some.inj H
  exact xB.ret oX12_apart (r1 := some (.int (zI y28.1))) rfl rfl rfl
def d_X12_shortest_2  : Nat → Int → zZ → Option (Int × zZ)
  | 0, _, _ => none
  | uN + 1, more, s7 => if (zr more) then (if (100 : Int) ≤ more then some (more, s7) else (if (0 ≤ more ∧ zr more) then (if (zr (more % 10)) then (if (more % 10) ≠ 0 then (if (0 ≤ more ∧ more < 100) then (d_X12_shortest_2 uN (more + 1) (upz s7 28 more.toNat 1000000)) else none) else (if (0 ≤ more ∧ more < 100) then (if (zr (s7 27 more.toNat)) then (if (s7 27 more.toNat) = 0 then (if (0 ≤ more ∧ more < 100) then (d_X12_shortest_2 uN (more + 1) (upz s7 28 more.toNat 1)) else none) else (if (0 ≤ more ∧ more < 100) then (d_X12_shortest_2 uN (more + 1) (upz s7 28 more.toNat 0)) else none)) else none) else none)) else none) else none)) else none
def d_X12_shortest_64 (a : Int) : Nat → Int → Int → zZ → Option (Int × Int × zZ)
  | 0, _, _, _ => none
  | uN + 1, more, d, s7 => if (zr d) then (if (9 : Int) ≤ d then some (more, d, s7) else (if (0 ≤ a ∧ zr a) then (if (0 ≤ d ∧ zr d) then (if (0 ≤ a ∧ zr a) then (if (0 ≤ d ∧ zr d) then (if zr (((a / 10) + (d / 3)) - 1) then ((d_X12_within (((a / 10) + (d / 3)) - 1) 0 9).bind fun y17 => if (zr y17) then (if y17 = 0 then (d_X12_shortest_64 a uN more (d + 1) s7) else (if zr (((a % 10) + (d % 3)) - 1) then ((d_X12_within (((a % 10) + (d % 3)) - 1) 0 9).bind fun y20 => if (zr y20) then (if y20 ≠ 0 then (if (0 ≤ ((10 * (((a / 10) + (d / 3)) - 1)) + (((a % 10) + (d % 3)) - 1)) ∧ ((10 * (((a / 10) + (d / 3)) - 1)) + (((a % 10) + (d % 3)) - 1)) < 100) then (if (0 ≤ a ∧ a < 100) then (if (zr (s7 27 a.toNat)) then (if (s7 27 a.toNat) = 0 then (if (0 ≤ a ∧ a < 100) then (if (zr ((s7 28 ((10 * (((a / 10) + (d / 3)) - 1)) + (((a % 10) + (d % 3)) - 1)).toNat) + 1) ∧ zr (s7 28 a.toNat)) then (if (s7 28 a.toNat) ≤ ((s7 28 ((10 * (((a / 10) + (d / 3)) - 1)) + (((a % 10) + (d % 3)) - 1)).toNat) + 1) then (d_X12_shortest_64 a uN more (d + 1) s7) else (if (0 ≤ a ∧ a < 100) then (d_X12_shortest_64 a uN 1 (d + 1) (upz s7 28 a.toNat ((s7 28 ((10 * (((a / 10) + (d / 3)) - 1)) + (((a % 10) + (d % 3)) - 1)).toNat) + 1))) else none)) else none) else none) else (if (0 ≤ a ∧ a < 100) then (if (zr ((s7 28 ((10 * (((a / 10) + (d / 3)) - 1)) + (((a % 10) + (d % 3)) - 1)).toNat) + 0) ∧ zr (s7 28 a.toNat)) then (if (s7 28 a.toNat) ≤ ((s7 28 ((10 * (((a / 10) + (d / 3)) - 1)) + (((a % 10) + (d % 3)) - 1)).toNat) + 0) then (d_X12_shortest_64 a uN more (d + 1) s7) else (if (0 ≤ a ∧ a < 100) then (d_X12_shortest_64 a uN 1 (d + 1) (upz s7 28 a.toNat ((s7 28 ((10 * (((a / 10) + (d / 3)) - 1)) + (((a % 10) + (d % 3)) - 1)).toNat) + 0))) else none)) else none) else none)) else none) else none) else none) else (d_X12_shortest_64 a uN more (d + 1) s7)) else none) else none)) else none) else none) else none) else none) else none) else none)) else none
def d_X12_shortest_56  : Nat → Int → Int → zZ → Option (Int × Int × zZ)
  | 0, _, _, _ => none
  | uN + 1, more, a, s7 => if (zr a) then (if (100 : Int) ≤ a then some (more, a, s7) else ((d_X12_shortest_64 a zF more 0 s7).bind fun y44 => d_X12_shortest_56 uN y44.1 (a + 1) y44.2.2)) else none
def d_X12_shortest_48  : Nat → Int → zZ → Option (Int × zZ)
  | 0, _, _ => none
  | uN + 1, more, s7 => if (zr more) then (if more = 0 then some (more, s7) else ((d_X12_shortest_56 zF 0 0 s7).bind fun y47 => d_X12_shortest_48 uN y47.1 y47.2.2)) else none
def d_X12_shortest_194 (s7 : zZ) (more : Int) : Nat → Int → Int → Option (Int × Int)
  | 0, _, _ => none
  | uN + 1, a, d => if (zr d) then (if (10 : Int) ≤ d then some (a, d) else (if (0 ≤ (((10 * d) + 10) - 1) ∧ (((10 * d) + 10) - 1) < 100) then (if (zr (s7 28 (((10 * d) + 10) - 1).toNat) ∧ zr a) then (if a ≤ (s7 28 (((10 * d) + 10) - 1).toNat) then (d_X12_shortest_194 s7 more uN a (d + 1)) else (if (0 ≤ (((10 * d) + 10) - 1) ∧ (((10 * d) + 10) - 1) < 100) then (d_X12_shortest_194 s7 more uN (s7 28 (((10 * d) + 10) - 1).toNat) (d + 1)) else none)) else none) else none)) else none
def d_X12_shortest (s7 : zZ) : Option (Int × zZ) := (d_X12_shortest_2 zF 0 s7).bind fun y12 => (d_X12_shortest_48 zF 1 y12.2).bind fun y50 => (d_X12_shortest_194 y50.2 y50.1 zF 1000000 0).bind fun y58 => some (y58.1, y50.2)
set_option maxRecDepth 20000 in
theorem l_X12_shortest_2 (r0 : List va_E) (r1 : List va_E) (r2 : List va_E) (r3 : List va_E) (r4 : List va_E) (r5 : List va_E) (r6 : List va_E) (r8 : List va_E) (r9 : List va_E) {r : Option Value} {hp1 : xH} : ∀ (uN : Nat) (more : Int) (s7 : zZ) {uX : Int × zZ}, d_X12_shortest_2 uN more s7 = some uX → (xBody MX12_shortest 1 46 [some (.ref 7168), some (.int (zI uX.1)), none, none, none, none, none] [] ([r0, r1, r2, r3, r4, r5, r6, zH uX.2 zL7 0, r8, r9]) r hp1) → xBody MX12_shortest 1 2 [some (.ref 7168), some (.int (zI more)), none, none, none, none, none] [] ([r0, r1, r2, r3, r4, r5, r6, zH s7 zL7 0, r8, r9]) r hp1 := by
  intro uN
  induction uN with
  | zero => intro more s7 uX H K; cases H
  | succ uN ih =>
    intro more s7 uX H K
    unfold d_X12_shortest_2 at H
    refine xB.run oX12_shortest 2 (s := (5, [some (.ref 7168), some (.int (zI more)), none, none, none, none, none], [.int (zI 100), .int (zI more)], [r0, r1, r2, r3, r4, r5, r6, zH s7 zL7 0, r8, r9])) rfl ?_
    obtain ⟨g11, H⟩ := zgd H
    have H := zif H
    refine xB.brE oX12_shortest (P := (100 : Int) ≤ more) rfl (zc_ge (a := more) (b := 100) ⟨g11, by decide⟩) (fun h1 => ?_) (fun h1 => ?_)
    · have H := H.1 h1
      obtain rfl := Option.some.inj H
      exact K
    · have H := H.2 h1
      refine xB.run oX12_shortest 5 (s := (16, [some (.ref 7168), some (.int (zI more)), none, none, none, none, none], [.int (zI 10), .int (zI more), .int (zI more), .ref 7196], [r0, r1, r2, r3, r4, r5, r6, zH s7 zL7 0, r8, r9])) rfl ?_
      obtain ⟨g10, H⟩ := zgd H
      refine zB.divi oX12_shortest (b := 10) rfl (zi_remp g10 (by decide)) rfl (by decide) ?_
      obtain ⟨g9, H⟩ := zgd H
      have H := zif H
      refine xB.brE oX12_shortest (P := (more % 10) ≠ 0) rfl (zc_ne (a := more % 10) (b := 0) ⟨g9, by decide⟩) (fun h2 => ?_) (fun h2 => ?_)
      · have H := H.1 h2
        refine xB.run oX12_shortest 1 (s := (39, [some (.ref 7168), some (.int (zI more)), none, none, none, none, none], [.int (zI 1000000), .int (zI more), .ref 7196], [r0, r1, r2, r3, r4, r5, r6, zH s7 zL7 0, r8, r9])) rfl ?_
        obtain ⟨g3, H⟩ := zgd H
        refine zB.iast oX12_shortest (g := 7) (p := 28) (N := 100) (i := more) (hp1 := [r0, r1, r2, r3, r4, r5, r6, zH (upz s7 28 more.toNat 1000000) zL7 0, r8, r9]) rfl rfl (by decide) (by decide) rfl rfl (by decide) g3 rfl ?_
        refine zB.inc oX12_shortest rfl (lv2 := [some (.ref 7168), some (.int (zI (more + 1))), none, none, none, none, none]) (zi_inc (a := 0) (zi_addp1 more) _ rfl) ?_
        refine xB.run oX12_shortest 1 (s := (2, [some (.ref 7168), some (.int (zI (more + 1))), none, none, none, none, none], [], [r0, r1, r2, r3, r4, r5, r6, zH (upz s7 28 more.toNat 1000000) zL7 0, r8, r9])) rfl ?_
        exact ih (more + 1) (upz s7 28 more.toNat 1000000) H K
      · have H := H.2 h2
        refine xB.run oX12_shortest 3 (s := (25, [some (.ref 7168), some (.int (zI more)), none, none, none, none, none], [.int (zI more), .ref 7195, .int (zI more), .ref 7196], [r0, r1, r2, r3, r4, r5, r6, zH s7 zL7 0, r8, r9])) rfl ?_
        obtain ⟨g8, H⟩ := zgd H
        refine zB.bald oX12_shortest (g := 7) (p := 27) (N := 100) (i := more) rfl rfl (by decide) rfl rfl (by decide) g8 ?_
        obtain ⟨g7, H⟩ := zgd H
        have H := zif H
        refine xB.brE oX12_shortest (P := (s7 27 more.toNat) = 0) rfl (zc_eq (a := s7 27 more.toNat) (b := 0) ⟨g7, by decide⟩) (fun h4 => ?_) (fun h4 => ?_)
        · have H := H.1 h4
          refine xB.run oX12_shortest 2 (s := (39, [some (.ref 7168), some (.int (zI more)), none, none, none, none, none], [.int (zI 1), .int (zI more), .ref 7196], [r0, r1, r2, r3, r4, r5, r6, zH s7 zL7 0, r8, r9])) rfl ?_
          obtain ⟨g5, H⟩ := zgd H
          refine zB.iast oX12_shortest (g := 7) (p := 28) (N := 100) (i := more) (hp1 := [r0, r1, r2, r3, r4, r5, r6, zH (upz s7 28 more.toNat 1) zL7 0, r8, r9]) rfl rfl (by decide) (by decide) rfl rfl (by decide) g5 rfl ?_
          refine zB.inc oX12_shortest rfl (lv2 := [some (.ref 7168), some (.int (zI (more + 1))), none, none, none, none, none]) (zi_inc (a := 0) (zi_addp1 more) _ rfl) ?_
          refine xB.run oX12_shortest 1 (s := (2, [some (.ref 7168), some (.int (zI (more + 1))), none, none, none, none, none], [], [r0, r1, r2, r3, r4, r5, r6, zH (upz s7 28 more.toNat 1) zL7 0, r8, r9])) rfl ?_
          exact ih (more + 1) (upz s7 28 more.toNat 1) H K
        · have H := H.2 h4
          refine xB.run oX12_shortest 2 (s := (39, [some (.ref 7168), some (.int (zI more)), none, none, none, none, none], [.int (zI 0), .int (zI more), .ref 7196], [r0, r1, r2, r3, r4, r5, r6, zH s7 zL7 0, r8, r9])) rfl ?_
          obtain ⟨g6, H⟩ := zgd H
          refine zB.iast oX12_shortest (g := 7) (p := 28) (N := 100) (i := more) (hp1 := [r0, r1, r2, r3, r4, r5, r6, zH (upz s7 28 more.toNat 0) zL7 0, r8, r9]) rfl rfl (by decide) (by decide) rfl rfl (by decide) g6 rfl ?_
          refine zB.inc oX12_shortest rfl (lv2 := [some (.ref 7168), some (.int (zI (more + 1))), none, none, none, none, none]) (zi_inc (a := 0) (zi_addp1 more) _ rfl) ?_
          refine xB.run oX12_shortest 1 (s := (2, [some (.ref 7168), some (.int (zI (more + 1))), none, none, none, none, none], [], [r0, r1, r2, r3, r4, r5, r6, zH (upz s7 28 more.toNat 0) zL7 0, r8, r9])) rfl ?_
          exact ih (more + 1) (upz s7 28 more.toNat 0) H K
set_option maxRecDepth 20000 in
theorem l_X12_shortest_64 (r0 : List va_E) (r1 : List va_E) (r2 : List va_E) (r3 : List va_E) (r4 : List va_E) (r5 : List va_E) (r6 : List va_E) (r8 : List va_E) (r9 : List va_E) (a : Int) {r : Option Value} {hp1 : xH} : ∀ (uN : Nat) (more : Int) (d : Int) (s7 : zZ) {uX : Int × Int × zZ}, d_X12_shortest_64 a uN more d s7 = some uX → (xBody MX12_shortest 1 180 [some (.ref 7168), some (.int (zI uX.1)), some (.int (zI a)), some (.int (zI uX.2.1)), none, none, none] [] ([r0, r1, r2, r3, r4, r5, r6, zH uX.2.2 zL7 0, r8, r9]) r hp1) → xBody MX12_shortest 1 64 [some (.ref 7168), some (.int (zI more)), some (.int (zI a)), some (.int (zI d)), none, none, none] [] ([r0, r1, r2, r3, r4, r5, r6, zH s7 zL7 0, r8, r9]) r hp1 := by
  intro uN
  induction uN with
  | zero => intro more d s7 uX H K; cases H
  | succ uN ih =>
    intro more d s7 uX H K
    unfold d_X12_shortest_64 at H
    refine xB.run oX12_shortest 2 (s := (67, [some (.ref 7168), some (.int (zI more)), some (.int (zI a)), some (.int (zI d)), none, none, none], [.int (zI 9), .int (zI d)], [r0, r1, r2, r3, r4, r5, r6, zH s7 zL7 0, r8, r9])) rfl ?_
    obtain ⟨g43, H⟩ := zgd H
    have H := zif H
    refine xB.brE oX12_shortest (P := (9 : Int) ≤ d) rfl (zc_ge (a := d) (b := 9) ⟨g43, by decide⟩) (fun h16 => ?_) (fun h16 => ?_)
    · have H := H.1 h16
      obtain rfl := Option.some.inj H
      exact K
    · have H := H.2 h16
      refine xB.run oX12_shortest 2 (s := (73, [some (.ref 7168), some (.int (zI more)), some (.int (zI a)), some (.int (zI d)), none, none, none], [.int (zI 10), .int (zI a)], [r0, r1, r2, r3, r4, r5, r6, zH s7 zL7 0, r8, r9])) rfl ?_
      obtain ⟨g42, H⟩ := zgd H
      refine zB.divi oX12_shortest (b := 10) rfl (zi_divp g42 (by decide)) rfl (by decide) ?_
      refine xB.run oX12_shortest 2 (s := (76, [some (.ref 7168), some (.int (zI more)), some (.int (zI a)), some (.int (zI d)), none, none, none], [.int (zI 3), .int (zI d), .int (zI (a / 10))], [r0, r1, r2, r3, r4, r5, r6, zH s7 zL7 0, r8, r9])) rfl ?_
      obtain ⟨g41, H⟩ := zgd H
      refine zB.divi oX12_shortest (b := 3) rfl (zi_divp g41 (by decide)) rfl (by decide) ?_
      refine zB.opi oX12_shortest rfl (zi_add (a / 10) (d / 3)) ?_
      refine xB.run oX12_shortest 1 (s := (79, [some (.ref 7168), some (.int (zI more)), some (.int (zI a)), some (.int (zI d)), none, none, none], [.int (zI 1), .int (zI ((a / 10) + (d / 3)))], [r0, r1, r2, r3, r4, r5, r6, zH s7 zL7 0, r8, r9])) rfl ?_
      refine zB.opi oX12_shortest rfl (zi_sub ((a / 10) + (d / 3)) 1) ?_
      refine xB.run oX12_shortest 3 (s := (85, [some (.ref 7168), some (.int (zI more)), some (.int (zI a)), some (.int (zI d)), some (.int (zI (((a / 10) + (d / 3)) - 1))), none, none], [.int (zI 10), .int (zI a)], [r0, r1, r2, r3, r4, r5, r6, zH s7 zL7 0, r8, r9])) rfl ?_
      obtain ⟨g40, H⟩ := zgd H
      refine zB.divi oX12_shortest (b := 10) rfl (zi_remp g40 (by decide)) rfl (by decide) ?_
      refine xB.run oX12_shortest 2 (s := (88, [some (.ref 7168), some (.int (zI more)), some (.int (zI a)), some (.int (zI d)), some (.int (zI (((a / 10) + (d / 3)) - 1))), none, none], [.int (zI 3), .int (zI d), .int (zI (a % 10))], [r0, r1, r2, r3, r4, r5, r6, zH s7 zL7 0, r8, r9])) rfl ?_
      obtain ⟨g39, H⟩ := zgd H
      refine zB.divi oX12_shortest (b := 3) rfl (zi_remp g39 (by decide)) rfl (by decide) ?_
      refine zB.opi oX12_shortest rfl (zi_add (a % 10) (d % 3)) ?_
      refine xB.run oX12_shortest 1 (s := (91, [some (.ref 7168), some (.int (zI more)), some (.int (zI a)), some (.int (zI d)), some (.int (zI (((a / 10) + (d / 3)) - 1))), none, none], [.int (zI 1), .int (zI ((a % 10) + (d % 3)))], [r0, r1, r2, r3, r4, r5, r6, zH s7 zL7 0, r8, r9])) rfl ?_
      refine zB.opi oX12_shortest rfl (zi_sub ((a % 10) + (d % 3)) 1) ?_
      refine xB.run oX12_shortest 2 (s := (96, [some (.ref 7168), some (.int (zI more)), some (.int (zI a)), some (.int (zI d)), some (.int (zI (((a / 10) + (d / 3)) - 1))), some (.int (zI (((a % 10) + (d % 3)) - 1))), none], [.int (zI (((a / 10) + (d / 3)) - 1))], [r0, r1, r2, r3, r4, r5, r6, zH s7 zL7 0, r8, r9])) rfl ?_
      obtain ⟨g38, H⟩ := zgd H
      refine zB.opl oX12_shortest rfl (zi_i2l g38) ?_
      refine xB.run oX12_shortest 2 (s := (101, [some (.ref 7168), some (.int (zI more)), some (.int (zI a)), some (.int (zI d)), some (.int (zI (((a / 10) + (d / 3)) - 1))), some (.int (zI (((a % 10) + (d % 3)) - 1))), none], [.long (zJ 9), .long (zJ 0), .long (zJ (((a / 10) + (d / 3)) - 1))], [r0, r1, r2, r3, r4, r5, r6, zH s7 zL7 0, r8, r9])) rfl ?_
      obtain ⟨y17, e18, H⟩ := zbd H
      refine xB.call oX12_shortest (M2 := MX12_within) rfl rfl ((t_X12_within r0 r1 r2 r3 r4 r5 r6 (zH s7 zL7 0) r8 r9 (((a / 10) + (d / 3)) - 1) 0 9 e18).deep (by decide : 0 ≤ 0)) ?_
      show xBody MX12_shortest 1 104 [some (.ref 7168), some (.int (zI more)), some (.int (zI a)), some (.int (zI d)), some (.int (zI (((a / 10) + (d / 3)) - 1))), some (.int (zI (((a % 10) + (d % 3)) - 1))), none] [.int (zI y17)] ([r0, r1, r2, r3, r4, r5, r6, zH s7 zL7 0, r8, r9]) _ _
      obtain ⟨g37, H⟩ := zgd H
      have H := zif H
      refine xB.brE oX12_shortest (P := y17 = 0) rfl (zc_eq (a := y17) (b := 0) ⟨g37, by decide⟩) (fun h19 => ?_) (fun h19 => ?_)
      · have H := H.1 h19
        refine zB.inc oX12_shortest rfl (lv2 := [some (.ref 7168), some (.int (zI more)), some (.int (zI a)), some (.int (zI (d + 1))), some (.int (zI (((a / 10) + (d / 3)) - 1))), some (.int (zI (((a % 10) + (d % 3)) - 1))), none]) (zi_inc (a := 0) (zi_addp1 d) _ rfl) ?_
        refine xB.run oX12_shortest 1 (s := (64, [some (.ref 7168), some (.int (zI more)), some (.int (zI a)), some (.int (zI (d + 1))), some (.int (zI (((a / 10) + (d / 3)) - 1))), some (.int (zI (((a % 10) + (d % 3)) - 1))), none], [], [r0, r1, r2, r3, r4, r5, r6, zH s7 zL7 0, r8, r9])) rfl ?_
        refine xB.forget (lv1 := [some (.ref 7168), some (.int (zI more)), some (.int (zI a)), some (.int (zI (d + 1))), none, none, none]) (xle_same (xle_same (xle_same (xle_same (xle_none (xle_none (xle_same (xle_nil)))))))) ?_
        exact ih more (d + 1) s7 H K
      · have H := H.2 h19
        refine xB.run oX12_shortest 1 (s := (109, [some (.ref 7168), some (.int (zI more)), some (.int (zI a)), some (.int (zI d)), some (.int (zI (((a / 10) + (d / 3)) - 1))), some (.int (zI (((a % 10) + (d % 3)) - 1))), none], [.int (zI (((a % 10) + (d % 3)) - 1))], [r0, r1, r2, r3, r4, r5, r6, zH s7 zL7 0, r8, r9])) rfl ?_
        obtain ⟨g36, H⟩ := zgd H
        refine zB.opl oX12_shortest rfl (zi_i2l g36) ?_
        refine xB.run oX12_shortest 2 (s := (114, [some (.ref 7168), some (.int (zI more)), some (.int (zI a)), some (.int (zI d)), some (.int (zI (((a / 10) + (d / 3)) - 1))), some (.int (zI (((a % 10) + (d % 3)) - 1))), none], [.long (zJ 9), .long (zJ 0), .long (zJ (((a % 10) + (d % 3)) - 1))], [r0, r1, r2, r3, r4, r5, r6, zH s7 zL7 0, r8, r9])) rfl ?_
        obtain ⟨y20, e21, H⟩ := zbd H
        refine xB.call oX12_shortest (M2 := MX12_within) rfl rfl ((t_X12_within r0 r1 r2 r3 r4 r5 r6 (zH s7 zL7 0) r8 r9 (((a % 10) + (d % 3)) - 1) 0 9 e21).deep (by decide : 0 ≤ 0)) ?_
        show xBody MX12_shortest 1 117 [some (.ref 7168), some (.int (zI more)), some (.int (zI a)), some (.int (zI d)), some (.int (zI (((a / 10) + (d / 3)) - 1))), some (.int (zI (((a % 10) + (d % 3)) - 1))), none] [.int (zI y20)] ([r0, r1, r2, r3, r4, r5, r6, zH s7 zL7 0, r8, r9]) _ _
        obtain ⟨g35, H⟩ := zgd H
        have H := zif H
        refine xB.brE oX12_shortest (P := y20 ≠ 0) rfl (zc_ne (a := y20) (b := 0) ⟨g35, by decide⟩) (fun h22 => ?_) (fun h22 => ?_)
        · have H := H.1 h22
          refine xB.run oX12_shortest 4 (s := (131, [some (.ref 7168), some (.int (zI more)), some (.int (zI a)), some (.int (zI d)), some (.int (zI (((a / 10) + (d / 3)) - 1))), some (.int (zI (((a % 10) + (d % 3)) - 1))), none], [.int (zI (((a / 10) + (d / 3)) - 1)), .int (zI 10), .ref 7196], [r0, r1, r2, r3, r4, r5, r6, zH s7 zL7 0, r8, r9])) rfl ?_
          refine zB.opi oX12_shortest rfl (zi_mul 10 (((a / 10) + (d / 3)) - 1)) ?_
          refine xB.run oX12_shortest 1 (s := (134, [some (.ref 7168), some (.int (zI more)), some (.int (zI a)), some (.int (zI d)), some (.int (zI (((a / 10) + (d / 3)) - 1))), some (.int (zI (((a % 10) + (d % 3)) - 1))), none], [.int (zI (((a % 10) + (d % 3)) - 1)), .int (zI (10 * (((a / 10) + (d / 3)) - 1))), .ref 7196], [r0, r1, r2, r3, r4, r5, r6, zH s7 zL7 0, r8, r9])) rfl ?_
          refine zB.opi oX12_shortest rfl (zi_add (10 * (((a / 10) + (d / 3)) - 1)) (((a % 10) + (d % 3)) - 1)) ?_
          obtain ⟨g34, H⟩ := zgd H
          refine zB.iald oX12_shortest (g := 7) (p := 28) (N := 100) (i := (10 * (((a / 10) + (d / 3)) - 1)) + (((a % 10) + (d % 3)) - 1)) rfl rfl (by decide) rfl rfl (by decide) g34 ?_
          refine xB.run oX12_shortest 3 (s := (141, [some (.ref 7168), some (.int (zI more)), some (.int (zI a)), some (.int (zI d)), some (.int (zI (((a / 10) + (d / 3)) - 1))), some (.int (zI (((a % 10) + (d % 3)) - 1))), none], [.int (zI a), .ref 7195, .int (zI (s7 28 ((10 * (((a / 10) + (d / 3)) - 1)) + (((a % 10) + (d % 3)) - 1)).toNat))], [r0, r1, r2, r3, r4, r5, r6, zH s7 zL7 0, r8, r9])) rfl ?_
          obtain ⟨g33, H⟩ := zgd H
          refine zB.bald oX12_shortest (g := 7) (p := 27) (N := 100) (i := a) rfl rfl (by decide) rfl rfl (by decide) g33 ?_
          obtain ⟨g32, H⟩ := zgd H
          have H := zif H
          refine xB.brE oX12_shortest (P := (s7 27 a.toNat) = 0) rfl (zc_eq (a := s7 27 a.toNat) (b := 0) ⟨g32, by decide⟩) (fun h23 => ?_) (fun h23 => ?_)
          · have H := H.1 h23
            refine xB.run oX12_shortest 1 (s := (150, [some (.ref 7168), some (.int (zI more)), some (.int (zI a)), some (.int (zI d)), some (.int (zI (((a / 10) + (d / 3)) - 1))), some (.int (zI (((a % 10) + (d % 3)) - 1))), none], [.int (zI 1), .int (zI (s7 28 ((10 * (((a / 10) + (d / 3)) - 1)) + (((a % 10) + (d % 3)) - 1)).toNat))], [r0, r1, r2, r3, r4, r5, r6, zH s7 zL7 0, r8, r9])) rfl ?_
            refine zB.opi oX12_shortest rfl (zi_add (s7 28 ((10 * (((a / 10) + (d / 3)) - 1)) + (((a % 10) + (d % 3)) - 1)).toNat) 1) ?_
            refine xB.run oX12_shortest 5 (s := (160, [some (.ref 7168), some (.int (zI more)), some (.int (zI a)), some (.int (zI d)), some (.int (zI (((a / 10) + (d / 3)) - 1))), some (.int (zI (((a % 10) + (d % 3)) - 1))), some (.int (zI ((s7 28 ((10 * (((a / 10) + (d / 3)) - 1)) + (((a % 10) + (d % 3)) - 1)).toNat) + 1)))], [.int (zI a), .ref 7196, .int (zI ((s7 28 ((10 * (((a / 10) + (d / 3)) - 1)) + (((a % 10) + (d % 3)) - 1)).toNat) + 1))], [r0, r1, r2, r3, r4, r5, r6, zH s7 zL7 0, r8, r9])) rfl ?_
            obtain ⟨g27, H⟩ := zgd H
            refine zB.iald oX12_shortest (g := 7) (p := 28) (N := 100) (i := a) rfl rfl (by decide) rfl rfl (by decide) g27 ?_
            obtain ⟨g26, H⟩ := zgd H
            have H := zif H
            refine xB.brE oX12_shortest (P := (s7 28 a.toNat) ≤ ((s7 28 ((10 * (((a / 10) + (d / 3)) - 1)) + (((a % 10) + (d % 3)) - 1)).toNat) + 1)) rfl (zc_ge (a := (s7 28 ((10 * (((a / 10) + (d / 3)) - 1)) + (((a % 10) + (d % 3)) - 1)).toNat) + 1) (b := s7 28 a.toNat) g26) (fun h24 => ?_) (fun h24 => ?_)
            · have H := H.1 h24
              refine zB.inc oX12_shortest rfl (lv2 := [some (.ref 7168), some (.int (zI more)), some (.int (zI a)), some (.int (zI (d + 1))), some (.int (zI (((a / 10) + (d / 3)) - 1))), some (.int (zI (((a % 10) + (d % 3)) - 1))), some (.int (zI ((s7 28 ((10 * (((a / 10) + (d / 3)) - 1)) + (((a % 10) + (d % 3)) - 1)).toNat) + 1)))]) (zi_inc (a := 0) (zi_addp1 d) _ rfl) ?_
              refine xB.run oX12_shortest 1 (s := (64, [some (.ref 7168), some (.int (zI more)), some (.int (zI a)), some (.int (zI (d + 1))), some (.int (zI (((a / 10) + (d / 3)) - 1))), some (.int (zI (((a % 10) + (d % 3)) - 1))), some (.int (zI ((s7 28 ((10 * (((a / 10) + (d / 3)) - 1)) + (((a % 10) + (d % 3)) - 1)).toNat) + 1)))], [], [r0, r1, r2, r3, r4, r5, r6, zH s7 zL7 0, r8, r9])) rfl ?_
              refine xB.forget (lv1 := [some (.ref 7168), some (.int (zI more)), some (.int (zI a)), some (.int (zI (d + 1))), none, none, none]) (xle_same (xle_same (xle_same (xle_same (xle_none (xle_none (xle_none (xle_nil)))))))) ?_
              exact ih more (d + 1) s7 H K
            · have H := H.2 h24
              refine xB.run oX12_shortest 4 (s := (171, [some (.ref 7168), some (.int (zI more)), some (.int (zI a)), some (.int (zI d)), some (.int (zI (((a / 10) + (d / 3)) - 1))), some (.int (zI (((a % 10) + (d % 3)) - 1))), some (.int (zI ((s7 28 ((10 * (((a / 10) + (d / 3)) - 1)) + (((a % 10) + (d % 3)) - 1)).toNat) + 1)))], [.int (zI ((s7 28 ((10 * (((a / 10) + (d / 3)) - 1)) + (((a % 10) + (d % 3)) - 1)).toNat) + 1)), .int (zI a), .ref 7196], [r0, r1, r2, r3, r4, r5, r6, zH s7 zL7 0, r8, r9])) rfl ?_
              obtain ⟨g25, H⟩ := zgd H
              refine zB.iast oX12_shortest (g := 7) (p := 28) (N := 100) (i := a) (hp1 := [r0, r1, r2, r3, r4, r5, r6, zH (upz s7 28 a.toNat ((s7 28 ((10 * (((a / 10) + (d / 3)) - 1)) + (((a % 10) + (d % 3)) - 1)).toNat) + 1)) zL7 0, r8, r9]) rfl rfl (by decide) (by decide) rfl rfl (by decide) g25 rfl ?_
              refine xB.run oX12_shortest 2 (s := (174, [some (.ref 7168), some (.int (zI 1)), some (.int (zI a)), some (.int (zI d)), some (.int (zI (((a / 10) + (d / 3)) - 1))), some (.int (zI (((a % 10) + (d % 3)) - 1))), some (.int (zI ((s7 28 ((10 * (((a / 10) + (d / 3)) - 1)) + (((a % 10) + (d % 3)) - 1)).toNat) + 1)))], [], [r0, r1, r2, r3, r4, r5, r6, zH (upz s7 28 a.toNat ((s7 28 ((10 * (((a / 10) + (d / 3)) - 1)) + (((a % 10) + (d % 3)) - 1)).toNat) + 1)) zL7 0, r8, r9])) rfl ?_
              refine zB.inc oX12_shortest rfl (lv2 := [some (.ref 7168), some (.int (zI 1)), some (.int (zI a)), some (.int (zI (d + 1))), some (.int (zI (((a / 10) + (d / 3)) - 1))), some (.int (zI (((a % 10) + (d % 3)) - 1))), some (.int (zI ((s7 28 ((10 * (((a / 10) + (d / 3)) - 1)) + (((a % 10) + (d % 3)) - 1)).toNat) + 1)))]) (zi_inc (a := 0) (zi_addp1 d) _ rfl) ?_
              refine xB.run oX12_shortest 1 (s := (64, [some (.ref 7168), some (.int (zI 1)), some (.int (zI a)), some (.int (zI (d + 1))), some (.int (zI (((a / 10) + (d / 3)) - 1))), some (.int (zI (((a % 10) + (d % 3)) - 1))), some (.int (zI ((s7 28 ((10 * (((a / 10) + (d / 3)) - 1)) + (((a % 10) + (d % 3)) - 1)).toNat) + 1)))], [], [r0, r1, r2, r3, r4, r5, r6, zH (upz s7 28 a.toNat ((s7 28 ((10 * (((a / 10) + (d / 3)) - 1)) + (((a % 10) + (d % 3)) - 1)).toNat) + 1)) zL7 0, r8, r9])) rfl ?_
              refine xB.forget (lv1 := [some (.ref 7168), some (.int (zI 1)), some (.int (zI a)), some (.int (zI (d + 1))), none, none, none]) (xle_same (xle_same (xle_same (xle_same (xle_none (xle_none (xle_none (xle_nil)))))))) ?_
              exact ih 1 (d + 1) (upz s7 28 a.toNat ((s7 28 ((10 * (((a / 10) + (d / 3)) - 1)) + (((a % 10) + (d % 3)) - 1)).toNat) + 1)) H K
          · have H := H.2 h23
            refine xB.run oX12_shortest 2 (s := (150, [some (.ref 7168), some (.int (zI more)), some (.int (zI a)), some (.int (zI d)), some (.int (zI (((a / 10) + (d / 3)) - 1))), some (.int (zI (((a % 10) + (d % 3)) - 1))), none], [.int (zI 0), .int (zI (s7 28 ((10 * (((a / 10) + (d / 3)) - 1)) + (((a % 10) + (d % 3)) - 1)).toNat))], [r0, r1, r2, r3, r4, r5, r6, zH s7 zL7 0, r8, r9])) rfl ?_
            refine zB.opi oX12_shortest rfl (zi_add (s7 28 ((10 * (((a / 10) + (d / 3)) - 1)) + (((a % 10) + (d % 3)) - 1)).toNat) 0) ?_
            refine xB.run oX12_shortest 5 (s := (160, [some (.ref 7168), some (.int (zI more)), some (.int (zI a)), some (.int (zI d)), some (.int (zI (((a / 10) + (d / 3)) - 1))), some (.int (zI (((a % 10) + (d % 3)) - 1))), some (.int (zI ((s7 28 ((10 * (((a / 10) + (d / 3)) - 1)) + (((a % 10) + (d % 3)) - 1)).toNat) + 0)))], [.int (zI a), .ref 7196, .int (zI ((s7 28 ((10 * (((a / 10) + (d / 3)) - 1)) + (((a % 10) + (d % 3)) - 1)).toNat) + 0))], [r0, r1, r2, r3, r4, r5, r6, zH s7 zL7 0, r8, r9])) rfl ?_
            obtain ⟨g31, H⟩ := zgd H
            refine zB.iald oX12_shortest (g := 7) (p := 28) (N := 100) (i := a) rfl rfl (by decide) rfl rfl (by decide) g31 ?_
            obtain ⟨g30, H⟩ := zgd H
            have H := zif H
            refine xB.brE oX12_shortest (P := (s7 28 a.toNat) ≤ ((s7 28 ((10 * (((a / 10) + (d / 3)) - 1)) + (((a % 10) + (d % 3)) - 1)).toNat) + 0)) rfl (zc_ge (a := (s7 28 ((10 * (((a / 10) + (d / 3)) - 1)) + (((a % 10) + (d % 3)) - 1)).toNat) + 0) (b := s7 28 a.toNat) g30) (fun h28 => ?_) (fun h28 => ?_)
            · have H := H.1 h28
              refine zB.inc oX12_shortest rfl (lv2 := [some (.ref 7168), some (.int (zI more)), some (.int (zI a)), some (.int (zI (d + 1))), some (.int (zI (((a / 10) + (d / 3)) - 1))), some (.int (zI (((a % 10) + (d % 3)) - 1))), some (.int (zI ((s7 28 ((10 * (((a / 10) + (d / 3)) - 1)) + (((a % 10) + (d % 3)) - 1)).toNat) + 0)))]) (zi_inc (a := 0) (zi_addp1 d) _ rfl) ?_
              refine xB.run oX12_shortest 1 (s := (64, [some (.ref 7168), some (.int (zI more)), some (.int (zI a)), some (.int (zI (d + 1))), some (.int (zI (((a / 10) + (d / 3)) - 1))), some (.int (zI (((a % 10) + (d % 3)) - 1))), some (.int (zI ((s7 28 ((10 * (((a / 10) + (d / 3)) - 1)) + (((a % 10) + (d % 3)) - 1)).toNat) + 0)))], [], [r0, r1, r2, r3, r4, r5, r6, zH s7 zL7 0, r8, r9])) rfl ?_
              refine xB.forget (lv1 := [some (.ref 7168), some (.int (zI more)), some (.int (zI a)), some (.int (zI (d + 1))), none, none, none]) (xle_same (xle_same (xle_same (xle_same (xle_none (xle_none (xle_none (xle_nil)))))))) ?_
              exact ih more (d + 1) s7 H K
            · have H := H.2 h28
              refine xB.run oX12_shortest 4 (s := (171, [some (.ref 7168), some (.int (zI more)), some (.int (zI a)), some (.int (zI d)), some (.int (zI (((a / 10) + (d / 3)) - 1))), some (.int (zI (((a % 10) + (d % 3)) - 1))), some (.int (zI ((s7 28 ((10 * (((a / 10) + (d / 3)) - 1)) + (((a % 10) + (d % 3)) - 1)).toNat) + 0)))], [.int (zI ((s7 28 ((10 * (((a / 10) + (d / 3)) - 1)) + (((a % 10) + (d % 3)) - 1)).toNat) + 0)), .int (zI a), .ref 7196], [r0, r1, r2, r3, r4, r5, r6, zH s7 zL7 0, r8, r9])) rfl ?_
              obtain ⟨g29, H⟩ := zgd H
              refine zB.iast oX12_shortest (g := 7) (p := 28) (N := 100) (i := a) (hp1 := [r0, r1, r2, r3, r4, r5, r6, zH (upz s7 28 a.toNat ((s7 28 ((10 * (((a / 10) + (d / 3)) - 1)) + (((a % 10) + (d % 3)) - 1)).toNat) + 0)) zL7 0, r8, r9]) rfl rfl (by decide) (by decide) rfl rfl (by decide) g29 rfl ?_
              refine xB.run oX12_shortest 2 (s := (174, [some (.ref 7168), some (.int (zI 1)), some (.int (zI a)), some (.int (zI d)), some (.int (zI (((a / 10) + (d / 3)) - 1))), some (.int (zI (((a % 10) + (d % 3)) - 1))), some (.int (zI ((s7 28 ((10 * (((a / 10) + (d / 3)) - 1)) + (((a % 10) + (d % 3)) - 1)).toNat) + 0)))], [], [r0, r1, r2, r3, r4, r5, r6, zH (upz s7 28 a.toNat ((s7 28 ((10 * (((a / 10) + (d / 3)) - 1)) + (((a % 10) + (d % 3)) - 1)).toNat) + 0)) zL7 0, r8, r9])) rfl ?_
              refine zB.inc oX12_shortest rfl (lv2 := [some (.ref 7168), some (.int (zI 1)), some (.int (zI a)), some (.int (zI (d + 1))), some (.int (zI (((a / 10) + (d / 3)) - 1))), some (.int (zI (((a % 10) + (d % 3)) - 1))), some (.int (zI ((s7 28 ((10 * (((a / 10) + (d / 3)) - 1)) + (((a % 10) + (d % 3)) - 1)).toNat) + 0)))]) (zi_inc (a := 0) (zi_addp1 d) _ rfl) ?_
              refine xB.run oX12_shortest 1 (s := (64, [some (.ref 7168), some (.int (zI 1)), some (.int (zI a)), some (.int (zI (d + 1))), some (.int (zI (((a / 10) + (d / 3)) - 1))), some (.int (zI (((a % 10) + (d % 3)) - 1))), some (.int (zI ((s7 28 ((10 * (((a / 10) + (d / 3)) - 1)) + (((a % 10) + (d % 3)) - 1)).toNat) + 0)))], [], [r0, r1, r2, r3, r4, r5, r6, zH (upz s7 28 a.toNat ((s7 28 ((10 * (((a / 10) + (d / 3)) - 1)) + (((a % 10) + (d % 3)) - 1)).toNat) + 0)) zL7 0, r8, r9])) rfl ?_
              refine xB.forget (lv1 := [some (.ref 7168), some (.int (zI 1)), some (.int (zI a)), some (.int (zI (d + 1))), none, none, none]) (xle_same (xle_same (xle_same (xle_same (xle_none (xle_none (xle_none (xle_nil)))))))) ?_
              exact ih 1 (d + 1) (upz s7 28 a.toNat ((s7 28 ((10 * (((a / 10) + (d / 3)) - 1)) + (((a % 10) + (d % 3)) - 1)).toNat) + 0)) H K
        · have H := H.2 h22
          refine xB.run oX12_shortest 1 (s := (174, [some (.ref 7168), some (.int (zI more)), some (.int (zI a)), some (.int (zI d)), some (.int (zI (((a / 10) + (d / 3)) - 1))), some (.int (zI (((a % 10) + (d % 3)) - 1))), none], [], [r0, r1, r2, r3, r4, r5, r6, zH s7 zL7 0, r8, r9])) rfl ?_
          refine zB.inc oX12_shortest rfl (lv2 := [some (.ref 7168), some (.int (zI more)), some (.int (zI a)), some (.int (zI (d + 1))), some (.int (zI (((a / 10) + (d / 3)) - 1))), some (.int (zI (((a % 10) + (d % 3)) - 1))), none]) (zi_inc (a := 0) (zi_addp1 d) _ rfl) ?_
          refine xB.run oX12_shortest 1 (s := (64, [some (.ref 7168), some (.int (zI more)), some (.int (zI a)), some (.int (zI (d + 1))), some (.int (zI (((a / 10) + (d / 3)) - 1))), some (.int (zI (((a % 10) + (d % 3)) - 1))), none], [], [r0, r1, r2, r3, r4, r5, r6, zH s7 zL7 0, r8, r9])) rfl ?_
          refine xB.forget (lv1 := [some (.ref 7168), some (.int (zI more)), some (.int (zI a)), some (.int (zI (d + 1))), none, none, none]) (xle_same (xle_same (xle_same (xle_same (xle_none (xle_none (xle_same (xle_nil)))))))) ?_
          exact ih more (d + 1) s7 H K
set_option maxRecDepth 20000 in
theorem l_X12_shortest_56 (r0 : List va_E) (r1 : List va_E) (r2 : List va_E) (r3 : List va_E) (r4 : List va_E) (r5 : List va_E) (r6 : List va_E) (r8 : List va_E) (r9 : List va_E) {r : Option Value} {hp1 : xH} : ∀ (uN : Nat) (more : Int) (a : Int) (s7 : zZ) {uX : Int × Int × zZ}, d_X12_shortest_56 uN more a s7 = some uX → (xBody MX12_shortest 1 186 [some (.ref 7168), some (.int (zI uX.1)), some (.int (zI uX.2.1)), none, none, none, none] [] ([r0, r1, r2, r3, r4, r5, r6, zH uX.2.2 zL7 0, r8, r9]) r hp1) → xBody MX12_shortest 1 56 [some (.ref 7168), some (.int (zI more)), some (.int (zI a)), none, none, none, none] [] ([r0, r1, r2, r3, r4, r5, r6, zH s7 zL7 0, r8, r9]) r hp1 := by
  intro uN
  induction uN with
  | zero => intro more a s7 uX H K; cases H
  | succ uN ih =>
    intro more a s7 uX H K
    unfold d_X12_shortest_56 at H
    refine xB.run oX12_shortest 2 (s := (59, [some (.ref 7168), some (.int (zI more)), some (.int (zI a)), none, none, none, none], [.int (zI 100), .int (zI a)], [r0, r1, r2, r3, r4, r5, r6, zH s7 zL7 0, r8, r9])) rfl ?_
    obtain ⟨g46, H⟩ := zgd H
    have H := zif H
    refine xB.brE oX12_shortest (P := (100 : Int) ≤ a) rfl (zc_ge (a := a) (b := 100) ⟨g46, by decide⟩) (fun h15 => ?_) (fun h15 => ?_)
    · have H := H.1 h15
      obtain rfl := Option.some.inj H
      exact K
    · have H := H.2 h15
      refine xB.run oX12_shortest 2 (s := (64, [some (.ref 7168), some (.int (zI more)), some (.int (zI a)), some (.int (zI 0)), none, none, none], [], [r0, r1, r2, r3, r4, r5, r6, zH s7 zL7 0, r8, r9])) rfl ?_
      obtain ⟨y44, e45, H⟩ := zbd H
      refine l_X12_shortest_64 r0 r1 r2 r3 r4 r5 r6 r8 r9 a _ more 0 s7 e45 ?_
      refine zB.inc oX12_shortest rfl (lv2 := [some (.ref 7168), some (.int (zI y44.1)), some (.int (zI (a + 1))), some (.int (zI y44.2.1)), none, none, none]) (zi_inc (a := 0) (zi_addp1 a) _ rfl) ?_
      refine xB.run oX12_shortest 1 (s := (56, [some (.ref 7168), some (.int (zI y44.1)), some (.int (zI (a + 1))), some (.int (zI y44.2.1)), none, none, none], [], [r0, r1, r2, r3, r4, r5, r6, zH y44.2.2 zL7 0, r8, r9])) rfl ?_
      refine xB.forget (lv1 := [some (.ref 7168), some (.int (zI y44.1)), some (.int (zI (a + 1))), none, none, none, none]) (xle_same (xle_same (xle_same (xle_none (xle_same (xle_same (xle_same (xle_nil)))))))) ?_
      exact ih y44.1 (a + 1) y44.2.2 H K
set_option maxRecDepth 20000 in
theorem l_X12_shortest_48 (r0 : List va_E) (r1 : List va_E) (r2 : List va_E) (r3 : List va_E) (r4 : List va_E) (r5 : List va_E) (r6 : List va_E) (r8 : List va_E) (r9 : List va_E) {r : Option Value} {hp1 : xH} : ∀ (uN : Nat) (more : Int) (s7 : zZ) {uX : Int × zZ}, d_X12_shortest_48 uN more s7 = some uX → (xBody MX12_shortest 1 189 [some (.ref 7168), some (.int (zI uX.1)), none, none, none, none, none] [] ([r0, r1, r2, r3, r4, r5, r6, zH uX.2 zL7 0, r8, r9]) r hp1) → xBody MX12_shortest 1 48 [some (.ref 7168), some (.int (zI more)), none, none, none, none, none] [] ([r0, r1, r2, r3, r4, r5, r6, zH s7 zL7 0, r8, r9]) r hp1 := by
  intro uN
  induction uN with
  | zero => intro more s7 uX H K; cases H
  | succ uN ih =>
    intro more s7 uX H K
    unfold d_X12_shortest_48 at H
    refine xB.run oX12_shortest 1 (s := (49, [some (.ref 7168), some (.int (zI more)), none, none, none, none, none], [.int (zI more)], [r0, r1, r2, r3, r4, r5, r6, zH s7 zL7 0, r8, r9])) rfl ?_
    obtain ⟨g49, H⟩ := zgd H
    have H := zif H
    refine xB.brE oX12_shortest (P := more = 0) rfl (zc_eq (a := more) (b := 0) ⟨g49, by decide⟩) (fun h14 => ?_) (fun h14 => ?_)
    · have H := H.1 h14
      obtain rfl := Option.some.inj H
      exact K
    · have H := H.2 h14
      refine xB.run oX12_shortest 4 (s := (56, [some (.ref 7168), some (.int (zI 0)), some (.int (zI 0)), none, none, none, none], [], [r0, r1, r2, r3, r4, r5, r6, zH s7 zL7 0, r8, r9])) rfl ?_
      obtain ⟨y47, e48, H⟩ := zbd H
      refine l_X12_shortest_56 r0 r1 r2 r3 r4 r5 r6 r8 r9  _ 0 0 s7 e48 ?_
      refine xB.run oX12_shortest 1 (s := (48, [some (.ref 7168), some (.int (zI y47.1)), some (.int (zI y47.2.1)), none, none, none, none], [], [r0, r1, r2, r3, r4, r5, r6, zH y47.2.2 zL7 0, r8, r9])) rfl ?_
      refine xB.forget (lv1 := [some (.ref 7168), some (.int (zI y47.1)), none, none, none, none, none]) (xle_same (xle_same (xle_none (xle_same (xle_same (xle_same (xle_same (xle_nil)))))))) ?_
      exact ih y47.1 y47.2.2 H K
set_option maxRecDepth 20000 in
theorem l_X12_shortest_194 (r0 : List va_E) (r1 : List va_E) (r2 : List va_E) (r3 : List va_E) (r4 : List va_E) (r5 : List va_E) (r6 : List va_E) (s7 : zZ) (r8 : List va_E) (r9 : List va_E) (more : Int) {r : Option Value} {hp1 : xH} : ∀ (uN : Nat) (a : Int) (d : Int) {uX : Int × Int}, d_X12_shortest_194 s7 more uN a d = some uX → (xBody MX12_shortest 1 243 [some (.ref 7168), some (.int (zI more)), some (.int (zI uX.1)), some (.int (zI uX.2)), none, none, none] [] ([r0, r1, r2, r3, r4, r5, r6, zH s7 zL7 0, r8, r9]) r hp1) → xBody MX12_shortest 1 194 [some (.ref 7168), some (.int (zI more)), some (.int (zI a)), some (.int (zI d)), none, none, none] [] ([r0, r1, r2, r3, r4, r5, r6, zH s7 zL7 0, r8, r9]) r hp1 := by
  intro uN
  induction uN with
  | zero => intro a d uX H K; cases H
  | succ uN ih =>
    intro a d uX H K
    unfold d_X12_shortest_194 at H
    refine xB.run oX12_shortest 2 (s := (197, [some (.ref 7168), some (.int (zI more)), some (.int (zI a)), some (.int (zI d)), none, none, none], [.int (zI 10), .int (zI d)], [r0, r1, r2, r3, r4, r5, r6, zH s7 zL7 0, r8, r9])) rfl ?_
    obtain ⟨g57, H⟩ := zgd H
    have H := zif H
    refine xB.brE oX12_shortest (P := (10 : Int) ≤ d) rfl (zc_ge (a := d) (b := 10) ⟨g57, by decide⟩) (fun h52 => ?_) (fun h52 => ?_)
    · have H := H.1 h52
      obtain rfl := Option.some.inj H
      exact K
    · have H := H.2 h52
      refine xB.run oX12_shortest 4 (s := (207, [some (.ref 7168), some (.int (zI more)), some (.int (zI a)), some (.int (zI d)), none, none, none], [.int (zI d), .int (zI 10), .ref 7196], [r0, r1, r2, r3, r4, r5, r6, zH s7 zL7 0, r8, r9])) rfl ?_
      refine zB.opi oX12_shortest rfl (zi_mul 10 d) ?_
      refine xB.run oX12_shortest 1 (s := (210, [some (.ref 7168), some (.int (zI more)), some (.int (zI a)), some (.int (zI d)), none, none, none], [.int (zI 10), .int (zI (10 * d)), .ref 7196], [r0, r1, r2, r3, r4, r5, r6, zH s7 zL7 0, r8, r9])) rfl ?_
      refine zB.opi oX12_shortest rfl (zi_add (10 * d) 10) ?_
      refine xB.run oX12_shortest 1 (s := (212, [some (.ref 7168), some (.int (zI more)), some (.int (zI a)), some (.int (zI d)), none, none, none], [.int (zI 1), .int (zI ((10 * d) + 10)), .ref 7196], [r0, r1, r2, r3, r4, r5, r6, zH s7 zL7 0, r8, r9])) rfl ?_
      refine zB.opi oX12_shortest rfl (zi_sub ((10 * d) + 10) 1) ?_
      obtain ⟨g56, H⟩ := zgd H
      refine zB.iald oX12_shortest (g := 7) (p := 28) (N := 100) (i := ((10 * d) + 10) - 1) rfl rfl (by decide) rfl rfl (by decide) g56 ?_
      refine xB.run oX12_shortest 1 (s := (215, [some (.ref 7168), some (.int (zI more)), some (.int (zI a)), some (.int (zI d)), none, none, none], [.int (zI a), .int (zI (s7 28 (((10 * d) + 10) - 1).toNat))], [r0, r1, r2, r3, r4, r5, r6, zH s7 zL7 0, r8, r9])) rfl ?_
      obtain ⟨g55, H⟩ := zgd H
      have H := zif H
      refine xB.brE oX12_shortest (P := a ≤ (s7 28 (((10 * d) + 10) - 1).toNat)) rfl (zc_ge (a := s7 28 (((10 * d) + 10) - 1).toNat) (b := a) g55) (fun h53 => ?_) (fun h53 => ?_)
      · have H := H.1 h53
        refine xB.run oX12_shortest 2 (s := (237, [some (.ref 7168), some (.int (zI more)), some (.int (zI a)), some (.int (zI d)), none, none, none], [], [r0, r1, r2, r3, r4, r5, r6, zH s7 zL7 0, r8, r9])) rfl ?_
        refine zB.inc oX12_shortest rfl (lv2 := [some (.ref 7168), some (.int (zI more)), some (.int (zI a)), some (.int (zI (d + 1))), none, none, none]) (zi_inc (a := 0) (zi_addp1 d) _ rfl) ?_
        refine xB.run oX12_shortest 1 (s := (194, [some (.ref 7168), some (.int (zI more)), some (.int (zI a)), some (.int (zI (d + 1))), none, none, none], [], [r0, r1, r2, r3, r4, r5, r6, zH s7 zL7 0, r8, r9])) rfl ?_
        exact ih a (d + 1) H K
      · have H := H.2 h53
        refine xB.run oX12_shortest 4 (s := (225, [some (.ref 7168), some (.int (zI more)), some (.int (zI a)), some (.int (zI d)), none, none, none], [.int (zI d), .int (zI 10), .ref 7196], [r0, r1, r2, r3, r4, r5, r6, zH s7 zL7 0, r8, r9])) rfl ?_
        refine zB.opi oX12_shortest rfl (zi_mul 10 d) ?_
        refine xB.run oX12_shortest 1 (s := (228, [some (.ref 7168), some (.int (zI more)), some (.int (zI a)), some (.int (zI d)), none, none, none], [.int (zI 10), .int (zI (10 * d)), .ref 7196], [r0, r1, r2, r3, r4, r5, r6, zH s7 zL7 0, r8, r9])) rfl ?_
        refine zB.opi oX12_shortest rfl (zi_add (10 * d) 10) ?_
        refine xB.run oX12_shortest 1 (s := (230, [some (.ref 7168), some (.int (zI more)), some (.int (zI a)), some (.int (zI d)), none, none, none], [.int (zI 1), .int (zI ((10 * d) + 10)), .ref 7196], [r0, r1, r2, r3, r4, r5, r6, zH s7 zL7 0, r8, r9])) rfl ?_
        refine zB.opi oX12_shortest rfl (zi_sub ((10 * d) + 10) 1) ?_
        obtain ⟨g54, H⟩ := zgd H
        refine zB.iald oX12_shortest (g := 7) (p := 28) (N := 100) (i := ((10 * d) + 10) - 1) rfl rfl (by decide) rfl rfl (by decide) g54 ?_
        refine xB.run oX12_shortest 2 (s := (237, [some (.ref 7168), some (.int (zI more)), some (.int (zI (s7 28 (((10 * d) + 10) - 1).toNat))), some (.int (zI d)), none, none, none], [], [r0, r1, r2, r3, r4, r5, r6, zH s7 zL7 0, r8, r9])) rfl ?_
        refine zB.inc oX12_shortest rfl (lv2 := [some (.ref 7168), some (.int (zI more)), some (.int (zI (s7 28 (((10 * d) + 10) - 1).toNat))), some (.int (zI (d + 1))), none, none, none]) (zi_inc (a := 0) (zi_addp1 d) _ rfl) ?_
        refine xB.run oX12_shortest 1 (s := (194, [some (.ref 7168), some (.int (zI more)), some (.int (zI (s7 28 (((10 * d) + 10) - 1).toNat))), some (.int (zI (d + 1))), none, none, none], [], [r0, r1, r2, r3, r4, r5, r6, zH s7 zL7 0, r8, r9])) rfl ?_
        exact ih (s7 28 (((10 * d) + 10) - 1).toNat) (d + 1) H K
set_option maxRecDepth 20000 in
theorem t_X12_shortest (r0 : List va_E) (r1 : List va_E) (r2 : List va_E) (r3 : List va_E) (r4 : List va_E) (r5 : List va_E) (r6 : List va_E) (s7 : zZ) (r8 : List va_E) (r9 : List va_E) {rr : Int × zZ} (H : d_X12_shortest s7 = some rr) : xC MX12_shortest 1 [.ref 7168] ([r0, r1, r2, r3, r4, r5, r6, zH s7 zL7 0, r8, r9]) (some (.int (zI rr.1))) ([r0, r1, r2, r3, r4, r5, r6, zH rr.2 zL7 0, r8, r9]) := by
  refine ⟨Nat.le_of_ble_eq_true rfl, ?_⟩
  show xBody MX12_shortest 1 0 [some (.ref 7168), none, none, none, none, none, none] [] ([r0, r1, r2, r3, r4, r5, r6, zH s7 zL7 0, r8, r9]) _ _
  unfold d_X12_shortest at H
  refine xB.run oX12_shortest 2 (s := (2, [some (.ref 7168), some (.int (zI 0)), none, none, none, none, none], [], [r0, r1, r2, r3, r4, r5, r6, zH s7 zL7 0, r8, r9])) rfl ?_
  obtain ⟨y12, e13, H⟩ := zbd H
  refine l_X12_shortest_2 r0 r1 r2 r3 r4 r5 r6 r8 r9  _ 0 s7 e13 ?_
  refine xB.run oX12_shortest 2 (s := (48, [some (.ref 7168), some (.int (zI 1)), none, none, none, none, none], [], [r0, r1, r2, r3, r4, r5, r6, zH y12.2 zL7 0, r8, r9])) rfl ?_
  obtain ⟨y50, e51, H⟩ := zbd H
  refine l_X12_shortest_48 r0 r1 r2 r3 r4 r5 r6 r8 r9  _ 1 y12.2 e51 ?_
  refine xB.run oX12_shortest 4 (s := (194, [some (.ref 7168), some (.int (zI y50.1)), some (.int (zI 1000000)), some (.int (zI 0)), none, none, none], [], [r0, r1, r2, r3, r4, r5, r6, zH y50.2 zL7 0, r8, r9])) rfl ?_
  obtain ⟨y58, e59, H⟩ := zbd H
  refine l_X12_shortest_194 r0 r1 r2 r3 r4 r5 r6 y50.2 r8 r9 y50.1 _ 1000000 0 e59 ?_
  refine xB.run oX12_shortest 1 (s := (244, [some (.ref 7168), some (.int (zI y50.1)), some (.int (zI y58.1)), some (.int (zI y58.2)), none, none, none], [.int (zI y58.1)], [r0, r1, r2, r3, r4, r5, r6, zH y50.2 zL7 0, r8, r9])) rfl ?_
  obtain rfl := Option.some.inj H
  exact xB.ret oX12_shortest (r1 := some (.int (zI y58.1))) rfl rfl rfl
def d_X12_pieces_4 (s7 : zZ) : Nat → Int → Int → Option (Int × Int)
  | 0, _, _ => none
  | uN + 1, cn, a => if (zr a) then (if (100 : Int) ≤ a then some (cn, a) else (if (0 ≤ a ∧ a < 100) then (if (zr (s7 27 a.toNat)) then (if (s7 27 a.toNat) = 0 then (d_X12_pieces_4 s7 uN (cn + 1) (a + 1)) else (d_X12_pieces_4 s7 uN (cn + 0) (a + 1))) else none) else none)) else none
def d_X12_pieces (s7 : zZ) : Option (Int) := (d_X12_pieces_4 s7 zF 0 0).bind fun y6 => some y6.1
set_option maxRecDepth 20000 in
theorem l_X12_pieces_4 (r0 : List va_E) (r1 : List va_E) (r2 : List va_E) (r3 : List va_E) (r4 : List va_E) (r5 : List va_E) (r6 : List va_E) (s7 : zZ) (r8 : List va_E) (r9 : List va_E) {r : Option Value} {hp1 : xH} : ∀ (uN : Nat) (cn : Int) (a : Int) {uX : Int × Int}, d_X12_pieces_4 s7 uN cn a = some uX → (xBody MX12_pieces 0 33 [some (.ref 7168), some (.int (zI uX.1)), some (.int (zI uX.2))] [] ([r0, r1, r2, r3, r4, r5, r6, zH s7 zL7 0, r8, r9]) r hp1) → xBody MX12_pieces 0 4 [some (.ref 7168), some (.int (zI cn)), some (.int (zI a))] [] ([r0, r1, r2, r3, r4, r5, r6, zH s7 zL7 0, r8, r9]) r hp1 := by
  intro uN
  induction uN with
  | zero => intro cn a uX H K; cases H
  | succ uN ih =>
    intro cn a uX H K
    unfold d_X12_pieces_4 at H
    refine xB.run oX12_pieces 2 (s := (7, [some (.ref 7168), some (.int (zI cn)), some (.int (zI a))], [.int (zI 100), .int (zI a)], [r0, r1, r2, r3, r4, r5, r6, zH s7 zL7 0, r8, r9])) rfl ?_
    obtain ⟨g5, H⟩ := zgd H
    have H := zif H
    refine xB.brE oX12_pieces (P := (100 : Int) ≤ a) rfl (zc_ge (a := a) (b := 100) ⟨g5, by decide⟩) (fun h1 => ?_) (fun h1 => ?_)
    · have H := H.1 h1
      obtain rfl := Option.some.inj H
      exact K
    · have H := H.2 h1
      refine xB.run oX12_pieces 4 (s := (16, [some (.ref 7168), some (.int (zI cn)), some (.int (zI a))], [.int (zI a), .ref 7195, .int (zI cn)], [r0, r1, r2, r3, r4, r5, r6, zH s7 zL7 0, r8, r9])) rfl ?_
      obtain ⟨g4, H⟩ := zgd H
      refine zB.bald oX12_pieces (g := 7) (p := 27) (N := 100) (i := a) rfl rfl (by decide) rfl rfl (by decide) g4 ?_
      obtain ⟨g3, H⟩ := zgd H
      have H := zif H
      refine xB.brE oX12_pieces (P := (s7 27 a.toNat) = 0) rfl (zc_eq (a := s7 27 a.toNat) (b := 0) ⟨g3, by decide⟩) (fun h2 => ?_) (fun h2 => ?_)
      · have H := H.1 h2
        refine xB.run oX12_pieces 1 (s := (25, [some (.ref 7168), some (.int (zI cn)), some (.int (zI a))], [.int (zI 1), .int (zI cn)], [r0, r1, r2, r3, r4, r5, r6, zH s7 zL7 0, r8, r9])) rfl ?_
        refine zB.opi oX12_pieces rfl (zi_add cn 1) ?_
        refine xB.run oX12_pieces 1 (s := (27, [some (.ref 7168), some (.int (zI (cn + 1))), some (.int (zI a))], [], [r0, r1, r2, r3, r4, r5, r6, zH s7 zL7 0, r8, r9])) rfl ?_
        refine zB.inc oX12_pieces rfl (lv2 := [some (.ref 7168), some (.int (zI (cn + 1))), some (.int (zI (a + 1)))]) (zi_inc (a := 0) (zi_addp1 a) _ rfl) ?_
        refine xB.run oX12_pieces 1 (s := (4, [some (.ref 7168), some (.int (zI (cn + 1))), some (.int (zI (a + 1)))], [], [r0, r1, r2, r3, r4, r5, r6, zH s7 zL7 0, r8, r9])) rfl ?_
        exact ih (cn + 1) (a + 1) H K
      · have H := H.2 h2
        refine xB.run oX12_pieces 2 (s := (25, [some (.ref 7168), some (.int (zI cn)), some (.int (zI a))], [.int (zI 0), .int (zI cn)], [r0, r1, r2, r3, r4, r5, r6, zH s7 zL7 0, r8, r9])) rfl ?_
        refine zB.opi oX12_pieces rfl (zi_add cn 0) ?_
        refine xB.run oX12_pieces 1 (s := (27, [some (.ref 7168), some (.int (zI (cn + 0))), some (.int (zI a))], [], [r0, r1, r2, r3, r4, r5, r6, zH s7 zL7 0, r8, r9])) rfl ?_
        refine zB.inc oX12_pieces rfl (lv2 := [some (.ref 7168), some (.int (zI (cn + 0))), some (.int (zI (a + 1)))]) (zi_inc (a := 0) (zi_addp1 a) _ rfl) ?_
        refine xB.run oX12_pieces 1 (s := (4, [some (.ref 7168), some (.int (zI (cn + 0))), some (.int (zI (a + 1)))], [], [r0, r1, r2, r3, r4, r5, r6, zH s7 zL7 0, r8, r9])) rfl ?_
        exact ih (cn + 0) (a + 1) H K
set_option maxRecDepth 20000 in
theorem t_X12_pieces (r0 : List va_E) (r1 : List va_E) (r2 : List va_E) (r3 : List va_E) (r4 : List va_E) (r5 : List va_E) (r6 : List va_E) (s7 : zZ) (r8 : List va_E) (r9 : List va_E) {rr : Int} (H : d_X12_pieces s7 = some rr) : xC MX12_pieces 0 [.ref 7168] ([r0, r1, r2, r3, r4, r5, r6, zH s7 zL7 0, r8, r9]) (some (.int (zI rr))) ([r0, r1, r2, r3, r4, r5, r6, zH s7 zL7 0, r8, r9]) := by
  refine ⟨Nat.le_of_ble_eq_true rfl, ?_⟩
  show xBody MX12_pieces 0 0 [some (.ref 7168), none, none] [] ([r0, r1, r2, r3, r4, r5, r6, zH s7 zL7 0, r8, r9]) _ _
  unfold d_X12_pieces at H
  refine xB.run oX12_pieces 4 (s := (4, [some (.ref 7168), some (.int (zI 0)), some (.int (zI 0))], [], [r0, r1, r2, r3, r4, r5, r6, zH s7 zL7 0, r8, r9])) rfl ?_
  obtain ⟨y6, e7, H⟩ := zbd H
  refine l_X12_pieces_4 r0 r1 r2 r3 r4 r5 r6 s7 r8 r9  _ 0 0 e7 ?_
  refine xB.run oX12_pieces 1 (s := (34, [some (.ref 7168), some (.int (zI y6.1)), some (.int (zI y6.2))], [.int (zI y6.1)], [r0, r1, r2, r3, r4, r5, r6, zH s7 zL7 0, r8, r9])) rfl ?_
  obtain rfl := Option.some.inj H
  exact xB.ret oX12_pieces (r1 := some (.int (zI y6.1))) rfl rfl rfl
def d_X12_skin (s7 : zZ) (wh : Int) : Option (Int × zZ) := if zr wh then (if wh = 0 then ((d_X12_pieces s7).bind fun y3 => some (y3, s7)) else (if wh = 1 then ((d_X12_apart s7 0).bind fun y6 => some (y6.1, y6.2)) else (if wh = 2 then ((d_X12_apart s7 1).bind fun y9 => some (y9.1, y9.2)) else (if wh = 3 then ((d_X12_shortest s7).bind fun y12 => if (zr y12.1) then (if y12.1 ≠ 0 then some (0, y12.2) else some (1, y12.2)) else none) else (if wh = 4 then ((d_X12_shortest s7).bind fun y17 => some (y17.1, y17.2)) else some ((-2), s7)))))) else none
set_option maxRecDepth 20000 in
theorem t_X12_skin (r0 : List va_E) (r1 : List va_E) (r2 : List va_E) (r3 : List va_E) (r4 : List va_E) (r5 : List va_E) (r6 : List va_E) (s7 : zZ) (r8 : List va_E) (r9 : List va_E) (wh : Int) {rr : Int × zZ} (H : d_X12_skin s7 wh = some rr) : xC MX12_skin 5 [.ref 7168, .int (zI wh)] ([r0, r1, r2, r3, r4, r5, r6, zH s7 zL7 0, r8, r9]) (some (.int (zI rr.1))) ([r0, r1, r2, r3, r4, r5, r6, zH rr.2 zL7 0, r8, r9]) := by
  refine ⟨Nat.le_of_ble_eq_true rfl, ?_⟩
  show xBody MX12_skin 5 0 [some (.ref 7168), some (.int (zI wh))] [] ([r0, r1, r2, r3, r4, r5, r6, zH s7 zL7 0, r8, r9]) _ _
  unfold d_X12_skin at H
  refine xB.run oX12_skin 1 (s := (1, [some (.ref 7168), some (.int (zI wh))], [.int (zI wh)], [r0, r1, r2, r3, r4, r5, r6, zH s7 zL7 0, r8, r9])) rfl ?_
  obtain ⟨g1, H⟩ := zgd H
  have H := zif H
  by_cases h2 : wh = 0
  · have H := H.1 h2
    refine xB.next oX12_skin (s := (36, [some (.ref 7168), some (.int (zI wh))], [], [r0, r1, r2, r3, r4, r5, r6, zH s7 zL7 0, r8, r9])) (xsw_at rfl (by rw [zsw g1 0 _ (by decide), if_pos (show wh = ((0 : Nat) : Int) from h2)])) ?_
    refine xB.run oX12_skin 1 (s := (37, [some (.ref 7168), some (.int (zI wh))], [.ref 7168], [r0, r1, r2, r3, r4, r5, r6, zH s7 zL7 0, r8, r9])) rfl ?_
    obtain ⟨y3, e4, H⟩ := zbd H
    refine xB.call oX12_skin (M2 := MX12_pieces) rfl rfl ((t_X12_pieces r0 r1 r2 r3 r4 r5 r6 s7 r8 r9  e4).deep (by decide : 0 ≤ 4)) ?_
    show xBody MX12_skin 5 40 [some (.ref 7168), some (.int (zI wh))] [.int (zI y3)] ([r0, r1, r2, r3, r4, r5, r6, zH s7 zL7 0, r8, r9]) _ _
    obtain rfl := Option.some.inj H
    exact xB.ret oX12_skin (r1 := some (.int (zI y3))) rfl rfl rfl
  · have H := H.2 h2
    have H := zif H
    by_cases h5 : wh = 1
    · have H := H.1 h5
      refine xB.next oX12_skin (s := (41, [some (.ref 7168), some (.int (zI wh))], [], [r0, r1, r2, r3, r4, r5, r6, zH s7 zL7 0, r8, r9])) (xsw_at rfl (by rw [zsw g1 0 _ (by decide), if_neg (show ¬ wh = ((0 : Nat) : Int) from h2)]; rw [zsw g1 1 _ (by decide), if_pos (show wh = ((1 : Nat) : Int) from h5)])) ?_
      refine xB.run oX12_skin 2 (s := (43, [some (.ref 7168), some (.int (zI wh))], [.int (zI 0), .ref 7168], [r0, r1, r2, r3, r4, r5, r6, zH s7 zL7 0, r8, r9])) rfl ?_
      obtain ⟨y6, e7, H⟩ := zbd H
      refine xB.call oX12_skin (M2 := MX12_apart) rfl rfl ((t_X12_apart r0 r1 r2 r3 r4 r5 r6 s7 r8 r9 0 e7).deep (by decide : 4 ≤ 4)) ?_
      show xBody MX12_skin 5 46 [some (.ref 7168), some (.int (zI wh))] [.int (zI y6.1)] ([r0, r1, r2, r3, r4, r5, r6, zH y6.2 zL7 0, r8, r9]) _ _
      obtain rfl := Option.some.inj H
      exact xB.ret oX12_skin (r1 := some (.int (zI y6.1))) rfl rfl rfl
    · have H := H.2 h5
      have H := zif H
      by_cases h8 : wh = 2
      · have H := H.1 h8
        refine xB.next oX12_skin (s := (47, [some (.ref 7168), some (.int (zI wh))], [], [r0, r1, r2, r3, r4, r5, r6, zH s7 zL7 0, r8, r9])) (xsw_at rfl (by rw [zsw g1 0 _ (by decide), if_neg (show ¬ wh = ((0 : Nat) : Int) from h2)]; rw [zsw g1 1 _ (by decide), if_neg (show ¬ wh = ((1 : Nat) : Int) from h5)]; rw [zsw g1 2 _ (by decide), if_pos (show wh = ((2 : Nat) : Int) from h8)])) ?_
        refine xB.run oX12_skin 2 (s := (49, [some (.ref 7168), some (.int (zI wh))], [.int (zI 1), .ref 7168], [r0, r1, r2, r3, r4, r5, r6, zH s7 zL7 0, r8, r9])) rfl ?_
        obtain ⟨y9, e10, H⟩ := zbd H
        refine xB.call oX12_skin (M2 := MX12_apart) rfl rfl ((t_X12_apart r0 r1 r2 r3 r4 r5 r6 s7 r8 r9 1 e10).deep (by decide : 4 ≤ 4)) ?_
        show xBody MX12_skin 5 52 [some (.ref 7168), some (.int (zI wh))] [.int (zI y9.1)] ([r0, r1, r2, r3, r4, r5, r6, zH y9.2 zL7 0, r8, r9]) _ _
        obtain rfl := Option.some.inj H
        exact xB.ret oX12_skin (r1 := some (.int (zI y9.1))) rfl rfl rfl
      · have H := H.2 h8
        have H := zif H
        by_cases h11 : wh = 3
        · have H := H.1 h11
          refine xB.next oX12_skin (s := (53, [some (.ref 7168), some (.int (zI wh))], [], [r0, r1, r2, r3, r4, r5, r6, zH s7 zL7 0, r8, r9])) (xsw_at rfl (by rw [zsw g1 0 _ (by decide), if_neg (show ¬ wh = ((0 : Nat) : Int) from h2)]; rw [zsw g1 1 _ (by decide), if_neg (show ¬ wh = ((1 : Nat) : Int) from h5)]; rw [zsw g1 2 _ (by decide), if_neg (show ¬ wh = ((2 : Nat) : Int) from h8)]; rw [zsw g1 3 _ (by decide), if_pos (show wh = ((3 : Nat) : Int) from h11)])) ?_
          refine xB.run oX12_skin 1 (s := (54, [some (.ref 7168), some (.int (zI wh))], [.ref 7168], [r0, r1, r2, r3, r4, r5, r6, zH s7 zL7 0, r8, r9])) rfl ?_
          obtain ⟨y12, e13, H⟩ := zbd H
          refine xB.call oX12_skin (M2 := MX12_shortest) rfl rfl ((t_X12_shortest r0 r1 r2 r3 r4 r5 r6 s7 r8 r9  e13).deep (by decide : 1 ≤ 4)) ?_
          show xBody MX12_skin 5 57 [some (.ref 7168), some (.int (zI wh))] [.int (zI y12.1)] ([r0, r1, r2, r3, r4, r5, r6, zH y12.2 zL7 0, r8, r9]) _ _
          obtain ⟨g15, H⟩ := zgd H
          have H := zif H
          refine xB.brE oX12_skin (P := y12.1 ≠ 0) rfl (zc_ne (a := y12.1) (b := 0) ⟨g15, by decide⟩) (fun h14 => ?_) (fun h14 => ?_)
          · have H := H.1 h14
            refine xB.run oX12_skin 1 (s := (65, [some (.ref 7168), some (.int (zI wh))], [.int (zI 0)], [r0, r1, r2, r3, r4, r5, r6, zH y12.2 zL7 0, r8, r9])) rfl ?_
            obtain rfl := Option.some.inj H
            exact xB.ret oX12_skin (r1 := some (.int (zI 0))) rfl rfl rfl
          · have H := H.2 h14
            refine xB.run oX12_skin 2 (s := (65, [some (.ref 7168), some (.int (zI wh))], [.int (zI 1)], [r0, r1, r2, r3, r4, r5, r6, zH y12.2 zL7 0, r8, r9])) rfl ?_
            obtain rfl := Option.some.inj H
            exact xB.ret oX12_skin (r1 := some (.int (zI 1))) rfl rfl rfl
        · have H := H.2 h11
          have H := zif H
          by_cases h16 : wh = 4
          · have H := H.1 h16
            refine xB.next oX12_skin (s := (66, [some (.ref 7168), some (.int (zI wh))], [], [r0, r1, r2, r3, r4, r5, r6, zH s7 zL7 0, r8, r9])) (xsw_at rfl (by rw [zsw g1 0 _ (by decide), if_neg (show ¬ wh = ((0 : Nat) : Int) from h2)]; rw [zsw g1 1 _ (by decide), if_neg (show ¬ wh = ((1 : Nat) : Int) from h5)]; rw [zsw g1 2 _ (by decide), if_neg (show ¬ wh = ((2 : Nat) : Int) from h8)]; rw [zsw g1 3 _ (by decide), if_neg (show ¬ wh = ((3 : Nat) : Int) from h11)]; rw [zsw g1 4 _ (by decide), if_pos (show wh = ((4 : Nat) : Int) from h16)])) ?_
            refine xB.run oX12_skin 1 (s := (67, [some (.ref 7168), some (.int (zI wh))], [.ref 7168], [r0, r1, r2, r3, r4, r5, r6, zH s7 zL7 0, r8, r9])) rfl ?_
            obtain ⟨y17, e18, H⟩ := zbd H
            refine xB.call oX12_skin (M2 := MX12_shortest) rfl rfl ((t_X12_shortest r0 r1 r2 r3 r4 r5 r6 s7 r8 r9  e18).deep (by decide : 1 ≤ 4)) ?_
            show xBody MX12_skin 5 70 [some (.ref 7168), some (.int (zI wh))] [.int (zI y17.1)] ([r0, r1, r2, r3, r4, r5, r6, zH y17.2 zL7 0, r8, r9]) _ _
            obtain rfl := Option.some.inj H
            exact xB.ret oX12_skin (r1 := some (.int (zI y17.1))) rfl rfl rfl
          · have H := H.2 h16
            refine xB.next oX12_skin (s := (71, [some (.ref 7168), some (.int (zI wh))], [], [r0, r1, r2, r3, r4, r5, r6, zH s7 zL7 0, r8, r9])) (xsw_at rfl (by rw [zsw g1 0 _ (by decide), if_neg (show ¬ wh = ((0 : Nat) : Int) from h2)]; rw [zsw g1 1 _ (by decide), if_neg (show ¬ wh = ((1 : Nat) : Int) from h5)]; rw [zsw g1 2 _ (by decide), if_neg (show ¬ wh = ((2 : Nat) : Int) from h8)]; rw [zsw g1 3 _ (by decide), if_neg (show ¬ wh = ((3 : Nat) : Int) from h11)]; rw [zsw g1 4 _ (by decide), if_neg (show ¬ wh = ((4 : Nat) : Int) from h16)]; rfl)) ?_
            refine xB.run oX12_skin 1 (s := (73, [some (.ref 7168), some (.int (zI wh))], [.int (zI (-2))], [r0, r1, r2, r3, r4, r5, r6, zH s7 zL7 0, r8, r9])) rfl ?_
            obtain rfl := Option.some.inj H
            exact xB.ret oX12_skin (r1 := some (.int (zI (-2)))) rfl rfl rfl
def d_X12_sight (s7 : zZ) (m : Int) (lo : Int) (hi : Int) : Option (Int × zZ) := if zr m then ((d_X12_within m 1 99).bind fun y1 => if (zr y1) then (if y1 = 0 then some ((-2), s7) else (if zr lo then ((d_X12_within lo 0 99999).bind fun y4 => if (zr y4) then (if y4 = 0 then some ((-2), s7) else (if zr hi then (if zr lo then ((d_X12_within hi lo 99999).bind fun y7 => if (zr y7) then (if y7 ≠ 0 then (if (zr (s7 0 39)) then (if (s7 0 39) ≠ 12 then (if (0 ≤ (s7 0 39) ∧ (s7 0 39) < 12) then (if (0 ≤ ((upz s7 29 (s7 0 39).toNat m) 0 39) ∧ ((upz s7 29 (s7 0 39).toNat m) 0 39) < 12) then (if (0 ≤ ((upz (upz s7 29 (s7 0 39).toNat m) 30 ((upz s7 29 (s7 0 39).toNat m) 0 39).toNat lo) 0 39) ∧ ((upz (upz s7 29 (s7 0 39).toNat m) 30 ((upz s7 29 (s7 0 39).toNat m) 0 39).toNat lo) 0 39) < 12) then some (((upz (upz (upz (upz s7 29 (s7 0 39).toNat m) 30 ((upz s7 29 (s7 0 39).toNat m) 0 39).toNat lo) 31 ((upz (upz s7 29 (s7 0 39).toNat m) 30 ((upz s7 29 (s7 0 39).toNat m) 0 39).toNat lo) 0 39).toNat hi) 0 39 (((upz (upz (upz s7 29 (s7 0 39).toNat m) 30 ((upz s7 29 (s7 0 39).toNat m) 0 39).toNat lo) 31 ((upz (upz s7 29 (s7 0 39).toNat m) 30 ((upz s7 29 (s7 0 39).toNat m) 0 39).toNat lo) 0 39).toNat hi) 0 39) + 1)) 0 39) - 1, upz (upz (upz (upz s7 29 (s7 0 39).toNat m) 30 ((upz s7 29 (s7 0 39).toNat m) 0 39).toNat lo) 31 ((upz (upz s7 29 (s7 0 39).toNat m) 30 ((upz s7 29 (s7 0 39).toNat m) 0 39).toNat lo) 0 39).toNat hi) 0 39 (((upz (upz (upz s7 29 (s7 0 39).toNat m) 30 ((upz s7 29 (s7 0 39).toNat m) 0 39).toNat lo) 31 ((upz (upz s7 29 (s7 0 39).toNat m) 30 ((upz s7 29 (s7 0 39).toNat m) 0 39).toNat lo) 0 39).toNat hi) 0 39) + 1)) else none) else none) else none) else some ((-4), s7)) else none) else some ((-2), s7)) else none) else none) else none)) else none) else none)) else none) else none
set_option maxRecDepth 20000 in
theorem t_X12_sight (r0 : List va_E) (r1 : List va_E) (r2 : List va_E) (r3 : List va_E) (r4 : List va_E) (r5 : List va_E) (r6 : List va_E) (s7 : zZ) (r8 : List va_E) (r9 : List va_E) (m : Int) (lo : Int) (hi : Int) {rr : Int × zZ} (H : d_X12_sight s7 m lo hi = some rr) : xC MX12_sight 1 [.ref 7168, .int (zI m), .int (zI lo), .int (zI hi)] ([r0, r1, r2, r3, r4, r5, r6, zH s7 zL7 0, r8, r9]) (some (.int (zI rr.1))) ([r0, r1, r2, r3, r4, r5, r6, zH rr.2 zL7 0, r8, r9]) := by
  refine ⟨Nat.le_of_ble_eq_true rfl, ?_⟩
  show xBody MX12_sight 1 0 [some (.ref 7168), some (.int (zI m)), some (.int (zI lo)), some (.int (zI hi))] [] ([r0, r1, r2, r3, r4, r5, r6, zH s7 zL7 0, r8, r9]) _ _
  unfold d_X12_sight at H
  refine xB.run oX12_sight 1 (s := (1, [some (.ref 7168), some (.int (zI m)), some (.int (zI lo)), some (.int (zI hi))], [.int (zI m)], [r0, r1, r2, r3, r4, r5, r6, zH s7 zL7 0, r8, r9])) rfl ?_
  obtain ⟨g21, H⟩ := zgd H
  refine zB.opl oX12_sight rfl (zi_i2l g21) ?_
  refine xB.run oX12_sight 2 (s := (6, [some (.ref 7168), some (.int (zI m)), some (.int (zI lo)), some (.int (zI hi))], [.long (zJ 99), .long (zJ 1), .long (zJ m)], [r0, r1, r2, r3, r4, r5, r6, zH s7 zL7 0, r8, r9])) rfl ?_
  obtain ⟨y1, e2, H⟩ := zbd H
  refine xB.call oX12_sight (M2 := MX12_within) rfl rfl ((t_X12_within r0 r1 r2 r3 r4 r5 r6 (zH s7 zL7 0) r8 r9 m 1 99 e2).deep (by decide : 0 ≤ 0)) ?_
  show xBody MX12_sight 1 9 [some (.ref 7168), some (.int (zI m)), some (.int (zI lo)), some (.int (zI hi))] [.int (zI y1)] ([r0, r1, r2, r3, r4, r5, r6, zH s7 zL7 0, r8, r9]) _ _
  obtain ⟨g20, H⟩ := zgd H
  have H := zif H
  refine xB.brE oX12_sight (P := y1 = 0) rfl (zc_eq (a := y1) (b := 0) ⟨g20, by decide⟩) (fun h3 => ?_) (fun h3 => ?_)
  · have H := H.1 h3
    refine xB.run oX12_sight 1 (s := (39, [some (.ref 7168), some (.int (zI m)), some (.int (zI lo)), some (.int (zI hi))], [.int (zI (-2))], [r0, r1, r2, r3, r4, r5, r6, zH s7 zL7 0, r8, r9])) rfl ?_
    obtain rfl := Option.some.inj H
    exact xB.ret oX12_sight (r1 := some (.int (zI (-2)))) rfl rfl rfl
  · have H := H.2 h3
    refine xB.run oX12_sight 1 (s := (13, [some (.ref 7168), some (.int (zI m)), some (.int (zI lo)), some (.int (zI hi))], [.int (zI lo)], [r0, r1, r2, r3, r4, r5, r6, zH s7 zL7 0, r8, r9])) rfl ?_
    obtain ⟨g19, H⟩ := zgd H
    refine zB.opl oX12_sight rfl (zi_i2l g19) ?_
    refine xB.run oX12_sight 2 (s := (18, [some (.ref 7168), some (.int (zI m)), some (.int (zI lo)), some (.int (zI hi))], [.long (zJ 99999), .long (zJ 0), .long (zJ lo)], [r0, r1, r2, r3, r4, r5, r6, zH s7 zL7 0, r8, r9])) rfl ?_
    obtain ⟨y4, e5, H⟩ := zbd H
    refine xB.call oX12_sight (M2 := MX12_within) rfl rfl ((t_X12_within r0 r1 r2 r3 r4 r5 r6 (zH s7 zL7 0) r8 r9 lo 0 99999 e5).deep (by decide : 0 ≤ 0)) ?_
    show xBody MX12_sight 1 21 [some (.ref 7168), some (.int (zI m)), some (.int (zI lo)), some (.int (zI hi))] [.int (zI y4)] ([r0, r1, r2, r3, r4, r5, r6, zH s7 zL7 0, r8, r9]) _ _
    obtain ⟨g18, H⟩ := zgd H
    have H := zif H
    refine xB.brE oX12_sight (P := y4 = 0) rfl (zc_eq (a := y4) (b := 0) ⟨g18, by decide⟩) (fun h6 => ?_) (fun h6 => ?_)
    · have H := H.1 h6
      refine xB.run oX12_sight 1 (s := (39, [some (.ref 7168), some (.int (zI m)), some (.int (zI lo)), some (.int (zI hi))], [.int (zI (-2))], [r0, r1, r2, r3, r4, r5, r6, zH s7 zL7 0, r8, r9])) rfl ?_
      obtain rfl := Option.some.inj H
      exact xB.ret oX12_sight (r1 := some (.int (zI (-2)))) rfl rfl rfl
    · have H := H.2 h6
      refine xB.run oX12_sight 1 (s := (25, [some (.ref 7168), some (.int (zI m)), some (.int (zI lo)), some (.int (zI hi))], [.int (zI hi)], [r0, r1, r2, r3, r4, r5, r6, zH s7 zL7 0, r8, r9])) rfl ?_
      obtain ⟨g17, H⟩ := zgd H
      refine zB.opl oX12_sight rfl (zi_i2l g17) ?_
      refine xB.run oX12_sight 1 (s := (27, [some (.ref 7168), some (.int (zI m)), some (.int (zI lo)), some (.int (zI hi))], [.int (zI lo), .long (zJ hi)], [r0, r1, r2, r3, r4, r5, r6, zH s7 zL7 0, r8, r9])) rfl ?_
      obtain ⟨g16, H⟩ := zgd H
      refine zB.opl oX12_sight rfl (zi_i2l g16) ?_
      refine xB.run oX12_sight 1 (s := (31, [some (.ref 7168), some (.int (zI m)), some (.int (zI lo)), some (.int (zI hi))], [.long (zJ 99999), .long (zJ lo), .long (zJ hi)], [r0, r1, r2, r3, r4, r5, r6, zH s7 zL7 0, r8, r9])) rfl ?_
      obtain ⟨y7, e8, H⟩ := zbd H
      refine xB.call oX12_sight (M2 := MX12_within) rfl rfl ((t_X12_within r0 r1 r2 r3 r4 r5 r6 (zH s7 zL7 0) r8 r9 hi lo 99999 e8).deep (by decide : 0 ≤ 0)) ?_
      show xBody MX12_sight 1 34 [some (.ref 7168), some (.int (zI m)), some (.int (zI lo)), some (.int (zI hi))] [.int (zI y7)] ([r0, r1, r2, r3, r4, r5, r6, zH s7 zL7 0, r8, r9]) _ _
      obtain ⟨g15, H⟩ := zgd H
      have H := zif H
      refine xB.brE oX12_sight (P := y7 ≠ 0) rfl (zc_ne (a := y7) (b := 0) ⟨g15, by decide⟩) (fun h9 => ?_) (fun h9 => ?_)
      · have H := H.1 h9
        refine xB.run oX12_sight 3 (s := (46, [some (.ref 7168), some (.int (zI m)), some (.int (zI lo)), some (.int (zI hi))], [.int (zI 12), .int (zI (s7 0 39))], [r0, r1, r2, r3, r4, r5, r6, zH s7 zL7 0, r8, r9])) rfl ?_
        obtain ⟨g14, H⟩ := zgd H
        have H := zif H
        refine xB.brE oX12_sight (P := (s7 0 39) ≠ 12) rfl (zc_ne (a := s7 0 39) (b := 12) ⟨g14, by decide⟩) (fun h10 => ?_) (fun h10 => ?_)
        · have H := H.1 h10
          refine xB.run oX12_sight 5 (s := (61, [some (.ref 7168), some (.int (zI m)), some (.int (zI lo)), some (.int (zI hi))], [.int (zI m), .int (zI (s7 0 39)), .ref 7197], [r0, r1, r2, r3, r4, r5, r6, zH s7 zL7 0, r8, r9])) rfl ?_
          obtain ⟨g13, H⟩ := zgd H
          refine zB.iast oX12_sight (g := 7) (p := 29) (N := 12) (i := s7 0 39) (hp1 := [r0, r1, r2, r3, r4, r5, r6, zH (upz s7 29 (s7 0 39).toNat m) zL7 0, r8, r9]) rfl rfl (by decide) (by decide) rfl rfl (by decide) g13 rfl ?_
          refine xB.run oX12_sight 5 (s := (71, [some (.ref 7168), some (.int (zI m)), some (.int (zI lo)), some (.int (zI hi))], [.int (zI lo), .int (zI ((upz s7 29 (s7 0 39).toNat m) 0 39)), .ref 7198], [r0, r1, r2, r3, r4, r5, r6, zH (upz s7 29 (s7 0 39).toNat m) zL7 0, r8, r9])) rfl ?_
          obtain ⟨g12, H⟩ := zgd H
          refine zB.iast oX12_sight (g := 7) (p := 30) (N := 12) (i := (upz s7 29 (s7 0 39).toNat m) 0 39) (hp1 := [r0, r1, r2, r3, r4, r5, r6, zH (upz (upz s7 29 (s7 0 39).toNat m) 30 ((upz s7 29 (s7 0 39).toNat m) 0 39).toNat lo) zL7 0, r8, r9]) rfl rfl (by decide) (by decide) rfl rfl (by decide) g12 rfl ?_
          refine xB.run oX12_sight 5 (s := (81, [some (.ref 7168), some (.int (zI m)), some (.int (zI lo)), some (.int (zI hi))], [.int (zI hi), .int (zI ((upz (upz s7 29 (s7 0 39).toNat m) 30 ((upz s7 29 (s7 0 39).toNat m) 0 39).toNat lo) 0 39)), .ref 7199], [r0, r1, r2, r3, r4, r5, r6, zH (upz (upz s7 29 (s7 0 39).toNat m) 30 ((upz s7 29 (s7 0 39).toNat m) 0 39).toNat lo) zL7 0, r8, r9])) rfl ?_
          obtain ⟨g11, H⟩ := zgd H
          refine zB.iast oX12_sight (g := 7) (p := 31) (N := 12) (i := (upz (upz s7 29 (s7 0 39).toNat m) 30 ((upz s7 29 (s7 0 39).toNat m) 0 39).toNat lo) 0 39) (hp1 := [r0, r1, r2, r3, r4, r5, r6, zH (upz (upz (upz s7 29 (s7 0 39).toNat m) 30 ((upz s7 29 (s7 0 39).toNat m) 0 39).toNat lo) 31 ((upz (upz s7 29 (s7 0 39).toNat m) 30 ((upz s7 29 (s7 0 39).toNat m) 0 39).toNat lo) 0 39).toNat hi) zL7 0, r8, r9]) rfl rfl (by decide) (by decide) rfl rfl (by decide) g11 rfl ?_
          refine xB.run oX12_sight 4 (s := (88, [some (.ref 7168), some (.int (zI m)), some (.int (zI lo)), some (.int (zI hi))], [.int (zI 1), .int (zI ((upz (upz (upz s7 29 (s7 0 39).toNat m) 30 ((upz s7 29 (s7 0 39).toNat m) 0 39).toNat lo) 31 ((upz (upz s7 29 (s7 0 39).toNat m) 30 ((upz s7 29 (s7 0 39).toNat m) 0 39).toNat lo) 0 39).toNat hi) 0 39)), .ref 7168], [r0, r1, r2, r3, r4, r5, r6, zH (upz (upz (upz s7 29 (s7 0 39).toNat m) 30 ((upz s7 29 (s7 0 39).toNat m) 0 39).toNat lo) 31 ((upz (upz s7 29 (s7 0 39).toNat m) 30 ((upz s7 29 (s7 0 39).toNat m) 0 39).toNat lo) 0 39).toNat hi) zL7 0, r8, r9])) rfl ?_
          refine zB.opi oX12_sight rfl (zi_add ((upz (upz (upz s7 29 (s7 0 39).toNat m) 30 ((upz s7 29 (s7 0 39).toNat m) 0 39).toNat lo) 31 ((upz (upz s7 29 (s7 0 39).toNat m) 30 ((upz s7 29 (s7 0 39).toNat m) 0 39).toNat lo) 0 39).toNat hi) 0 39) 1) ?_
          refine zB.putI oX12_sight (g := 7) (p := 0) (c := 12) (k := 39) (y := 0) (hp1 := [r0, r1, r2, r3, r4, r5, r6, zH (upz (upz (upz (upz s7 29 (s7 0 39).toNat m) 30 ((upz s7 29 (s7 0 39).toNat m) 0 39).toNat lo) 31 ((upz (upz s7 29 (s7 0 39).toNat m) 30 ((upz s7 29 (s7 0 39).toNat m) 0 39).toNat lo) 0 39).toNat hi) 0 39 (((upz (upz (upz s7 29 (s7 0 39).toNat m) 30 ((upz s7 29 (s7 0 39).toNat m) 0 39).toNat lo) 31 ((upz (upz s7 29 (s7 0 39).toNat m) 30 ((upz s7 29 (s7 0 39).toNat m) 0 39).toNat lo) 0 39).toNat hi) 0 39) + 1)) zL7 0, r8, r9]) rfl rfl (by decide) (by decide) rfl rfl rfl rfl rfl rfl ?_
          refine xB.run oX12_sight 3 (s := (97, [some (.ref 7168), some (.int (zI m)), some (.int (zI lo)), some (.int (zI hi))], [.int (zI 1), .int (zI ((upz (upz (upz (upz s7 29 (s7 0 39).toNat m) 30 ((upz s7 29 (s7 0 39).toNat m) 0 39).toNat lo) 31 ((upz (upz s7 29 (s7 0 39).toNat m) 30 ((upz s7 29 (s7 0 39).toNat m) 0 39).toNat lo) 0 39).toNat hi) 0 39 (((upz (upz (upz s7 29 (s7 0 39).toNat m) 30 ((upz s7 29 (s7 0 39).toNat m) 0 39).toNat lo) 31 ((upz (upz s7 29 (s7 0 39).toNat m) 30 ((upz s7 29 (s7 0 39).toNat m) 0 39).toNat lo) 0 39).toNat hi) 0 39) + 1)) 0 39))], [r0, r1, r2, r3, r4, r5, r6, zH (upz (upz (upz (upz s7 29 (s7 0 39).toNat m) 30 ((upz s7 29 (s7 0 39).toNat m) 0 39).toNat lo) 31 ((upz (upz s7 29 (s7 0 39).toNat m) 30 ((upz s7 29 (s7 0 39).toNat m) 0 39).toNat lo) 0 39).toNat hi) 0 39 (((upz (upz (upz s7 29 (s7 0 39).toNat m) 30 ((upz s7 29 (s7 0 39).toNat m) 0 39).toNat lo) 31 ((upz (upz s7 29 (s7 0 39).toNat m) 30 ((upz s7 29 (s7 0 39).toNat m) 0 39).toNat lo) 0 39).toNat hi) 0 39) + 1)) zL7 0, r8, r9])) rfl ?_
          refine zB.opi oX12_sight rfl (zi_sub ((upz (upz (upz (upz s7 29 (s7 0 39).toNat m) 30 ((upz s7 29 (s7 0 39).toNat m) 0 39).toNat lo) 31 ((upz (upz s7 29 (s7 0 39).toNat m) 30 ((upz s7 29 (s7 0 39).toNat m) 0 39).toNat lo) 0 39).toNat hi) 0 39 (((upz (upz (upz s7 29 (s7 0 39).toNat m) 30 ((upz s7 29 (s7 0 39).toNat m) 0 39).toNat lo) 31 ((upz (upz s7 29 (s7 0 39).toNat m) 30 ((upz s7 29 (s7 0 39).toNat m) 0 39).toNat lo) 0 39).toNat hi) 0 39) + 1)) 0 39) 1) ?_
          obtain rfl := Option.some.inj H
          exact xB.ret oX12_sight (r1 := some (.int (zI (((upz (upz (upz (upz s7 29 (s7 0 39).toNat m) 30 ((upz s7 29 (s7 0 39).toNat m) 0 39).toNat lo) 31 ((upz (upz s7 29 (s7 0 39).toNat m) 30 ((upz s7 29 (s7 0 39).toNat m) 0 39).toNat lo) 0 39).toNat hi) 0 39 (((upz (upz (upz s7 29 (s7 0 39).toNat m) 30 ((upz s7 29 (s7 0 39).toNat m) 0 39).toNat lo) 31 ((upz (upz s7 29 (s7 0 39).toNat m) 30 ((upz s7 29 (s7 0 39).toNat m) 0 39).toNat lo) 0 39).toNat hi) 0 39) + 1)) 0 39) - 1)))) rfl rfl rfl
        · have H := H.2 h10
          refine xB.run oX12_sight 1 (s := (51, [some (.ref 7168), some (.int (zI m)), some (.int (zI lo)), some (.int (zI hi))], [.int (zI (-4))], [r0, r1, r2, r3, r4, r5, r6, zH s7 zL7 0, r8, r9])) rfl ?_
          obtain rfl := Option.some.inj H
          exact xB.ret oX12_sight (r1 := some (.int (zI (-4)))) rfl rfl rfl
      · have H := H.2 h9
        refine xB.run oX12_sight 1 (s := (39, [some (.ref 7168), some (.int (zI m)), some (.int (zI lo)), some (.int (zI hi))], [.int (zI (-2))], [r0, r1, r2, r3, r4, r5, r6, zH s7 zL7 0, r8, r9])) rfl ?_
        obtain rfl := Option.some.inj H
        exact xB.ret oX12_sight (r1 := some (.int (zI (-2)))) rfl rfl rfl
def d_X12_isSight (s7 : zZ) (a : Int) : Option (Int) := if (zr a) then (if a < 0 then some 0 else (if (zr a ∧ zr (s7 0 39)) then (if (s7 0 39) ≤ a then some 0 else some 1) else none)) else none
set_option maxRecDepth 20000 in
theorem t_X12_isSight (r0 : List va_E) (r1 : List va_E) (r2 : List va_E) (r3 : List va_E) (r4 : List va_E) (r5 : List va_E) (r6 : List va_E) (s7 : zZ) (r8 : List va_E) (r9 : List va_E) (a : Int) {rr : Int} (H : d_X12_isSight s7 a = some rr) : xC MX12_isSight 0 [.ref 7168, .int (zI a)] ([r0, r1, r2, r3, r4, r5, r6, zH s7 zL7 0, r8, r9]) (some (.int (zI rr))) ([r0, r1, r2, r3, r4, r5, r6, zH s7 zL7 0, r8, r9]) := by
  refine ⟨Nat.le_of_ble_eq_true rfl, ?_⟩
  show xBody MX12_isSight 0 0 [some (.ref 7168), some (.int (zI a))] [] ([r0, r1, r2, r3, r4, r5, r6, zH s7 zL7 0, r8, r9]) _ _
  unfold d_X12_isSight at H
  refine xB.run oX12_isSight 1 (s := (1, [some (.ref 7168), some (.int (zI a))], [.int (zI a)], [r0, r1, r2, r3, r4, r5, r6, zH s7 zL7 0, r8, r9])) rfl ?_
  obtain ⟨g4, H⟩ := zgd H
  have H := zif H
  refine xB.brE oX12_isSight (P := a < 0) rfl (zc_lt (a := a) (b := 0) ⟨g4, by decide⟩) (fun h1 => ?_) (fun h1 => ?_)
  · have H := H.1 h1
    refine xB.run oX12_isSight 1 (s := (17, [some (.ref 7168), some (.int (zI a))], [.int (zI 0)], [r0, r1, r2, r3, r4, r5, r6, zH s7 zL7 0, r8, r9])) rfl ?_
    obtain rfl := Option.some.inj H
    exact xB.ret oX12_isSight (r1 := some (.int (zI 0))) rfl rfl rfl
  · have H := H.2 h1
    refine xB.run oX12_isSight 3 (s := (9, [some (.ref 7168), some (.int (zI a))], [.int (zI (s7 0 39)), .int (zI a)], [r0, r1, r2, r3, r4, r5, r6, zH s7 zL7 0, r8, r9])) rfl ?_
    obtain ⟨g3, H⟩ := zgd H
    have H := zif H
    refine xB.brE oX12_isSight (P := (s7 0 39) ≤ a) rfl (zc_ge (a := a) (b := s7 0 39) g3) (fun h2 => ?_) (fun h2 => ?_)
    · have H := H.1 h2
      refine xB.run oX12_isSight 1 (s := (17, [some (.ref 7168), some (.int (zI a))], [.int (zI 0)], [r0, r1, r2, r3, r4, r5, r6, zH s7 zL7 0, r8, r9])) rfl ?_
      obtain rfl := Option.some.inj H
      exact xB.ret oX12_isSight (r1 := some (.int (zI 0))) rfl rfl rfl
    · have H := H.2 h2
      refine xB.run oX12_isSight 2 (s := (17, [some (.ref 7168), some (.int (zI a))], [.int (zI 1)], [r0, r1, r2, r3, r4, r5, r6, zH s7 zL7 0, r8, r9])) rfl ?_
      obtain rfl := Option.some.inj H
      exact xB.ret oX12_isSight (r1 := some (.int (zI 1))) rfl rfl rfl
def d_X12_isAbove (s7 : zZ) (a : Int) (b : Int) : Option (Int) := if (0 ≤ a ∧ a < 12) then (if zr (s7 30 a.toNat) then (if (0 ≤ b ∧ b < 12) then (if zr (s7 29 b.toNat) then (if (0 ≤ b ∧ b < 12) then (if zr (s7 31 b.toNat) then (if (0 ≤ a ∧ a < 12) then (if zr (s7 29 a.toNat) then (if (zrl ((s7 30 a.toNat) * (s7 29 b.toNat)) ∧ zrl ((s7 31 b.toNat) * (s7 29 a.toNat))) then (if ((s7 30 a.toNat) * (s7 29 b.toNat)) ≤ ((s7 31 b.toNat) * (s7 29 a.toNat)) then some 0 else some 1) else none) else none) else none) else none) else none) else none) else none) else none) else none
set_option maxRecDepth 20000 in
theorem t_X12_isAbove (r0 : List va_E) (r1 : List va_E) (r2 : List va_E) (r3 : List va_E) (r4 : List va_E) (r5 : List va_E) (r6 : List va_E) (s7 : zZ) (r8 : List va_E) (r9 : List va_E) (a : Int) (b : Int) {rr : Int} (H : d_X12_isAbove s7 a b = some rr) : xC MX12_isAbove 0 [.ref 7168, .int (zI a), .int (zI b)] ([r0, r1, r2, r3, r4, r5, r6, zH s7 zL7 0, r8, r9]) (some (.int (zI rr))) ([r0, r1, r2, r3, r4, r5, r6, zH s7 zL7 0, r8, r9]) := by
  refine ⟨Nat.le_of_ble_eq_true rfl, ?_⟩
  show xBody MX12_isAbove 0 0 [some (.ref 7168), some (.int (zI a)), some (.int (zI b))] [] ([r0, r1, r2, r3, r4, r5, r6, zH s7 zL7 0, r8, r9]) _ _
  unfold d_X12_isAbove at H
  refine xB.run oX12_isAbove 3 (s := (5, [some (.ref 7168), some (.int (zI a)), some (.int (zI b))], [.int (zI a), .ref 7198], [r0, r1, r2, r3, r4, r5, r6, zH s7 zL7 0, r8, r9])) rfl ?_
  obtain ⟨g10, H⟩ := zgd H
  refine zB.iald oX12_isAbove (g := 7) (p := 30) (N := 12) (i := a) rfl rfl (by decide) rfl rfl (by decide) g10 ?_
  obtain ⟨g9, H⟩ := zgd H
  refine zB.opl oX12_isAbove rfl (zi_i2l g9) ?_
  refine xB.run oX12_isAbove 3 (s := (12, [some (.ref 7168), some (.int (zI a)), some (.int (zI b))], [.int (zI b), .ref 7197, .long (zJ (s7 30 a.toNat))], [r0, r1, r2, r3, r4, r5, r6, zH s7 zL7 0, r8, r9])) rfl ?_
  obtain ⟨g8, H⟩ := zgd H
  refine zB.iald oX12_isAbove (g := 7) (p := 29) (N := 12) (i := b) rfl rfl (by decide) rfl rfl (by decide) g8 ?_
  obtain ⟨g7, H⟩ := zgd H
  refine zB.opl oX12_isAbove rfl (zi_i2l g7) ?_
  refine zB.opl oX12_isAbove rfl (zj_mul (s7 30 a.toNat) (s7 29 b.toNat)) ?_
  refine xB.run oX12_isAbove 3 (s := (20, [some (.ref 7168), some (.int (zI a)), some (.int (zI b))], [.int (zI b), .ref 7199, .long (zJ ((s7 30 a.toNat) * (s7 29 b.toNat)))], [r0, r1, r2, r3, r4, r5, r6, zH s7 zL7 0, r8, r9])) rfl ?_
  obtain ⟨g6, H⟩ := zgd H
  refine zB.iald oX12_isAbove (g := 7) (p := 31) (N := 12) (i := b) rfl rfl (by decide) rfl rfl (by decide) g6 ?_
  obtain ⟨g5, H⟩ := zgd H
  refine zB.opl oX12_isAbove rfl (zi_i2l g5) ?_
  refine xB.run oX12_isAbove 3 (s := (27, [some (.ref 7168), some (.int (zI a)), some (.int (zI b))], [.int (zI a), .ref 7197, .long (zJ (s7 31 b.toNat)), .long (zJ ((s7 30 a.toNat) * (s7 29 b.toNat)))], [r0, r1, r2, r3, r4, r5, r6, zH s7 zL7 0, r8, r9])) rfl ?_
  obtain ⟨g4, H⟩ := zgd H
  refine zB.iald oX12_isAbove (g := 7) (p := 29) (N := 12) (i := a) rfl rfl (by decide) rfl rfl (by decide) g4 ?_
  obtain ⟨g3, H⟩ := zgd H
  refine zB.opl oX12_isAbove rfl (zi_i2l g3) ?_
  refine zB.opl oX12_isAbove rfl (zj_mul (s7 31 b.toNat) (s7 29 a.toNat)) ?_
  refine xB.run oX12_isAbove 1 (s := (31, [some (.ref 7168), some (.int (zI a)), some (.int (zI b))], [.int (lg_cmp (zJ ((s7 30 a.toNat) * (s7 29 b.toNat))) (zJ ((s7 31 b.toNat) * (s7 29 a.toNat))))], [r0, r1, r2, r3, r4, r5, r6, zH s7 zL7 0, r8, r9])) rfl ?_
  obtain ⟨g2, H⟩ := zgd H
  have H := zif H
  refine xB.brE oX12_isAbove (P := ((s7 30 a.toNat) * (s7 29 b.toNat)) ≤ ((s7 31 b.toNat) * (s7 29 a.toNat))) rfl (zl_le (a := (s7 30 a.toNat) * (s7 29 b.toNat)) (b := (s7 31 b.toNat) * (s7 29 a.toNat)) g2) (fun h1 => ?_) (fun h1 => ?_)
  · have H := H.1 h1
    refine xB.run oX12_isAbove 1 (s := (39, [some (.ref 7168), some (.int (zI a)), some (.int (zI b))], [.int (zI 0)], [r0, r1, r2, r3, r4, r5, r6, zH s7 zL7 0, r8, r9])) rfl ?_
    obtain rfl := Option.some.inj H
    exact xB.ret oX12_isAbove (r1 := some (.int (zI 0))) rfl rfl rfl
  · have H := H.2 h1
    refine xB.run oX12_isAbove 2 (s := (39, [some (.ref 7168), some (.int (zI a)), some (.int (zI b))], [.int (zI 1)], [r0, r1, r2, r3, r4, r5, r6, zH s7 zL7 0, r8, r9])) rfl ?_
    obtain rfl := Option.some.inj H
    exact xB.ret oX12_isAbove (r1 := some (.int (zI 1))) rfl rfl rfl
def d_X12_doAgree_12 (s7 : zZ) (set : Int) (a : Int) : Nat → Int → Option (Sum (Int) (Int))
  | 0, _ => none
  | uN + 1, b => if (zr b ∧ zr (s7 0 39)) then (if (s7 0 39) ≤ b then some (.inl b) else (if (zr set ∧ (0 ≤ a ∧ a < 32)) then (if (zr set ∧ (0 ≤ b ∧ b < 32)) then (if ((0 ≤ (set / (2 : Int) ^ a.toNat) ∧ zr (set / (2 : Int) ^ a.toNat)) ∧ (0 ≤ (set / (2 : Int) ^ b.toNat) ∧ zr (set / (2 : Int) ^ b.toNat))) then (if (zr ((((set / (2 : Int) ^ a.toNat).toNat &&& (set / (2 : Int) ^ b.toNat).toNat : Nat) : Int) % 2)) then (if ((((set / (2 : Int) ^ a.toNat).toNat &&& (set / (2 : Int) ^ b.toNat).toNat : Nat) : Int) % 2) ≠ 1 then (d_X12_doAgree_12 s7 set a uN (b + 1)) else ((d_X12_isAbove s7 a b).bind fun y4 => if (zr y4) then (if y4 = 0 then (d_X12_doAgree_12 s7 set a uN (b + 1)) else some (.inr 0)) else none)) else none) else none) else none) else none)) else none
def d_X12_doAgree_2 (s7 : zZ) (set : Int) : Nat → Int → Option (Sum (Int) (Int))
  | 0, _ => none
  | uN + 1, a => if (zr a ∧ zr (s7 0 39)) then (if (s7 0 39) ≤ a then some (.inl a) else ((d_X12_doAgree_12 s7 set a zF 0).bind fun y13 => match y13 with | .inl y15 => d_X12_doAgree_2 s7 set uN (a + 1) | .inr y16 => some (.inr y16))) else none
def d_X12_doAgree (s7 : zZ) (set : Int) : Option (Int) := (d_X12_doAgree_2 s7 set zF 0).bind fun y18 => match y18 with | .inl y20 => some 1 | .inr y21 => some y21
set_option maxRecDepth 20000 in
theorem l_X12_doAgree_12 (r0 : List va_E) (r1 : List va_E) (r2 : List va_E) (r3 : List va_E) (r4 : List va_E) (r5 : List va_E) (r6 : List va_E) (s7 : zZ) (r8 : List va_E) (r9 : List va_E) (set : Int) (a : Int) {r : Option Value} {hp1 : xH} : ∀ (uN : Nat) (b : Int) {uX : Sum (Int) (Int)}, d_X12_doAgree_12 s7 set a uN b = some uX → ((∀ uY, uX = .inl uY → xBody MX12_doAgree 1 50 [some (.ref 7168), some (.int (zI set)), some (.int (zI a)), some (.int (zI uY))] [] ([r0, r1, r2, r3, r4, r5, r6, zH s7 zL7 0, r8, r9]) r hp1) ∧ (∀ uW, uX = .inr uW → r = some (.int (zI uW)) ∧ hp1 = [r0, r1, r2, r3, r4, r5, r6, zH s7 zL7 0, r8, r9])) → xBody MX12_doAgree 1 12 [some (.ref 7168), some (.int (zI set)), some (.int (zI a)), some (.int (zI b))] [] ([r0, r1, r2, r3, r4, r5, r6, zH s7 zL7 0, r8, r9]) r hp1 := by
  intro uN
  induction uN with
  | zero => intro b uX H K; cases H
  | succ uN ih =>
    intro b uX H K
    unfold d_X12_doAgree_12 at H
    refine xB.run oX12_doAgree 3 (s := (17, [some (.ref 7168), some (.int (zI set)), some (.int (zI a)), some (.int (zI b))], [.int (zI (s7 0 39)), .int (zI b)], [r0, r1, r2, r3, r4, r5, r6, zH s7 zL7 0, r8, r9])) rfl ?_
    obtain ⟨g12, H⟩ := zgd H
    have H := zif H
    refine xB.brE oX12_doAgree (P := (s7 0 39) ≤ b) rfl (zc_ge (a := b) (b := s7 0 39) g12) (fun h2 => ?_) (fun h2 => ?_)
    · have H := H.1 h2
      obtain rfl := Option.some.inj H
      exact K.1 _ rfl
    · have H := H.2 h2
      refine xB.run oX12_doAgree 2 (s := (22, [some (.ref 7168), some (.int (zI set)), some (.int (zI a)), some (.int (zI b))], [.int (zI a), .int (zI set)], [r0, r1, r2, r3, r4, r5, r6, zH s7 zL7 0, r8, r9])) rfl ?_
      obtain ⟨g11, H⟩ := zgd H
      refine zB.opi oX12_doAgree rfl (zi_shr (c := a) g11.1 g11.2) ?_
      refine xB.run oX12_doAgree 2 (s := (25, [some (.ref 7168), some (.int (zI set)), some (.int (zI a)), some (.int (zI b))], [.int (zI b), .int (zI set), .int (zI (set / (2 : Int) ^ a.toNat))], [r0, r1, r2, r3, r4, r5, r6, zH s7 zL7 0, r8, r9])) rfl ?_
      obtain ⟨g10, H⟩ := zgd H
      refine zB.opi oX12_doAgree rfl (zi_shr (c := b) g10.1 g10.2) ?_
      obtain ⟨g9, H⟩ := zgd H
      refine zB.opi oX12_doAgree rfl (zi_and (a := set / (2 : Int) ^ a.toNat) (b := set / (2 : Int) ^ b.toNat) g9.1 g9.2) ?_
      refine xB.run oX12_doAgree 1 (s := (28, [some (.ref 7168), some (.int (zI set)), some (.int (zI a)), some (.int (zI b))], [.int (zI 1), .int (zI (((set / (2 : Int) ^ a.toNat).toNat &&& (set / (2 : Int) ^ b.toNat).toNat : Nat) : Int))], [r0, r1, r2, r3, r4, r5, r6, zH s7 zL7 0, r8, r9])) rfl ?_
      refine zB.opi oX12_doAgree rfl (zi_and1 (((set / (2 : Int) ^ a.toNat).toNat &&& (set / (2 : Int) ^ b.toNat).toNat : Nat) : Int)) ?_
      refine xB.run oX12_doAgree 1 (s := (30, [some (.ref 7168), some (.int (zI set)), some (.int (zI a)), some (.int (zI b))], [.int (zI 1), .int (zI ((((set / (2 : Int) ^ a.toNat).toNat &&& (set / (2 : Int) ^ b.toNat).toNat : Nat) : Int) % 2))], [r0, r1, r2, r3, r4, r5, r6, zH s7 zL7 0, r8, r9])) rfl ?_
      obtain ⟨g8, H⟩ := zgd H
      have H := zif H
      refine xB.brE oX12_doAgree (P := ((((set / (2 : Int) ^ a.toNat).toNat &&& (set / (2 : Int) ^ b.toNat).toNat : Nat) : Int) % 2) ≠ 1) rfl (zc_ne (a := (((set / (2 : Int) ^ a.toNat).toNat &&& (set / (2 : Int) ^ b.toNat).toNat : Nat) : Int) % 2) (b := 1) ⟨g8, by decide⟩) (fun h3 => ?_) (fun h3 => ?_)
      · have H := H.1 h3
        refine zB.inc oX12_doAgree rfl (lv2 := [some (.ref 7168), some (.int (zI set)), some (.int (zI a)), some (.int (zI (b + 1)))]) (zi_inc (a := 0) (zi_addp1 b) _ rfl) ?_
        refine xB.run oX12_doAgree 1 (s := (12, [some (.ref 7168), some (.int (zI set)), some (.int (zI a)), some (.int (zI (b + 1)))], [], [r0, r1, r2, r3, r4, r5, r6, zH s7 zL7 0, r8, r9])) rfl ?_
        exact ih (b + 1) H K
      · have H := H.2 h3
        refine xB.run oX12_doAgree 3 (s := (36, [some (.ref 7168), some (.int (zI set)), some (.int (zI a)), some (.int (zI b))], [.int (zI b), .int (zI a), .ref 7168], [r0, r1, r2, r3, r4, r5, r6, zH s7 zL7 0, r8, r9])) rfl ?_
        obtain ⟨y4, e5, H⟩ := zbd H
        refine xB.call oX12_doAgree (M2 := MX12_isAbove) rfl rfl ((t_X12_isAbove r0 r1 r2 r3 r4 r5 r6 s7 r8 r9 a b e5).deep (by decide : 0 ≤ 0)) ?_
        show xBody MX12_doAgree 1 39 [some (.ref 7168), some (.int (zI set)), some (.int (zI a)), some (.int (zI b))] [.int (zI y4)] ([r0, r1, r2, r3, r4, r5, r6, zH s7 zL7 0, r8, r9]) _ _
        obtain ⟨g7, H⟩ := zgd H
        have H := zif H
        refine xB.brE oX12_doAgree (P := y4 = 0) rfl (zc_eq (a := y4) (b := 0) ⟨g7, by decide⟩) (fun h6 => ?_) (fun h6 => ?_)
        · have H := H.1 h6
          refine zB.inc oX12_doAgree rfl (lv2 := [some (.ref 7168), some (.int (zI set)), some (.int (zI a)), some (.int (zI (b + 1)))]) (zi_inc (a := 0) (zi_addp1 b) _ rfl) ?_
          refine xB.run oX12_doAgree 1 (s := (12, [some (.ref 7168), some (.int (zI set)), some (.int (zI a)), some (.int (zI (b + 1)))], [], [r0, r1, r2, r3, r4, r5, r6, zH s7 zL7 0, r8, r9])) rfl ?_
          exact ih (b + 1) H K
        · have H := H.2 h6
          refine xB.run oX12_doAgree 1 (s := (43, [some (.ref 7168), some (.int (zI set)), some (.int (zI a)), some (.int (zI b))], [.int (zI 0)], [r0, r1, r2, r3, r4, r5, r6, zH s7 zL7 0, r8, r9])) rfl ?_
          obtain rfl := Option.some.inj H
          obtain ⟨kr, kh⟩ := K.2 _ rfl
          subst kr kh
          exact xB.ret oX12_doAgree (r1 := some (.int (zI 0))) rfl rfl rfl
set_option maxRecDepth 20000 in
theorem l_X12_doAgree_2 (r0 : List va_E) (r1 : List va_E) (r2 : List va_E) (r3 : List va_E) (r4 : List va_E) (r5 : List va_E) (r6 : List va_E) (s7 : zZ) (r8 : List va_E) (r9 : List va_E) (set : Int) {r : Option Value} {hp1 : xH} : ∀ (uN : Nat) (a : Int) {uX : Sum (Int) (Int)}, d_X12_doAgree_2 s7 set uN a = some uX → ((∀ uY, uX = .inl uY → xBody MX12_doAgree 1 56 [some (.ref 7168), some (.int (zI set)), some (.int (zI uY)), none] [] ([r0, r1, r2, r3, r4, r5, r6, zH s7 zL7 0, r8, r9]) r hp1) ∧ (∀ uW, uX = .inr uW → r = some (.int (zI uW)) ∧ hp1 = [r0, r1, r2, r3, r4, r5, r6, zH s7 zL7 0, r8, r9])) → xBody MX12_doAgree 1 2 [some (.ref 7168), some (.int (zI set)), some (.int (zI a)), none] [] ([r0, r1, r2, r3, r4, r5, r6, zH s7 zL7 0, r8, r9]) r hp1 := by
  intro uN
  induction uN with
  | zero => intro a uX H K; cases H
  | succ uN ih =>
    intro a uX H K
    unfold d_X12_doAgree_2 at H
    refine xB.run oX12_doAgree 3 (s := (7, [some (.ref 7168), some (.int (zI set)), some (.int (zI a)), none], [.int (zI (s7 0 39)), .int (zI a)], [r0, r1, r2, r3, r4, r5, r6, zH s7 zL7 0, r8, r9])) rfl ?_
    obtain ⟨g17, H⟩ := zgd H
    have H := zif H
    refine xB.brE oX12_doAgree (P := (s7 0 39) ≤ a) rfl (zc_ge (a := a) (b := s7 0 39) g17) (fun h1 => ?_) (fun h1 => ?_)
    · have H := H.1 h1
      obtain rfl := Option.some.inj H
      exact K.1 _ rfl
    · have H := H.2 h1
      refine xB.run oX12_doAgree 2 (s := (12, [some (.ref 7168), some (.int (zI set)), some (.int (zI a)), some (.int (zI 0))], [], [r0, r1, r2, r3, r4, r5, r6, zH s7 zL7 0, r8, r9])) rfl ?_
      obtain ⟨y13, e14, H⟩ := zbd H
      refine l_X12_doAgree_12 r0 r1 r2 r3 r4 r5 r6 s7 r8 r9 set a _ 0 e14 ?_
      refine ⟨fun y15 uQ => ?_, fun y16 uQ => ?_⟩
      · subst uQ
        refine zB.inc oX12_doAgree rfl (lv2 := [some (.ref 7168), some (.int (zI set)), some (.int (zI (a + 1))), some (.int (zI y15))]) (zi_inc (a := 0) (zi_addp1 a) _ rfl) ?_
        refine xB.run oX12_doAgree 1 (s := (2, [some (.ref 7168), some (.int (zI set)), some (.int (zI (a + 1))), some (.int (zI y15))], [], [r0, r1, r2, r3, r4, r5, r6, zH s7 zL7 0, r8, r9])) rfl ?_
        refine xB.forget (lv1 := [some (.ref 7168), some (.int (zI set)), some (.int (zI (a + 1))), none]) (xle_same (xle_same (xle_same (xle_none (xle_nil))))) ?_
        exact ih (a + 1) H K
      · subst uQ
        obtain rfl := Option.some.inj H
        exact K.2 _ rfl
set_option maxRecDepth 20000 in
theorem t_X12_doAgree (r0 : List va_E) (r1 : List va_E) (r2 : List va_E) (r3 : List va_E) (r4 : List va_E) (r5 : List va_E) (r6 : List va_E) (s7 : zZ) (r8 : List va_E) (r9 : List va_E) (set : Int) {rr : Int} (H : d_X12_doAgree s7 set = some rr) : xC MX12_doAgree 1 [.ref 7168, .int (zI set)] ([r0, r1, r2, r3, r4, r5, r6, zH s7 zL7 0, r8, r9]) (some (.int (zI rr))) ([r0, r1, r2, r3, r4, r5, r6, zH s7 zL7 0, r8, r9]) := by
  refine ⟨Nat.le_of_ble_eq_true rfl, ?_⟩
  show xBody MX12_doAgree 1 0 [some (.ref 7168), some (.int (zI set)), none, none] [] ([r0, r1, r2, r3, r4, r5, r6, zH s7 zL7 0, r8, r9]) _ _
  unfold d_X12_doAgree at H
  refine xB.run oX12_doAgree 2 (s := (2, [some (.ref 7168), some (.int (zI set)), some (.int (zI 0)), none], [], [r0, r1, r2, r3, r4, r5, r6, zH s7 zL7 0, r8, r9])) rfl ?_
  obtain ⟨y18, e19, H⟩ := zbd H
  refine l_X12_doAgree_2 r0 r1 r2 r3 r4 r5 r6 s7 r8 r9 set _ 0 e19 ?_
  refine ⟨fun y20 uQ => ?_, fun y21 uQ => ?_⟩
  · subst uQ
    refine xB.run oX12_doAgree 1 (s := (57, [some (.ref 7168), some (.int (zI set)), some (.int (zI y20)), none], [.int (zI 1)], [r0, r1, r2, r3, r4, r5, r6, zH s7 zL7 0, r8, r9])) rfl ?_
    obtain rfl := Option.some.inj H
    exact xB.ret oX12_doAgree (r1 := some (.int (zI 1))) rfl rfl rfl
  · subst uQ
    obtain rfl := Option.some.inj H
    exact ⟨rfl, rfl⟩
def d_X12_quarrel (s7 : zZ) (a : Int) (b : Int) : Option (Int) := (d_X12_isSight s7 a).bind fun y1 => if (zr y1) then (if y1 = 0 then some (-1) else ((d_X12_isSight s7 b).bind fun y4 => if (zr y4) then (if y4 ≠ 0 then ((d_X12_isAbove s7 a b).bind fun y7 => if (zr y7) then (if y7 ≠ 0 then some 1 else ((d_X12_isAbove s7 b a).bind fun y10 => if (zr y10) then (if y10 = 0 then some 0 else some 1) else none)) else none) else some (-1)) else none)) else none
set_option maxRecDepth 20000 in
theorem t_X12_quarrel (r0 : List va_E) (r1 : List va_E) (r2 : List va_E) (r3 : List va_E) (r4 : List va_E) (r5 : List va_E) (r6 : List va_E) (s7 : zZ) (r8 : List va_E) (r9 : List va_E) (a : Int) (b : Int) {rr : Int} (H : d_X12_quarrel s7 a b = some rr) : xC MX12_quarrel 1 [.ref 7168, .int (zI a), .int (zI b)] ([r0, r1, r2, r3, r4, r5, r6, zH s7 zL7 0, r8, r9]) (some (.int (zI rr))) ([r0, r1, r2, r3, r4, r5, r6, zH s7 zL7 0, r8, r9]) := by
  refine ⟨Nat.le_of_ble_eq_true rfl, ?_⟩
  show xBody MX12_quarrel 1 0 [some (.ref 7168), some (.int (zI a)), some (.int (zI b))] [] ([r0, r1, r2, r3, r4, r5, r6, zH s7 zL7 0, r8, r9]) _ _
  unfold d_X12_quarrel at H
  refine xB.run oX12_quarrel 2 (s := (2, [some (.ref 7168), some (.int (zI a)), some (.int (zI b))], [.int (zI a), .ref 7168], [r0, r1, r2, r3, r4, r5, r6, zH s7 zL7 0, r8, r9])) rfl ?_
  obtain ⟨y1, e2, H⟩ := zbd H
  refine xB.call oX12_quarrel (M2 := MX12_isSight) rfl rfl ((t_X12_isSight r0 r1 r2 r3 r4 r5 r6 s7 r8 r9 a e2).deep (by decide : 0 ≤ 0)) ?_
  show xBody MX12_quarrel 1 5 [some (.ref 7168), some (.int (zI a)), some (.int (zI b))] [.int (zI y1)] ([r0, r1, r2, r3, r4, r5, r6, zH s7 zL7 0, r8, r9]) _ _
  obtain ⟨g16, H⟩ := zgd H
  have H := zif H
  refine xB.brE oX12_quarrel (P := y1 = 0) rfl (zc_eq (a := y1) (b := 0) ⟨g16, by decide⟩) (fun h3 => ?_) (fun h3 => ?_)
  · have H := H.1 h3
    refine xB.run oX12_quarrel 1 (s := (17, [some (.ref 7168), some (.int (zI a)), some (.int (zI b))], [.int (zI (-1))], [r0, r1, r2, r3, r4, r5, r6, zH s7 zL7 0, r8, r9])) rfl ?_
    obtain rfl := Option.some.inj H
    exact xB.ret oX12_quarrel (r1 := some (.int (zI (-1)))) rfl rfl rfl
  · have H := H.2 h3
    refine xB.run oX12_quarrel 2 (s := (10, [some (.ref 7168), some (.int (zI a)), some (.int (zI b))], [.int (zI b), .ref 7168], [r0, r1, r2, r3, r4, r5, r6, zH s7 zL7 0, r8, r9])) rfl ?_
    obtain ⟨y4, e5, H⟩ := zbd H
    refine xB.call oX12_quarrel (M2 := MX12_isSight) rfl rfl ((t_X12_isSight r0 r1 r2 r3 r4 r5 r6 s7 r8 r9 b e5).deep (by decide : 0 ≤ 0)) ?_
    show xBody MX12_quarrel 1 13 [some (.ref 7168), some (.int (zI a)), some (.int (zI b))] [.int (zI y4)] ([r0, r1, r2, r3, r4, r5, r6, zH s7 zL7 0, r8, r9]) _ _
    obtain ⟨g15, H⟩ := zgd H
    have H := zif H
    refine xB.brE oX12_quarrel (P := y4 ≠ 0) rfl (zc_ne (a := y4) (b := 0) ⟨g15, by decide⟩) (fun h6 => ?_) (fun h6 => ?_)
    · have H := H.1 h6
      refine xB.run oX12_quarrel 3 (s := (21, [some (.ref 7168), some (.int (zI a)), some (.int (zI b))], [.int (zI b), .int (zI a), .ref 7168], [r0, r1, r2, r3, r4, r5, r6, zH s7 zL7 0, r8, r9])) rfl ?_
      obtain ⟨y7, e8, H⟩ := zbd H
      refine xB.call oX12_quarrel (M2 := MX12_isAbove) rfl rfl ((t_X12_isAbove r0 r1 r2 r3 r4 r5 r6 s7 r8 r9 a b e8).deep (by decide : 0 ≤ 0)) ?_
      show xBody MX12_quarrel 1 24 [some (.ref 7168), some (.int (zI a)), some (.int (zI b))] [.int (zI y7)] ([r0, r1, r2, r3, r4, r5, r6, zH s7 zL7 0, r8, r9]) _ _
      obtain ⟨g14, H⟩ := zgd H
      have H := zif H
      refine xB.brE oX12_quarrel (P := y7 ≠ 0) rfl (zc_ne (a := y7) (b := 0) ⟨g14, by decide⟩) (fun h9 => ?_) (fun h9 => ?_)
      · have H := H.1 h9
        refine xB.run oX12_quarrel 2 (s := (41, [some (.ref 7168), some (.int (zI a)), some (.int (zI b))], [.int (zI 1)], [r0, r1, r2, r3, r4, r5, r6, zH s7 zL7 0, r8, r9])) rfl ?_
        obtain rfl := Option.some.inj H
        exact xB.ret oX12_quarrel (r1 := some (.int (zI 1))) rfl rfl rfl
      · have H := H.2 h9
        refine xB.run oX12_quarrel 3 (s := (30, [some (.ref 7168), some (.int (zI a)), some (.int (zI b))], [.int (zI a), .int (zI b), .ref 7168], [r0, r1, r2, r3, r4, r5, r6, zH s7 zL7 0, r8, r9])) rfl ?_
        obtain ⟨y10, e11, H⟩ := zbd H
        refine xB.call oX12_quarrel (M2 := MX12_isAbove) rfl rfl ((t_X12_isAbove r0 r1 r2 r3 r4 r5 r6 s7 r8 r9 b a e11).deep (by decide : 0 ≤ 0)) ?_
        show xBody MX12_quarrel 1 33 [some (.ref 7168), some (.int (zI a)), some (.int (zI b))] [.int (zI y10)] ([r0, r1, r2, r3, r4, r5, r6, zH s7 zL7 0, r8, r9]) _ _
        obtain ⟨g13, H⟩ := zgd H
        have H := zif H
        refine xB.brE oX12_quarrel (P := y10 = 0) rfl (zc_eq (a := y10) (b := 0) ⟨g13, by decide⟩) (fun h12 => ?_) (fun h12 => ?_)
        · have H := H.1 h12
          refine xB.run oX12_quarrel 1 (s := (41, [some (.ref 7168), some (.int (zI a)), some (.int (zI b))], [.int (zI 0)], [r0, r1, r2, r3, r4, r5, r6, zH s7 zL7 0, r8, r9])) rfl ?_
          obtain rfl := Option.some.inj H
          exact xB.ret oX12_quarrel (r1 := some (.int (zI 0))) rfl rfl rfl
        · have H := H.2 h12
          refine xB.run oX12_quarrel 2 (s := (41, [some (.ref 7168), some (.int (zI a)), some (.int (zI b))], [.int (zI 1)], [r0, r1, r2, r3, r4, r5, r6, zH s7 zL7 0, r8, r9])) rfl ?_
          obtain rfl := Option.some.inj H
          exact xB.ret oX12_quarrel (r1 := some (.int (zI 1))) rfl rfl rfl
    · have H := H.2 h6
      refine xB.run oX12_quarrel 1 (s := (17, [some (.ref 7168), some (.int (zI a)), some (.int (zI b))], [.int (zI (-1))], [r0, r1, r2, r3, r4, r5, r6, zH s7 zL7 0, r8, r9])) rfl ?_
      obtain rfl := Option.some.inj H
      exact xB.ret oX12_quarrel (r1 := some (.int (zI (-1)))) rfl rfl rfl
def d_X12_most_4 (s7 : zZ) : Nat → Int → Int → Option (Int × Int)
  | 0, _, _ => none
  | uN + 1, best, set => if (0 ≤ (s7 0 39) ∧ (s7 0 39) < 32) then (if (zr set ∧ zr ((2 : Int) ^ (s7 0 39).toNat)) then (if ((2 : Int) ^ (s7 0 39).toNat) ≤ set then some (best, set) else ((d_X12_bitsOf set).bind fun y2 => (d_X12_bitsOf best).bind fun y4 => if (zr y2 ∧ zr y4) then (if y2 ≤ y4 then (d_X12_most_4 s7 uN best (set + 1)) else ((d_X12_doAgree s7 set).bind fun y7 => if (zr y7) then (if y7 = 0 then (d_X12_most_4 s7 uN best (set + 1)) else (d_X12_most_4 s7 uN set (set + 1))) else none)) else none)) else none) else none
def d_X12_most (s7 : zZ) : Option (Int) := (d_X12_most_4 s7 zF 0 1).bind fun y14 => some y14.1
set_option maxRecDepth 20000 in
theorem l_X12_most_4 (r0 : List va_E) (r1 : List va_E) (r2 : List va_E) (r3 : List va_E) (r4 : List va_E) (r5 : List va_E) (r6 : List va_E) (s7 : zZ) (r8 : List va_E) (r9 : List va_E) {r : Option Value} {hp1 : xH} : ∀ (uN : Nat) (best : Int) (set : Int) {uX : Int × Int}, d_X12_most_4 s7 uN best set = some uX → (xBody MX12_most 2 41 [some (.ref 7168), some (.int (zI uX.1)), some (.int (zI uX.2))] [] ([r0, r1, r2, r3, r4, r5, r6, zH s7 zL7 0, r8, r9]) r hp1) → xBody MX12_most 2 4 [some (.ref 7168), some (.int (zI best)), some (.int (zI set))] [] ([r0, r1, r2, r3, r4, r5, r6, zH s7 zL7 0, r8, r9]) r hp1 := by
  intro uN
  induction uN with
  | zero => intro best set uX H K; cases H
  | succ uN ih =>
    intro best set uX H K
    unfold d_X12_most_4 at H
    refine xB.run oX12_most 4 (s := (10, [some (.ref 7168), some (.int (zI best)), some (.int (zI set))], [.int (zI (s7 0 39)), .int (zI 1), .int (zI set)], [r0, r1, r2, r3, r4, r5, r6, zH s7 zL7 0, r8, r9])) rfl ?_
    obtain ⟨g13, H⟩ := zgd H
    refine zB.opi oX12_most (y := (2 : Int) ^ (s7 0 39).toNat) rfl (zi_shl1 (c := s7 0 39) g13) ?_
    obtain ⟨g12, H⟩ := zgd H
    have H := zif H
    refine xB.brE oX12_most (P := ((2 : Int) ^ (s7 0 39).toNat) ≤ set) rfl (zc_ge (a := set) (b := (2 : Int) ^ (s7 0 39).toNat) g12) (fun h1 => ?_) (fun h1 => ?_)
    · have H := H.1 h1
      obtain rfl := Option.some.inj H
      exact K
    · have H := H.2 h1
      refine xB.run oX12_most 1 (s := (15, [some (.ref 7168), some (.int (zI best)), some (.int (zI set))], [.int (zI set)], [r0, r1, r2, r3, r4, r5, r6, zH s7 zL7 0, r8, r9])) rfl ?_
      obtain ⟨y2, e3, H⟩ := zbd H
      refine xB.call oX12_most (M2 := MX12_bitsOf) rfl rfl ((t_X12_bitsOf r0 r1 r2 r3 r4 r5 r6 (zH s7 zL7 0) r8 r9 set e3).deep (by decide : 0 ≤ 1)) ?_
      show xBody MX12_most 2 18 [some (.ref 7168), some (.int (zI best)), some (.int (zI set))] [.int (zI y2)] ([r0, r1, r2, r3, r4, r5, r6, zH s7 zL7 0, r8, r9]) _ _
      refine xB.run oX12_most 1 (s := (19, [some (.ref 7168), some (.int (zI best)), some (.int (zI set))], [.int (zI best), .int (zI y2)], [r0, r1, r2, r3, r4, r5, r6, zH s7 zL7 0, r8, r9])) rfl ?_
      obtain ⟨y4, e5, H⟩ := zbd H
      refine xB.call oX12_most (M2 := MX12_bitsOf) rfl rfl ((t_X12_bitsOf r0 r1 r2 r3 r4 r5 r6 (zH s7 zL7 0) r8 r9 best e5).deep (by decide : 0 ≤ 1)) ?_
      show xBody MX12_most 2 22 [some (.ref 7168), some (.int (zI best)), some (.int (zI set))] [.int (zI y4), .int (zI y2)] ([r0, r1, r2, r3, r4, r5, r6, zH s7 zL7 0, r8, r9]) _ _
      obtain ⟨g11, H⟩ := zgd H
      have H := zif H
      refine xB.brE oX12_most (P := y2 ≤ y4) rfl (zc_le (a := y2) (b := y4) g11) (fun h6 => ?_) (fun h6 => ?_)
      · have H := H.1 h6
        refine zB.inc oX12_most rfl (lv2 := [some (.ref 7168), some (.int (zI best)), some (.int (zI (set + 1)))]) (zi_inc (a := 0) (zi_addp1 set) _ rfl) ?_
        refine xB.run oX12_most 1 (s := (4, [some (.ref 7168), some (.int (zI best)), some (.int (zI (set + 1)))], [], [r0, r1, r2, r3, r4, r5, r6, zH s7 zL7 0, r8, r9])) rfl ?_
        exact ih best (set + 1) H K
      · have H := H.2 h6
        refine xB.run oX12_most 2 (s := (27, [some (.ref 7168), some (.int (zI best)), some (.int (zI set))], [.int (zI set), .ref 7168], [r0, r1, r2, r3, r4, r5, r6, zH s7 zL7 0, r8, r9])) rfl ?_
        obtain ⟨y7, e8, H⟩ := zbd H
        refine xB.call oX12_most (M2 := MX12_doAgree) rfl rfl ((t_X12_doAgree r0 r1 r2 r3 r4 r5 r6 s7 r8 r9 set e8).deep (by decide : 1 ≤ 1)) ?_
        show xBody MX12_most 2 30 [some (.ref 7168), some (.int (zI best)), some (.int (zI set))] [.int (zI y7)] ([r0, r1, r2, r3, r4, r5, r6, zH s7 zL7 0, r8, r9]) _ _
        obtain ⟨g10, H⟩ := zgd H
        have H := zif H
        refine xB.brE oX12_most (P := y7 = 0) rfl (zc_eq (a := y7) (b := 0) ⟨g10, by decide⟩) (fun h9 => ?_) (fun h9 => ?_)
        · have H := H.1 h9
          refine zB.inc oX12_most rfl (lv2 := [some (.ref 7168), some (.int (zI best)), some (.int (zI (set + 1)))]) (zi_inc (a := 0) (zi_addp1 set) _ rfl) ?_
          refine xB.run oX12_most 1 (s := (4, [some (.ref 7168), some (.int (zI best)), some (.int (zI (set + 1)))], [], [r0, r1, r2, r3, r4, r5, r6, zH s7 zL7 0, r8, r9])) rfl ?_
          exact ih best (set + 1) H K
        · have H := H.2 h9
          refine xB.run oX12_most 2 (s := (35, [some (.ref 7168), some (.int (zI set)), some (.int (zI set))], [], [r0, r1, r2, r3, r4, r5, r6, zH s7 zL7 0, r8, r9])) rfl ?_
          refine zB.inc oX12_most rfl (lv2 := [some (.ref 7168), some (.int (zI set)), some (.int (zI (set + 1)))]) (zi_inc (a := 0) (zi_addp1 set) _ rfl) ?_
          refine xB.run oX12_most 1 (s := (4, [some (.ref 7168), some (.int (zI set)), some (.int (zI (set + 1)))], [], [r0, r1, r2, r3, r4, r5, r6, zH s7 zL7 0, r8, r9])) rfl ?_
          exact ih set (set + 1) H K
set_option maxRecDepth 20000 in
theorem t_X12_most (r0 : List va_E) (r1 : List va_E) (r2 : List va_E) (r3 : List va_E) (r4 : List va_E) (r5 : List va_E) (r6 : List va_E) (s7 : zZ) (r8 : List va_E) (r9 : List va_E) {rr : Int} (H : d_X12_most s7 = some rr) : xC MX12_most 2 [.ref 7168] ([r0, r1, r2, r3, r4, r5, r6, zH s7 zL7 0, r8, r9]) (some (.int (zI rr))) ([r0, r1, r2, r3, r4, r5, r6, zH s7 zL7 0, r8, r9]) := by
  refine ⟨Nat.le_of_ble_eq_true rfl, ?_⟩
  show xBody MX12_most 2 0 [some (.ref 7168), none, none] [] ([r0, r1, r2, r3, r4, r5, r6, zH s7 zL7 0, r8, r9]) _ _
  unfold d_X12_most at H
  refine xB.run oX12_most 4 (s := (4, [some (.ref 7168), some (.int (zI 0)), some (.int (zI 1))], [], [r0, r1, r2, r3, r4, r5, r6, zH s7 zL7 0, r8, r9])) rfl ?_
  obtain ⟨y14, e15, H⟩ := zbd H
  refine l_X12_most_4 r0 r1 r2 r3 r4 r5 r6 s7 r8 r9  _ 0 1 e15 ?_
  refine xB.run oX12_most 1 (s := (42, [some (.ref 7168), some (.int (zI y14.1)), some (.int (zI y14.2))], [.int (zI y14.1)], [r0, r1, r2, r3, r4, r5, r6, zH s7 zL7 0, r8, r9])) rfl ?_
  obtain rfl := Option.some.inj H
  exact xB.ret oX12_most (r1 := some (.int (zI y14.1))) rfl rfl rfl
def d_X12_span_58 (s7 : zZ) (set : Int) (en : Int) (wh : Int) : Nat → Int → Int → Int → Option (Int × Int × Int)
  | 0, _, _, _ => none
  | uN + 1, up, dn, a => if (zr a ∧ zr (s7 0 39)) then (if (s7 0 39) ≤ a then some (up, dn, a) else (if (zr set ∧ (0 ≤ a ∧ a < 32)) then (if (zr ((set / (2 : Int) ^ a.toNat) % 2)) then (if ((set / (2 : Int) ^ a.toNat) % 2) ≠ 0 then (if (zr en) then (if en ≠ 0 then (if (0 ≤ a ∧ a < 12) then (if zr (s7 31 a.toNat) then (if (zrl dn) then (if dn = 0 then (if (0 ≤ a ∧ a < 12) then (if zr (s7 29 a.toNat) then (d_X12_span_58 s7 set en wh uN (s7 31 a.toNat) (s7 29 a.toNat) (a + 1)) else none) else none) else (if (zr en) then (if en ≠ 0 then (if (0 ≤ a ∧ a < 12) then (if zr (s7 29 a.toNat) then (if (zrl ((s7 31 a.toNat) * dn) ∧ zrl (up * (s7 29 a.toNat))) then (if (up * (s7 29 a.toNat)) ≤ ((s7 31 a.toNat) * dn) then (d_X12_span_58 s7 set en wh uN up dn (a + 1)) else (if (0 ≤ a ∧ a < 12) then (if zr (s7 29 a.toNat) then (d_X12_span_58 s7 set en wh uN (s7 31 a.toNat) (s7 29 a.toNat) (a + 1)) else none) else none)) else none) else none) else none) else (if (0 ≤ a ∧ a < 12) then (if zr (s7 29 a.toNat) then (if (zrl ((s7 31 a.toNat) * dn) ∧ zrl (up * (s7 29 a.toNat))) then (if ((s7 31 a.toNat) * dn) ≤ (up * (s7 29 a.toNat)) then (d_X12_span_58 s7 set en wh uN up dn (a + 1)) else (if (0 ≤ a ∧ a < 12) then (if zr (s7 29 a.toNat) then (d_X12_span_58 s7 set en wh uN (s7 31 a.toNat) (s7 29 a.toNat) (a + 1)) else none) else none)) else none) else none) else none)) else none)) else none) else none) else none) else (if (0 ≤ a ∧ a < 12) then (if zr (s7 30 a.toNat) then (if (zrl dn) then (if dn = 0 then (if (0 ≤ a ∧ a < 12) then (if zr (s7 29 a.toNat) then (d_X12_span_58 s7 set en wh uN (s7 30 a.toNat) (s7 29 a.toNat) (a + 1)) else none) else none) else (if (zr en) then (if en ≠ 0 then (if (0 ≤ a ∧ a < 12) then (if zr (s7 29 a.toNat) then (if (zrl ((s7 30 a.toNat) * dn) ∧ zrl (up * (s7 29 a.toNat))) then (if (up * (s7 29 a.toNat)) ≤ ((s7 30 a.toNat) * dn) then (d_X12_span_58 s7 set en wh uN up dn (a + 1)) else (if (0 ≤ a ∧ a < 12) then (if zr (s7 29 a.toNat) then (d_X12_span_58 s7 set en wh uN (s7 30 a.toNat) (s7 29 a.toNat) (a + 1)) else none) else none)) else none) else none) else none) else (if (0 ≤ a ∧ a < 12) then (if zr (s7 29 a.toNat) then (if (zrl ((s7 30 a.toNat) * dn) ∧ zrl (up * (s7 29 a.toNat))) then (if ((s7 30 a.toNat) * dn) ≤ (up * (s7 29 a.toNat)) then (d_X12_span_58 s7 set en wh uN up dn (a + 1)) else (if (0 ≤ a ∧ a < 12) then (if zr (s7 29 a.toNat) then (d_X12_span_58 s7 set en wh uN (s7 30 a.toNat) (s7 29 a.toNat) (a + 1)) else none) else none)) else none) else none) else none)) else none)) else none) else none) else none)) else none) else (d_X12_span_58 s7 set en wh uN up dn (a + 1))) else none) else none)) else none
def d_X12_span (s7 : zZ) (set : Int) (en : Int) (wh : Int) : Option (Int) := if zr set then (if (0 ≤ (s7 0 39) ∧ (s7 0 39) < 64) then ((d_X12_within set 1 (((2 : Int) ^ (s7 0 39).toNat) - 1)).bind fun y1 => if (zr y1) then (if y1 = 0 then some (-9223372036854775808) else (if zr en then ((d_X12_within en 0 1).bind fun y4 => if (zr y4) then (if y4 = 0 then some (-9223372036854775808) else (if zr wh then ((d_X12_within wh 0 1).bind fun y7 => if (zr y7) then (if y7 = 0 then some (-9223372036854775808) else ((d_X12_doAgree s7 set).bind fun y10 => if (zr y10) then (if y10 ≠ 0 then ((d_X12_span_58 s7 set en wh zF 0 0 0).bind fun y60 => (d_X12_part y60.1 y60.2.1 wh).bind fun y62 => some y62) else some (-9223372036854775808)) else none)) else none) else none)) else none) else none)) else none) else none) else none
set_option maxRecDepth 20000 in
theorem l_X12_span_58 (r0 : List va_E) (r1 : List va_E) (r2 : List va_E) (r3 : List va_E) (r4 : List va_E) (r5 : List va_E) (r6 : List va_E) (s7 : zZ) (r8 : List va_E) (r9 : List va_E) (set : Int) (en : Int) (wh : Int) {r : Option Value} {hp1 : xH} : ∀ (uN : Nat) (up : Int) (dn : Int) (a : Int) {uX : Int × Int × Int}, d_X12_span_58 s7 set en wh uN up dn a = some uX → (xBody MX12_span 3 205 [some (.ref 7168), some (.int (zI set)), some (.int (zI en)), some (.int (zI wh)), some (.long (zJ uX.1)), none, some (.long (zJ uX.2.1)), none, some (.int (zI uX.2.2)), none, none, none] [] ([r0, r1, r2, r3, r4, r5, r6, zH s7 zL7 0, r8, r9]) r hp1) → xBody MX12_span 3 58 [some (.ref 7168), some (.int (zI set)), some (.int (zI en)), some (.int (zI wh)), some (.long (zJ up)), none, some (.long (zJ dn)), none, some (.int (zI a)), none, none, none] [] ([r0, r1, r2, r3, r4, r5, r6, zH s7 zL7 0, r8, r9]) r hp1 := by
  intro uN
  induction uN with
  | zero => intro up dn a uX H K; cases H
  | succ uN ih =>
    intro up dn a uX H K
    unfold d_X12_span_58 at H
    refine xB.run oX12_span 3 (s := (64, [some (.ref 7168), some (.int (zI set)), some (.int (zI en)), some (.int (zI wh)), some (.long (zJ up)), none, some (.long (zJ dn)), none, some (.int (zI a)), none, none, none], [.int (zI (s7 0 39)), .int (zI a)], [r0, r1, r2, r3, r4, r5, r6, zH s7 zL7 0, r8, r9])) rfl ?_
    obtain ⟨g59, H⟩ := zgd H
    have H := zif H
    refine xB.brE oX12_span (P := (s7 0 39) ≤ a) rfl (zc_ge (a := a) (b := s7 0 39) g59) (fun h13 => ?_) (fun h13 => ?_)
    · have H := H.1 h13
      obtain rfl := Option.some.inj H
      exact K
    · have H := H.2 h13
      refine xB.run oX12_span 2 (s := (70, [some (.ref 7168), some (.int (zI set)), some (.int (zI en)), some (.int (zI wh)), some (.long (zJ up)), none, some (.long (zJ dn)), none, some (.int (zI a)), none, none, none], [.int (zI a), .int (zI set)], [r0, r1, r2, r3, r4, r5, r6, zH s7 zL7 0, r8, r9])) rfl ?_
      obtain ⟨g58, H⟩ := zgd H
      refine zB.opi oX12_span rfl (zi_shr (c := a) g58.1 g58.2) ?_
      refine xB.run oX12_span 1 (s := (72, [some (.ref 7168), some (.int (zI set)), some (.int (zI en)), some (.int (zI wh)), some (.long (zJ up)), none, some (.long (zJ dn)), none, some (.int (zI a)), none, none, none], [.int (zI 1), .int (zI (set / (2 : Int) ^ a.toNat))], [r0, r1, r2, r3, r4, r5, r6, zH s7 zL7 0, r8, r9])) rfl ?_
      refine zB.opi oX12_span rfl (zi_and1 (set / (2 : Int) ^ a.toNat)) ?_
      obtain ⟨g57, H⟩ := zgd H
      have H := zif H
      refine xB.brE oX12_span (P := ((set / (2 : Int) ^ a.toNat) % 2) ≠ 0) rfl (zc_ne (a := (set / (2 : Int) ^ a.toNat) % 2) (b := 0) ⟨g57, by decide⟩) (fun h14 => ?_) (fun h14 => ?_)
      · have H := H.1 h14
        refine xB.run oX12_span 1 (s := (80, [some (.ref 7168), some (.int (zI set)), some (.int (zI en)), some (.int (zI wh)), some (.long (zJ up)), none, some (.long (zJ dn)), none, some (.int (zI a)), none, none, none], [.int (zI en)], [r0, r1, r2, r3, r4, r5, r6, zH s7 zL7 0, r8, r9])) rfl ?_
        obtain ⟨g56, H⟩ := zgd H
        have H := zif H
        refine xB.brE oX12_span (P := en ≠ 0) rfl (zc_ne (a := en) (b := 0) ⟨g56, by decide⟩) (fun h15 => ?_) (fun h15 => ?_)
        · have H := H.1 h15
          refine xB.run oX12_span 3 (s := (100, [some (.ref 7168), some (.int (zI set)), some (.int (zI en)), some (.int (zI wh)), some (.long (zJ up)), none, some (.long (zJ dn)), none, some (.int (zI a)), none, none, none], [.int (zI a), .ref 7199], [r0, r1, r2, r3, r4, r5, r6, zH s7 zL7 0, r8, r9])) rfl ?_
          obtain ⟨g35, H⟩ := zgd H
          refine zB.iald oX12_span (g := 7) (p := 31) (N := 12) (i := a) rfl rfl (by decide) rfl rfl (by decide) g35 ?_
          obtain ⟨g34, H⟩ := zgd H
          refine zB.opl oX12_span rfl (zi_i2l g34) ?_
          refine xB.run oX12_span 4 (s := (108, [some (.ref 7168), some (.int (zI set)), some (.int (zI en)), some (.int (zI wh)), some (.long (zJ up)), none, some (.long (zJ dn)), none, some (.int (zI a)), some (.long (zJ (s7 31 a.toNat))), none, none], [.int (lg_cmp (zJ dn) (zJ 0))], [r0, r1, r2, r3, r4, r5, r6, zH s7 zL7 0, r8, r9])) rfl ?_
          obtain ⟨g33, H⟩ := zgd H
          have H := zif H
          refine xB.brE oX12_span (P := dn = 0) rfl (zl_eq (a := dn) (b := 0) ⟨g33, by decide⟩) (fun h16 => ?_) (fun h16 => ?_)
          · have H := H.1 h16
            refine xB.run oX12_span 13 (s := (190, [some (.ref 7168), some (.int (zI set)), some (.int (zI en)), some (.int (zI wh)), some (.long (zJ (s7 31 a.toNat))), none, some (.long (zJ dn)), none, some (.int (zI a)), some (.long (zJ (s7 31 a.toNat))), none, some (.int (zI 1))], [.int (zI a), .ref 7197], [r0, r1, r2, r3, r4, r5, r6, zH s7 zL7 0, r8, r9])) rfl ?_
            obtain ⟨g18, H⟩ := zgd H
            refine zB.iald oX12_span (g := 7) (p := 29) (N := 12) (i := a) rfl rfl (by decide) rfl rfl (by decide) g18 ?_
            obtain ⟨g17, H⟩ := zgd H
            refine zB.opl oX12_span rfl (zi_i2l g17) ?_
            refine xB.run oX12_span 2 (s := (199, [some (.ref 7168), some (.int (zI set)), some (.int (zI en)), some (.int (zI wh)), some (.long (zJ (s7 31 a.toNat))), none, some (.long (zJ (s7 29 a.toNat))), none, some (.int (zI a)), some (.long (zJ (s7 31 a.toNat))), none, some (.int (zI 1))], [], [r0, r1, r2, r3, r4, r5, r6, zH s7 zL7 0, r8, r9])) rfl ?_
            refine zB.inc oX12_span rfl (lv2 := [some (.ref 7168), some (.int (zI set)), some (.int (zI en)), some (.int (zI wh)), some (.long (zJ (s7 31 a.toNat))), none, some (.long (zJ (s7 29 a.toNat))), none, some (.int (zI (a + 1))), some (.long (zJ (s7 31 a.toNat))), none, some (.int (zI 1))]) (zi_inc (a := 0) (zi_addp1 a) _ rfl) ?_
            refine xB.run oX12_span 1 (s := (58, [some (.ref 7168), some (.int (zI set)), some (.int (zI en)), some (.int (zI wh)), some (.long (zJ (s7 31 a.toNat))), none, some (.long (zJ (s7 29 a.toNat))), none, some (.int (zI (a + 1))), some (.long (zJ (s7 31 a.toNat))), none, some (.int (zI 1))], [], [r0, r1, r2, r3, r4, r5, r6, zH s7 zL7 0, r8, r9])) rfl ?_
            refine xB.forget (lv1 := [some (.ref 7168), some (.int (zI set)), some (.int (zI en)), some (.int (zI wh)), some (.long (zJ (s7 31 a.toNat))), none, some (.long (zJ (s7 29 a.toNat))), none, some (.int (zI (a + 1))), none, none, none]) (xle_same (xle_same (xle_same (xle_same (xle_same (xle_same (xle_same (xle_same (xle_same (xle_none (xle_same (xle_none (xle_nil))))))))))))) ?_
            exact ih (s7 31 a.toNat) (s7 29 a.toNat) (a + 1) H K
          · have H := H.2 h16
            refine xB.run oX12_span 1 (s := (112, [some (.ref 7168), some (.int (zI set)), some (.int (zI en)), some (.int (zI wh)), some (.long (zJ up)), none, some (.long (zJ dn)), none, some (.int (zI a)), some (.long (zJ (s7 31 a.toNat))), none, none], [.int (zI en)], [r0, r1, r2, r3, r4, r5, r6, zH s7 zL7 0, r8, r9])) rfl ?_
            obtain ⟨g32, H⟩ := zgd H
            have H := zif H
            refine xB.brE oX12_span (P := en ≠ 0) rfl (zc_ne (a := en) (b := 0) ⟨g32, by decide⟩) (fun h19 => ?_) (fun h19 => ?_)
            · have H := H.1 h19
              refine xB.run oX12_span 2 (s := (142, [some (.ref 7168), some (.int (zI set)), some (.int (zI en)), some (.int (zI wh)), some (.long (zJ up)), none, some (.long (zJ dn)), none, some (.int (zI a)), some (.long (zJ (s7 31 a.toNat))), none, none], [.long (zJ dn), .long (zJ (s7 31 a.toNat))], [r0, r1, r2, r3, r4, r5, r6, zH s7 zL7 0, r8, r9])) rfl ?_
              refine zB.opl oX12_span rfl (zj_mul (s7 31 a.toNat) dn) ?_
              refine xB.run oX12_span 4 (s := (151, [some (.ref 7168), some (.int (zI set)), some (.int (zI en)), some (.int (zI wh)), some (.long (zJ up)), none, some (.long (zJ dn)), none, some (.int (zI a)), some (.long (zJ (s7 31 a.toNat))), none, none], [.int (zI a), .ref 7197, .long (zJ up), .long (zJ ((s7 31 a.toNat) * dn))], [r0, r1, r2, r3, r4, r5, r6, zH s7 zL7 0, r8, r9])) rfl ?_
              obtain ⟨g25, H⟩ := zgd H
              refine zB.iald oX12_span (g := 7) (p := 29) (N := 12) (i := a) rfl rfl (by decide) rfl rfl (by decide) g25 ?_
              obtain ⟨g24, H⟩ := zgd H
              refine zB.opl oX12_span rfl (zi_i2l g24) ?_
              refine zB.opl oX12_span rfl (zj_mul up (s7 29 a.toNat)) ?_
              refine xB.run oX12_span 1 (s := (155, [some (.ref 7168), some (.int (zI set)), some (.int (zI en)), some (.int (zI wh)), some (.long (zJ up)), none, some (.long (zJ dn)), none, some (.int (zI a)), some (.long (zJ (s7 31 a.toNat))), none, none], [.int (lg_cmp (zJ ((s7 31 a.toNat) * dn)) (zJ (up * (s7 29 a.toNat))))], [r0, r1, r2, r3, r4, r5, r6, zH s7 zL7 0, r8, r9])) rfl ?_
              obtain ⟨g23, H⟩ := zgd H
              have H := zif H
              refine xB.brE oX12_span (P := (up * (s7 29 a.toNat)) ≤ ((s7 31 a.toNat) * dn)) rfl (zl_ge (a := (s7 31 a.toNat) * dn) (b := up * (s7 29 a.toNat)) g23) (fun h20 => ?_) (fun h20 => ?_)
              · have H := H.1 h20
                refine xB.run oX12_span 10 (s := (199, [some (.ref 7168), some (.int (zI set)), some (.int (zI en)), some (.int (zI wh)), some (.long (zJ up)), none, some (.long (zJ dn)), none, some (.int (zI a)), some (.long (zJ (s7 31 a.toNat))), none, some (.int (zI 0))], [], [r0, r1, r2, r3, r4, r5, r6, zH s7 zL7 0, r8, r9])) rfl ?_
                refine zB.inc oX12_span rfl (lv2 := [some (.ref 7168), some (.int (zI set)), some (.int (zI en)), some (.int (zI wh)), some (.long (zJ up)), none, some (.long (zJ dn)), none, some (.int (zI (a + 1))), some (.long (zJ (s7 31 a.toNat))), none, some (.int (zI 0))]) (zi_inc (a := 0) (zi_addp1 a) _ rfl) ?_
                refine xB.run oX12_span 1 (s := (58, [some (.ref 7168), some (.int (zI set)), some (.int (zI en)), some (.int (zI wh)), some (.long (zJ up)), none, some (.long (zJ dn)), none, some (.int (zI (a + 1))), some (.long (zJ (s7 31 a.toNat))), none, some (.int (zI 0))], [], [r0, r1, r2, r3, r4, r5, r6, zH s7 zL7 0, r8, r9])) rfl ?_
                refine xB.forget (lv1 := [some (.ref 7168), some (.int (zI set)), some (.int (zI en)), some (.int (zI wh)), some (.long (zJ up)), none, some (.long (zJ dn)), none, some (.int (zI (a + 1))), none, none, none]) (xle_same (xle_same (xle_same (xle_same (xle_same (xle_same (xle_same (xle_same (xle_same (xle_none (xle_same (xle_none (xle_nil))))))))))))) ?_
                exact ih up dn (a + 1) H K
              · have H := H.2 h20
                refine xB.run oX12_span 13 (s := (190, [some (.ref 7168), some (.int (zI set)), some (.int (zI en)), some (.int (zI wh)), some (.long (zJ (s7 31 a.toNat))), none, some (.long (zJ dn)), none, some (.int (zI a)), some (.long (zJ (s7 31 a.toNat))), none, some (.int (zI 1))], [.int (zI a), .ref 7197], [r0, r1, r2, r3, r4, r5, r6, zH s7 zL7 0, r8, r9])) rfl ?_
                obtain ⟨g22, H⟩ := zgd H
                refine zB.iald oX12_span (g := 7) (p := 29) (N := 12) (i := a) rfl rfl (by decide) rfl rfl (by decide) g22 ?_
                obtain ⟨g21, H⟩ := zgd H
                refine zB.opl oX12_span rfl (zi_i2l g21) ?_
                refine xB.run oX12_span 2 (s := (199, [some (.ref 7168), some (.int (zI set)), some (.int (zI en)), some (.int (zI wh)), some (.long (zJ (s7 31 a.toNat))), none, some (.long (zJ (s7 29 a.toNat))), none, some (.int (zI a)), some (.long (zJ (s7 31 a.toNat))), none, some (.int (zI 1))], [], [r0, r1, r2, r3, r4, r5, r6, zH s7 zL7 0, r8, r9])) rfl ?_
                refine zB.inc oX12_span rfl (lv2 := [some (.ref 7168), some (.int (zI set)), some (.int (zI en)), some (.int (zI wh)), some (.long (zJ (s7 31 a.toNat))), none, some (.long (zJ (s7 29 a.toNat))), none, some (.int (zI (a + 1))), some (.long (zJ (s7 31 a.toNat))), none, some (.int (zI 1))]) (zi_inc (a := 0) (zi_addp1 a) _ rfl) ?_
                refine xB.run oX12_span 1 (s := (58, [some (.ref 7168), some (.int (zI set)), some (.int (zI en)), some (.int (zI wh)), some (.long (zJ (s7 31 a.toNat))), none, some (.long (zJ (s7 29 a.toNat))), none, some (.int (zI (a + 1))), some (.long (zJ (s7 31 a.toNat))), none, some (.int (zI 1))], [], [r0, r1, r2, r3, r4, r5, r6, zH s7 zL7 0, r8, r9])) rfl ?_
                refine xB.forget (lv1 := [some (.ref 7168), some (.int (zI set)), some (.int (zI en)), some (.int (zI wh)), some (.long (zJ (s7 31 a.toNat))), none, some (.long (zJ (s7 29 a.toNat))), none, some (.int (zI (a + 1))), none, none, none]) (xle_same (xle_same (xle_same (xle_same (xle_same (xle_same (xle_same (xle_same (xle_same (xle_none (xle_same (xle_none (xle_nil))))))))))))) ?_
                exact ih (s7 31 a.toNat) (s7 29 a.toNat) (a + 1) H K
            · have H := H.2 h19
              refine xB.run oX12_span 2 (s := (119, [some (.ref 7168), some (.int (zI set)), some (.int (zI en)), some (.int (zI wh)), some (.long (zJ up)), none, some (.long (zJ dn)), none, some (.int (zI a)), some (.long (zJ (s7 31 a.toNat))), none, none], [.long (zJ dn), .long (zJ (s7 31 a.toNat))], [r0, r1, r2, r3, r4, r5, r6, zH s7 zL7 0, r8, r9])) rfl ?_
              refine zB.opl oX12_span rfl (zj_mul (s7 31 a.toNat) dn) ?_
              refine xB.run oX12_span 4 (s := (128, [some (.ref 7168), some (.int (zI set)), some (.int (zI en)), some (.int (zI wh)), some (.long (zJ up)), none, some (.long (zJ dn)), none, some (.int (zI a)), some (.long (zJ (s7 31 a.toNat))), none, none], [.int (zI a), .ref 7197, .long (zJ up), .long (zJ ((s7 31 a.toNat) * dn))], [r0, r1, r2, r3, r4, r5, r6, zH s7 zL7 0, r8, r9])) rfl ?_
              obtain ⟨g31, H⟩ := zgd H
              refine zB.iald oX12_span (g := 7) (p := 29) (N := 12) (i := a) rfl rfl (by decide) rfl rfl (by decide) g31 ?_
              obtain ⟨g30, H⟩ := zgd H
              refine zB.opl oX12_span rfl (zi_i2l g30) ?_
              refine zB.opl oX12_span rfl (zj_mul up (s7 29 a.toNat)) ?_
              refine xB.run oX12_span 1 (s := (132, [some (.ref 7168), some (.int (zI set)), some (.int (zI en)), some (.int (zI wh)), some (.long (zJ up)), none, some (.long (zJ dn)), none, some (.int (zI a)), some (.long (zJ (s7 31 a.toNat))), none, none], [.int (lg_cmp (zJ ((s7 31 a.toNat) * dn)) (zJ (up * (s7 29 a.toNat))))], [r0, r1, r2, r3, r4, r5, r6, zH s7 zL7 0, r8, r9])) rfl ?_
              obtain ⟨g29, H⟩ := zgd H
              have H := zif H
              refine xB.brE oX12_span (P := ((s7 31 a.toNat) * dn) ≤ (up * (s7 29 a.toNat))) rfl (zl_le (a := (s7 31 a.toNat) * dn) (b := up * (s7 29 a.toNat)) g29) (fun h26 => ?_) (fun h26 => ?_)
              · have H := H.1 h26
                refine xB.run oX12_span 10 (s := (199, [some (.ref 7168), some (.int (zI set)), some (.int (zI en)), some (.int (zI wh)), some (.long (zJ up)), none, some (.long (zJ dn)), none, some (.int (zI a)), some (.long (zJ (s7 31 a.toNat))), none, some (.int (zI 0))], [], [r0, r1, r2, r3, r4, r5, r6, zH s7 zL7 0, r8, r9])) rfl ?_
                refine zB.inc oX12_span rfl (lv2 := [some (.ref 7168), some (.int (zI set)), some (.int (zI en)), some (.int (zI wh)), some (.long (zJ up)), none, some (.long (zJ dn)), none, some (.int (zI (a + 1))), some (.long (zJ (s7 31 a.toNat))), none, some (.int (zI 0))]) (zi_inc (a := 0) (zi_addp1 a) _ rfl) ?_
                refine xB.run oX12_span 1 (s := (58, [some (.ref 7168), some (.int (zI set)), some (.int (zI en)), some (.int (zI wh)), some (.long (zJ up)), none, some (.long (zJ dn)), none, some (.int (zI (a + 1))), some (.long (zJ (s7 31 a.toNat))), none, some (.int (zI 0))], [], [r0, r1, r2, r3, r4, r5, r6, zH s7 zL7 0, r8, r9])) rfl ?_
                refine xB.forget (lv1 := [some (.ref 7168), some (.int (zI set)), some (.int (zI en)), some (.int (zI wh)), some (.long (zJ up)), none, some (.long (zJ dn)), none, some (.int (zI (a + 1))), none, none, none]) (xle_same (xle_same (xle_same (xle_same (xle_same (xle_same (xle_same (xle_same (xle_same (xle_none (xle_same (xle_none (xle_nil))))))))))))) ?_
                exact ih up dn (a + 1) H K
              · have H := H.2 h26
                refine xB.run oX12_span 14 (s := (190, [some (.ref 7168), some (.int (zI set)), some (.int (zI en)), some (.int (zI wh)), some (.long (zJ (s7 31 a.toNat))), none, some (.long (zJ dn)), none, some (.int (zI a)), some (.long (zJ (s7 31 a.toNat))), none, some (.int (zI 1))], [.int (zI a), .ref 7197], [r0, r1, r2, r3, r4, r5, r6, zH s7 zL7 0, r8, r9])) rfl ?_
                obtain ⟨g28, H⟩ := zgd H
                refine zB.iald oX12_span (g := 7) (p := 29) (N := 12) (i := a) rfl rfl (by decide) rfl rfl (by decide) g28 ?_
                obtain ⟨g27, H⟩ := zgd H
                refine zB.opl oX12_span rfl (zi_i2l g27) ?_
                refine xB.run oX12_span 2 (s := (199, [some (.ref 7168), some (.int (zI set)), some (.int (zI en)), some (.int (zI wh)), some (.long (zJ (s7 31 a.toNat))), none, some (.long (zJ (s7 29 a.toNat))), none, some (.int (zI a)), some (.long (zJ (s7 31 a.toNat))), none, some (.int (zI 1))], [], [r0, r1, r2, r3, r4, r5, r6, zH s7 zL7 0, r8, r9])) rfl ?_
                refine zB.inc oX12_span rfl (lv2 := [some (.ref 7168), some (.int (zI set)), some (.int (zI en)), some (.int (zI wh)), some (.long (zJ (s7 31 a.toNat))), none, some (.long (zJ (s7 29 a.toNat))), none, some (.int (zI (a + 1))), some (.long (zJ (s7 31 a.toNat))), none, some (.int (zI 1))]) (zi_inc (a := 0) (zi_addp1 a) _ rfl) ?_
                refine xB.run oX12_span 1 (s := (58, [some (.ref 7168), some (.int (zI set)), some (.int (zI en)), some (.int (zI wh)), some (.long (zJ (s7 31 a.toNat))), none, some (.long (zJ (s7 29 a.toNat))), none, some (.int (zI (a + 1))), some (.long (zJ (s7 31 a.toNat))), none, some (.int (zI 1))], [], [r0, r1, r2, r3, r4, r5, r6, zH s7 zL7 0, r8, r9])) rfl ?_
                refine xB.forget (lv1 := [some (.ref 7168), some (.int (zI set)), some (.int (zI en)), some (.int (zI wh)), some (.long (zJ (s7 31 a.toNat))), none, some (.long (zJ (s7 29 a.toNat))), none, some (.int (zI (a + 1))), none, none, none]) (xle_same (xle_same (xle_same (xle_same (xle_same (xle_same (xle_same (xle_same (xle_same (xle_none (xle_same (xle_none (xle_nil))))))))))))) ?_
                exact ih (s7 31 a.toNat) (s7 29 a.toNat) (a + 1) H K
        · have H := H.2 h15
          refine xB.run oX12_span 3 (s := (89, [some (.ref 7168), some (.int (zI set)), some (.int (zI en)), some (.int (zI wh)), some (.long (zJ up)), none, some (.long (zJ dn)), none, some (.int (zI a)), none, none, none], [.int (zI a), .ref 7198], [r0, r1, r2, r3, r4, r5, r6, zH s7 zL7 0, r8, r9])) rfl ?_
          obtain ⟨g55, H⟩ := zgd H
          refine zB.iald oX12_span (g := 7) (p := 30) (N := 12) (i := a) rfl rfl (by decide) rfl rfl (by decide) g55 ?_
          obtain ⟨g54, H⟩ := zgd H
          refine zB.opl oX12_span rfl (zi_i2l g54) ?_
          refine xB.run oX12_span 5 (s := (108, [some (.ref 7168), some (.int (zI set)), some (.int (zI en)), some (.int (zI wh)), some (.long (zJ up)), none, some (.long (zJ dn)), none, some (.int (zI a)), some (.long (zJ (s7 30 a.toNat))), none, none], [.int (lg_cmp (zJ dn) (zJ 0))], [r0, r1, r2, r3, r4, r5, r6, zH s7 zL7 0, r8, r9])) rfl ?_
          obtain ⟨g53, H⟩ := zgd H
          have H := zif H
          refine xB.brE oX12_span (P := dn = 0) rfl (zl_eq (a := dn) (b := 0) ⟨g53, by decide⟩) (fun h36 => ?_) (fun h36 => ?_)
          · have H := H.1 h36
            refine xB.run oX12_span 13 (s := (190, [some (.ref 7168), some (.int (zI set)), some (.int (zI en)), some (.int (zI wh)), some (.long (zJ (s7 30 a.toNat))), none, some (.long (zJ dn)), none, some (.int (zI a)), some (.long (zJ (s7 30 a.toNat))), none, some (.int (zI 1))], [.int (zI a), .ref 7197], [r0, r1, r2, r3, r4, r5, r6, zH s7 zL7 0, r8, r9])) rfl ?_
            obtain ⟨g38, H⟩ := zgd H
            refine zB.iald oX12_span (g := 7) (p := 29) (N := 12) (i := a) rfl rfl (by decide) rfl rfl (by decide) g38 ?_
            obtain ⟨g37, H⟩ := zgd H
            refine zB.opl oX12_span rfl (zi_i2l g37) ?_
            refine xB.run oX12_span 2 (s := (199, [some (.ref 7168), some (.int (zI set)), some (.int (zI en)), some (.int (zI wh)), some (.long (zJ (s7 30 a.toNat))), none, some (.long (zJ (s7 29 a.toNat))), none, some (.int (zI a)), some (.long (zJ (s7 30 a.toNat))), none, some (.int (zI 1))], [], [r0, r1, r2, r3, r4, r5, r6, zH s7 zL7 0, r8, r9])) rfl ?_
            refine zB.inc oX12_span rfl (lv2 := [some (.ref 7168), some (.int (zI set)), some (.int (zI en)), some (.int (zI wh)), some (.long (zJ (s7 30 a.toNat))), none, some (.long (zJ (s7 29 a.toNat))), none, some (.int (zI (a + 1))), some (.long (zJ (s7 30 a.toNat))), none, some (.int (zI 1))]) (zi_inc (a := 0) (zi_addp1 a) _ rfl) ?_
            refine xB.run oX12_span 1 (s := (58, [some (.ref 7168), some (.int (zI set)), some (.int (zI en)), some (.int (zI wh)), some (.long (zJ (s7 30 a.toNat))), none, some (.long (zJ (s7 29 a.toNat))), none, some (.int (zI (a + 1))), some (.long (zJ (s7 30 a.toNat))), none, some (.int (zI 1))], [], [r0, r1, r2, r3, r4, r5, r6, zH s7 zL7 0, r8, r9])) rfl ?_
            refine xB.forget (lv1 := [some (.ref 7168), some (.int (zI set)), some (.int (zI en)), some (.int (zI wh)), some (.long (zJ (s7 30 a.toNat))), none, some (.long (zJ (s7 29 a.toNat))), none, some (.int (zI (a + 1))), none, none, none]) (xle_same (xle_same (xle_same (xle_same (xle_same (xle_same (xle_same (xle_same (xle_same (xle_none (xle_same (xle_none (xle_nil))))))))))))) ?_
            exact ih (s7 30 a.toNat) (s7 29 a.toNat) (a + 1) H K
          · have H := H.2 h36
            refine xB.run oX12_span 1 (s := (112, [some (.ref 7168), some (.int (zI set)), some (.int (zI en)), some (.int (zI wh)), some (.long (zJ up)), none, some (.long (zJ dn)), none, some (.int (zI a)), some (.long (zJ (s7 30 a.toNat))), none, none], [.int (zI en)], [r0, r1, r2, r3, r4, r5, r6, zH s7 zL7 0, r8, r9])) rfl ?_
            obtain ⟨g52, H⟩ := zgd H
            have H := zif H
            refine xB.brE oX12_span (P := en ≠ 0) rfl (zc_ne (a := en) (b := 0) ⟨g52, by decide⟩) (fun h39 => ?_) (fun h39 => ?_)
            · have H := H.1 h39
              refine xB.run oX12_span 2 (s := (142, [some (.ref 7168), some (.int (zI set)), some (.int (zI en)), some (.int (zI wh)), some (.long (zJ up)), none, some (.long (zJ dn)), none, some (.int (zI a)), some (.long (zJ (s7 30 a.toNat))), none, none], [.long (zJ dn), .long (zJ (s7 30 a.toNat))], [r0, r1, r2, r3, r4, r5, r6, zH s7 zL7 0, r8, r9])) rfl ?_
              refine zB.opl oX12_span rfl (zj_mul (s7 30 a.toNat) dn) ?_
              refine xB.run oX12_span 4 (s := (151, [some (.ref 7168), some (.int (zI set)), some (.int (zI en)), some (.int (zI wh)), some (.long (zJ up)), none, some (.long (zJ dn)), none, some (.int (zI a)), some (.long (zJ (s7 30 a.toNat))), none, none], [.int (zI a), .ref 7197, .long (zJ up), .long (zJ ((s7 30 a.toNat) * dn))], [r0, r1, r2, r3, r4, r5, r6, zH s7 zL7 0, r8, r9])) rfl ?_
              obtain ⟨g45, H⟩ := zgd H
              refine zB.iald oX12_span (g := 7) (p := 29) (N := 12) (i := a) rfl rfl (by decide) rfl rfl (by decide) g45 ?_
              obtain ⟨g44, H⟩ := zgd H
              refine zB.opl oX12_span rfl (zi_i2l g44) ?_
              refine zB.opl oX12_span rfl (zj_mul up (s7 29 a.toNat)) ?_
              refine xB.run oX12_span 1 (s := (155, [some (.ref 7168), some (.int (zI set)), some (.int (zI en)), some (.int (zI wh)), some (.long (zJ up)), none, some (.long (zJ dn)), none, some (.int (zI a)), some (.long (zJ (s7 30 a.toNat))), none, none], [.int (lg_cmp (zJ ((s7 30 a.toNat) * dn)) (zJ (up * (s7 29 a.toNat))))], [r0, r1, r2, r3, r4, r5, r6, zH s7 zL7 0, r8, r9])) rfl ?_
              obtain ⟨g43, H⟩ := zgd H
              have H := zif H
              refine xB.brE oX12_span (P := (up * (s7 29 a.toNat)) ≤ ((s7 30 a.toNat) * dn)) rfl (zl_ge (a := (s7 30 a.toNat) * dn) (b := up * (s7 29 a.toNat)) g43) (fun h40 => ?_) (fun h40 => ?_)
              · have H := H.1 h40
                refine xB.run oX12_span 10 (s := (199, [some (.ref 7168), some (.int (zI set)), some (.int (zI en)), some (.int (zI wh)), some (.long (zJ up)), none, some (.long (zJ dn)), none, some (.int (zI a)), some (.long (zJ (s7 30 a.toNat))), none, some (.int (zI 0))], [], [r0, r1, r2, r3, r4, r5, r6, zH s7 zL7 0, r8, r9])) rfl ?_
                refine zB.inc oX12_span rfl (lv2 := [some (.ref 7168), some (.int (zI set)), some (.int (zI en)), some (.int (zI wh)), some (.long (zJ up)), none, some (.long (zJ dn)), none, some (.int (zI (a + 1))), some (.long (zJ (s7 30 a.toNat))), none, some (.int (zI 0))]) (zi_inc (a := 0) (zi_addp1 a) _ rfl) ?_
                refine xB.run oX12_span 1 (s := (58, [some (.ref 7168), some (.int (zI set)), some (.int (zI en)), some (.int (zI wh)), some (.long (zJ up)), none, some (.long (zJ dn)), none, some (.int (zI (a + 1))), some (.long (zJ (s7 30 a.toNat))), none, some (.int (zI 0))], [], [r0, r1, r2, r3, r4, r5, r6, zH s7 zL7 0, r8, r9])) rfl ?_
                refine xB.forget (lv1 := [some (.ref 7168), some (.int (zI set)), some (.int (zI en)), some (.int (zI wh)), some (.long (zJ up)), none, some (.long (zJ dn)), none, some (.int (zI (a + 1))), none, none, none]) (xle_same (xle_same (xle_same (xle_same (xle_same (xle_same (xle_same (xle_same (xle_same (xle_none (xle_same (xle_none (xle_nil))))))))))))) ?_
                exact ih up dn (a + 1) H K
              · have H := H.2 h40
                refine xB.run oX12_span 13 (s := (190, [some (.ref 7168), some (.int (zI set)), some (.int (zI en)), some (.int (zI wh)), some (.long (zJ (s7 30 a.toNat))), none, some (.long (zJ dn)), none, some (.int (zI a)), some (.long (zJ (s7 30 a.toNat))), none, some (.int (zI 1))], [.int (zI a), .ref 7197], [r0, r1, r2, r3, r4, r5, r6, zH s7 zL7 0, r8, r9])) rfl ?_
                obtain ⟨g42, H⟩ := zgd H
                refine zB.iald oX12_span (g := 7) (p := 29) (N := 12) (i := a) rfl rfl (by decide) rfl rfl (by decide) g42 ?_
                obtain ⟨g41, H⟩ := zgd H
                refine zB.opl oX12_span rfl (zi_i2l g41) ?_
                refine xB.run oX12_span 2 (s := (199, [some (.ref 7168), some (.int (zI set)), some (.int (zI en)), some (.int (zI wh)), some (.long (zJ (s7 30 a.toNat))), none, some (.long (zJ (s7 29 a.toNat))), none, some (.int (zI a)), some (.long (zJ (s7 30 a.toNat))), none, some (.int (zI 1))], [], [r0, r1, r2, r3, r4, r5, r6, zH s7 zL7 0, r8, r9])) rfl ?_
                refine zB.inc oX12_span rfl (lv2 := [some (.ref 7168), some (.int (zI set)), some (.int (zI en)), some (.int (zI wh)), some (.long (zJ (s7 30 a.toNat))), none, some (.long (zJ (s7 29 a.toNat))), none, some (.int (zI (a + 1))), some (.long (zJ (s7 30 a.toNat))), none, some (.int (zI 1))]) (zi_inc (a := 0) (zi_addp1 a) _ rfl) ?_
                refine xB.run oX12_span 1 (s := (58, [some (.ref 7168), some (.int (zI set)), some (.int (zI en)), some (.int (zI wh)), some (.long (zJ (s7 30 a.toNat))), none, some (.long (zJ (s7 29 a.toNat))), none, some (.int (zI (a + 1))), some (.long (zJ (s7 30 a.toNat))), none, some (.int (zI 1))], [], [r0, r1, r2, r3, r4, r5, r6, zH s7 zL7 0, r8, r9])) rfl ?_
                refine xB.forget (lv1 := [some (.ref 7168), some (.int (zI set)), some (.int (zI en)), some (.int (zI wh)), some (.long (zJ (s7 30 a.toNat))), none, some (.long (zJ (s7 29 a.toNat))), none, some (.int (zI (a + 1))), none, none, none]) (xle_same (xle_same (xle_same (xle_same (xle_same (xle_same (xle_same (xle_same (xle_same (xle_none (xle_same (xle_none (xle_nil))))))))))))) ?_
                exact ih (s7 30 a.toNat) (s7 29 a.toNat) (a + 1) H K
            · have H := H.2 h39
              refine xB.run oX12_span 2 (s := (119, [some (.ref 7168), some (.int (zI set)), some (.int (zI en)), some (.int (zI wh)), some (.long (zJ up)), none, some (.long (zJ dn)), none, some (.int (zI a)), some (.long (zJ (s7 30 a.toNat))), none, none], [.long (zJ dn), .long (zJ (s7 30 a.toNat))], [r0, r1, r2, r3, r4, r5, r6, zH s7 zL7 0, r8, r9])) rfl ?_
              refine zB.opl oX12_span rfl (zj_mul (s7 30 a.toNat) dn) ?_
              refine xB.run oX12_span 4 (s := (128, [some (.ref 7168), some (.int (zI set)), some (.int (zI en)), some (.int (zI wh)), some (.long (zJ up)), none, some (.long (zJ dn)), none, some (.int (zI a)), some (.long (zJ (s7 30 a.toNat))), none, none], [.int (zI a), .ref 7197, .long (zJ up), .long (zJ ((s7 30 a.toNat) * dn))], [r0, r1, r2, r3, r4, r5, r6, zH s7 zL7 0, r8, r9])) rfl ?_
              obtain ⟨g51, H⟩ := zgd H
              refine zB.iald oX12_span (g := 7) (p := 29) (N := 12) (i := a) rfl rfl (by decide) rfl rfl (by decide) g51 ?_
              obtain ⟨g50, H⟩ := zgd H
              refine zB.opl oX12_span rfl (zi_i2l g50) ?_
              refine zB.opl oX12_span rfl (zj_mul up (s7 29 a.toNat)) ?_
              refine xB.run oX12_span 1 (s := (132, [some (.ref 7168), some (.int (zI set)), some (.int (zI en)), some (.int (zI wh)), some (.long (zJ up)), none, some (.long (zJ dn)), none, some (.int (zI a)), some (.long (zJ (s7 30 a.toNat))), none, none], [.int (lg_cmp (zJ ((s7 30 a.toNat) * dn)) (zJ (up * (s7 29 a.toNat))))], [r0, r1, r2, r3, r4, r5, r6, zH s7 zL7 0, r8, r9])) rfl ?_
              obtain ⟨g49, H⟩ := zgd H
              have H := zif H
              refine xB.brE oX12_span (P := ((s7 30 a.toNat) * dn) ≤ (up * (s7 29 a.toNat))) rfl (zl_le (a := (s7 30 a.toNat) * dn) (b := up * (s7 29 a.toNat)) g49) (fun h46 => ?_) (fun h46 => ?_)
              · have H := H.1 h46
                refine xB.run oX12_span 10 (s := (199, [some (.ref 7168), some (.int (zI set)), some (.int (zI en)), some (.int (zI wh)), some (.long (zJ up)), none, some (.long (zJ dn)), none, some (.int (zI a)), some (.long (zJ (s7 30 a.toNat))), none, some (.int (zI 0))], [], [r0, r1, r2, r3, r4, r5, r6, zH s7 zL7 0, r8, r9])) rfl ?_
                refine zB.inc oX12_span rfl (lv2 := [some (.ref 7168), some (.int (zI set)), some (.int (zI en)), some (.int (zI wh)), some (.long (zJ up)), none, some (.long (zJ dn)), none, some (.int (zI (a + 1))), some (.long (zJ (s7 30 a.toNat))), none, some (.int (zI 0))]) (zi_inc (a := 0) (zi_addp1 a) _ rfl) ?_
                refine xB.run oX12_span 1 (s := (58, [some (.ref 7168), some (.int (zI set)), some (.int (zI en)), some (.int (zI wh)), some (.long (zJ up)), none, some (.long (zJ dn)), none, some (.int (zI (a + 1))), some (.long (zJ (s7 30 a.toNat))), none, some (.int (zI 0))], [], [r0, r1, r2, r3, r4, r5, r6, zH s7 zL7 0, r8, r9])) rfl ?_
                refine xB.forget (lv1 := [some (.ref 7168), some (.int (zI set)), some (.int (zI en)), some (.int (zI wh)), some (.long (zJ up)), none, some (.long (zJ dn)), none, some (.int (zI (a + 1))), none, none, none]) (xle_same (xle_same (xle_same (xle_same (xle_same (xle_same (xle_same (xle_same (xle_same (xle_none (xle_same (xle_none (xle_nil))))))))))))) ?_
                exact ih up dn (a + 1) H K
              · have H := H.2 h46
                refine xB.run oX12_span 14 (s := (190, [some (.ref 7168), some (.int (zI set)), some (.int (zI en)), some (.int (zI wh)), some (.long (zJ (s7 30 a.toNat))), none, some (.long (zJ dn)), none, some (.int (zI a)), some (.long (zJ (s7 30 a.toNat))), none, some (.int (zI 1))], [.int (zI a), .ref 7197], [r0, r1, r2, r3, r4, r5, r6, zH s7 zL7 0, r8, r9])) rfl ?_
                obtain ⟨g48, H⟩ := zgd H
                refine zB.iald oX12_span (g := 7) (p := 29) (N := 12) (i := a) rfl rfl (by decide) rfl rfl (by decide) g48 ?_
                obtain ⟨g47, H⟩ := zgd H
                refine zB.opl oX12_span rfl (zi_i2l g47) ?_
                refine xB.run oX12_span 2 (s := (199, [some (.ref 7168), some (.int (zI set)), some (.int (zI en)), some (.int (zI wh)), some (.long (zJ (s7 30 a.toNat))), none, some (.long (zJ (s7 29 a.toNat))), none, some (.int (zI a)), some (.long (zJ (s7 30 a.toNat))), none, some (.int (zI 1))], [], [r0, r1, r2, r3, r4, r5, r6, zH s7 zL7 0, r8, r9])) rfl ?_
                refine zB.inc oX12_span rfl (lv2 := [some (.ref 7168), some (.int (zI set)), some (.int (zI en)), some (.int (zI wh)), some (.long (zJ (s7 30 a.toNat))), none, some (.long (zJ (s7 29 a.toNat))), none, some (.int (zI (a + 1))), some (.long (zJ (s7 30 a.toNat))), none, some (.int (zI 1))]) (zi_inc (a := 0) (zi_addp1 a) _ rfl) ?_
                refine xB.run oX12_span 1 (s := (58, [some (.ref 7168), some (.int (zI set)), some (.int (zI en)), some (.int (zI wh)), some (.long (zJ (s7 30 a.toNat))), none, some (.long (zJ (s7 29 a.toNat))), none, some (.int (zI (a + 1))), some (.long (zJ (s7 30 a.toNat))), none, some (.int (zI 1))], [], [r0, r1, r2, r3, r4, r5, r6, zH s7 zL7 0, r8, r9])) rfl ?_
                refine xB.forget (lv1 := [some (.ref 7168), some (.int (zI set)), some (.int (zI en)), some (.int (zI wh)), some (.long (zJ (s7 30 a.toNat))), none, some (.long (zJ (s7 29 a.toNat))), none, some (.int (zI (a + 1))), none, none, none]) (xle_same (xle_same (xle_same (xle_same (xle_same (xle_same (xle_same (xle_same (xle_same (xle_none (xle_same (xle_none (xle_nil))))))))))))) ?_
                exact ih (s7 30 a.toNat) (s7 29 a.toNat) (a + 1) H K
      · have H := H.2 h14
        refine xB.run oX12_span 1 (s := (199, [some (.ref 7168), some (.int (zI set)), some (.int (zI en)), some (.int (zI wh)), some (.long (zJ up)), none, some (.long (zJ dn)), none, some (.int (zI a)), none, none, none], [], [r0, r1, r2, r3, r4, r5, r6, zH s7 zL7 0, r8, r9])) rfl ?_
        refine zB.inc oX12_span rfl (lv2 := [some (.ref 7168), some (.int (zI set)), some (.int (zI en)), some (.int (zI wh)), some (.long (zJ up)), none, some (.long (zJ dn)), none, some (.int (zI (a + 1))), none, none, none]) (zi_inc (a := 0) (zi_addp1 a) _ rfl) ?_
        refine xB.run oX12_span 1 (s := (58, [some (.ref 7168), some (.int (zI set)), some (.int (zI en)), some (.int (zI wh)), some (.long (zJ up)), none, some (.long (zJ dn)), none, some (.int (zI (a + 1))), none, none, none], [], [r0, r1, r2, r3, r4, r5, r6, zH s7 zL7 0, r8, r9])) rfl ?_
        exact ih up dn (a + 1) H K
set_option maxRecDepth 20000 in
theorem t_X12_span (r0 : List va_E) (r1 : List va_E) (r2 : List va_E) (r3 : List va_E) (r4 : List va_E) (r5 : List va_E) (r6 : List va_E) (s7 : zZ) (r8 : List va_E) (r9 : List va_E) (set : Int) (en : Int) (wh : Int) {rr : Int} (H : d_X12_span s7 set en wh = some rr) : xC MX12_span 3 [.ref 7168, .int (zI set), .int (zI en), .int (zI wh)] ([r0, r1, r2, r3, r4, r5, r6, zH s7 zL7 0, r8, r9]) (some (.long (zJ rr))) ([r0, r1, r2, r3, r4, r5, r6, zH s7 zL7 0, r8, r9]) := by
  refine ⟨Nat.le_of_ble_eq_true rfl, ?_⟩
  show xBody MX12_span 3 0 [some (.ref 7168), some (.int (zI set)), some (.int (zI en)), some (.int (zI wh)), none, none, none, none, none, none, none, none] [] ([r0, r1, r2, r3, r4, r5, r6, zH s7 zL7 0, r8, r9]) _ _
  unfold d_X12_span at H
  refine xB.run oX12_span 1 (s := (1, [some (.ref 7168), some (.int (zI set)), some (.int (zI en)), some (.int (zI wh)), none, none, none, none, none, none, none, none], [.int (zI set)], [r0, r1, r2, r3, r4, r5, r6, zH s7 zL7 0, r8, r9])) rfl ?_
  obtain ⟨g71, H⟩ := zgd H
  refine zB.opl oX12_span rfl (zi_i2l g71) ?_
  refine xB.run oX12_span 4 (s := (8, [some (.ref 7168), some (.int (zI set)), some (.int (zI en)), some (.int (zI wh)), none, none, none, none, none, none, none, none], [.int (zI (s7 0 39)), .long (zJ 1), .long (zJ 1), .long (zJ set)], [r0, r1, r2, r3, r4, r5, r6, zH s7 zL7 0, r8, r9])) rfl ?_
  obtain ⟨g70, H⟩ := zgd H
  refine zB.opl oX12_span rfl (zj_shl1 (c := s7 0 39) g70) ?_
  refine xB.run oX12_span 1 (s := (10, [some (.ref 7168), some (.int (zI set)), some (.int (zI en)), some (.int (zI wh)), none, none, none, none, none, none, none, none], [.long (zJ 1), .long (zJ ((2 : Int) ^ (s7 0 39).toNat)), .long (zJ 1), .long (zJ set)], [r0, r1, r2, r3, r4, r5, r6, zH s7 zL7 0, r8, r9])) rfl ?_
  refine zB.opl oX12_span rfl (zj_sub ((2 : Int) ^ (s7 0 39).toNat) 1) ?_
  obtain ⟨y1, e2, H⟩ := zbd H
  refine xB.call oX12_span (M2 := MX12_within) rfl rfl ((t_X12_within r0 r1 r2 r3 r4 r5 r6 (zH s7 zL7 0) r8 r9 set 1 (((2 : Int) ^ (s7 0 39).toNat) - 1) e2).deep (by decide : 0 ≤ 2)) ?_
  show xBody MX12_span 3 14 [some (.ref 7168), some (.int (zI set)), some (.int (zI en)), some (.int (zI wh)), none, none, none, none, none, none, none, none] [.int (zI y1)] ([r0, r1, r2, r3, r4, r5, r6, zH s7 zL7 0, r8, r9]) _ _
  obtain ⟨g69, H⟩ := zgd H
  have H := zif H
  refine xB.brE oX12_span (P := y1 = 0) rfl (zc_eq (a := y1) (b := 0) ⟨g69, by decide⟩) (fun h3 => ?_) (fun h3 => ?_)
  · have H := H.1 h3
    refine xB.run oX12_span 1 (s := (48, [some (.ref 7168), some (.int (zI set)), some (.int (zI en)), some (.int (zI wh)), none, none, none, none, none, none, none, none], [.long (zJ (-9223372036854775808))], [r0, r1, r2, r3, r4, r5, r6, zH s7 zL7 0, r8, r9])) rfl ?_
    obtain rfl := Option.some.inj H
    exact xB.ret oX12_span (r1 := some (.long (zJ (-9223372036854775808)))) rfl rfl rfl
  · have H := H.2 h3
    refine xB.run oX12_span 1 (s := (18, [some (.ref 7168), some (.int (zI set)), some (.int (zI en)), some (.int (zI wh)), none, none, none, none, none, none, none, none], [.int (zI en)], [r0, r1, r2, r3, r4, r5, r6, zH s7 zL7 0, r8, r9])) rfl ?_
    obtain ⟨g68, H⟩ := zgd H
    refine zB.opl oX12_span rfl (zi_i2l g68) ?_
    refine xB.run oX12_span 2 (s := (21, [some (.ref 7168), some (.int (zI set)), some (.int (zI en)), some (.int (zI wh)), none, none, none, none, none, none, none, none], [.long (zJ 1), .long (zJ 0), .long (zJ en)], [r0, r1, r2, r3, r4, r5, r6, zH s7 zL7 0, r8, r9])) rfl ?_
    obtain ⟨y4, e5, H⟩ := zbd H
    refine xB.call oX12_span (M2 := MX12_within) rfl rfl ((t_X12_within r0 r1 r2 r3 r4 r5 r6 (zH s7 zL7 0) r8 r9 en 0 1 e5).deep (by decide : 0 ≤ 2)) ?_
    show xBody MX12_span 3 24 [some (.ref 7168), some (.int (zI set)), some (.int (zI en)), some (.int (zI wh)), none, none, none, none, none, none, none, none] [.int (zI y4)] ([r0, r1, r2, r3, r4, r5, r6, zH s7 zL7 0, r8, r9]) _ _
    obtain ⟨g67, H⟩ := zgd H
    have H := zif H
    refine xB.brE oX12_span (P := y4 = 0) rfl (zc_eq (a := y4) (b := 0) ⟨g67, by decide⟩) (fun h6 => ?_) (fun h6 => ?_)
    · have H := H.1 h6
      refine xB.run oX12_span 1 (s := (48, [some (.ref 7168), some (.int (zI set)), some (.int (zI en)), some (.int (zI wh)), none, none, none, none, none, none, none, none], [.long (zJ (-9223372036854775808))], [r0, r1, r2, r3, r4, r5, r6, zH s7 zL7 0, r8, r9])) rfl ?_
      obtain rfl := Option.some.inj H
      exact xB.ret oX12_span (r1 := some (.long (zJ (-9223372036854775808)))) rfl rfl rfl
    · have H := H.2 h6
      refine xB.run oX12_span 1 (s := (28, [some (.ref 7168), some (.int (zI set)), some (.int (zI en)), some (.int (zI wh)), none, none, none, none, none, none, none, none], [.int (zI wh)], [r0, r1, r2, r3, r4, r5, r6, zH s7 zL7 0, r8, r9])) rfl ?_
      obtain ⟨g66, H⟩ := zgd H
      refine zB.opl oX12_span rfl (zi_i2l g66) ?_
      refine xB.run oX12_span 2 (s := (31, [some (.ref 7168), some (.int (zI set)), some (.int (zI en)), some (.int (zI wh)), none, none, none, none, none, none, none, none], [.long (zJ 1), .long (zJ 0), .long (zJ wh)], [r0, r1, r2, r3, r4, r5, r6, zH s7 zL7 0, r8, r9])) rfl ?_
      obtain ⟨y7, e8, H⟩ := zbd H
      refine xB.call oX12_span (M2 := MX12_within) rfl rfl ((t_X12_within r0 r1 r2 r3 r4 r5 r6 (zH s7 zL7 0) r8 r9 wh 0 1 e8).deep (by decide : 0 ≤ 2)) ?_
      show xBody MX12_span 3 34 [some (.ref 7168), some (.int (zI set)), some (.int (zI en)), some (.int (zI wh)), none, none, none, none, none, none, none, none] [.int (zI y7)] ([r0, r1, r2, r3, r4, r5, r6, zH s7 zL7 0, r8, r9]) _ _
      obtain ⟨g65, H⟩ := zgd H
      have H := zif H
      refine xB.brE oX12_span (P := y7 = 0) rfl (zc_eq (a := y7) (b := 0) ⟨g65, by decide⟩) (fun h9 => ?_) (fun h9 => ?_)
      · have H := H.1 h9
        refine xB.run oX12_span 1 (s := (48, [some (.ref 7168), some (.int (zI set)), some (.int (zI en)), some (.int (zI wh)), none, none, none, none, none, none, none, none], [.long (zJ (-9223372036854775808))], [r0, r1, r2, r3, r4, r5, r6, zH s7 zL7 0, r8, r9])) rfl ?_
        obtain rfl := Option.some.inj H
        exact xB.ret oX12_span (r1 := some (.long (zJ (-9223372036854775808)))) rfl rfl rfl
      · have H := H.2 h9
        refine xB.run oX12_span 2 (s := (39, [some (.ref 7168), some (.int (zI set)), some (.int (zI en)), some (.int (zI wh)), none, none, none, none, none, none, none, none], [.int (zI set), .ref 7168], [r0, r1, r2, r3, r4, r5, r6, zH s7 zL7 0, r8, r9])) rfl ?_
        obtain ⟨y10, e11, H⟩ := zbd H
        refine xB.call oX12_span (M2 := MX12_doAgree) rfl rfl ((t_X12_doAgree r0 r1 r2 r3 r4 r5 r6 s7 r8 r9 set e11).deep (by decide : 1 ≤ 2)) ?_
        show xBody MX12_span 3 42 [some (.ref 7168), some (.int (zI set)), some (.int (zI en)), some (.int (zI wh)), none, none, none, none, none, none, none, none] [.int (zI y10)] ([r0, r1, r2, r3, r4, r5, r6, zH s7 zL7 0, r8, r9]) _ _
        obtain ⟨g64, H⟩ := zgd H
        have H := zif H
        refine xB.brE oX12_span (P := y10 ≠ 0) rfl (zc_ne (a := y10) (b := 0) ⟨g64, by decide⟩) (fun h12 => ?_) (fun h12 => ?_)
        · have H := H.1 h12
          refine xB.run oX12_span 6 (s := (58, [some (.ref 7168), some (.int (zI set)), some (.int (zI en)), some (.int (zI wh)), some (.long (zJ 0)), none, some (.long (zJ 0)), none, some (.int (zI 0)), none, none, none], [], [r0, r1, r2, r3, r4, r5, r6, zH s7 zL7 0, r8, r9])) rfl ?_
          obtain ⟨y60, e61, H⟩ := zbd H
          refine l_X12_span_58 r0 r1 r2 r3 r4 r5 r6 s7 r8 r9 set en wh _ 0 0 0 e61 ?_
          refine xB.run oX12_span 3 (s := (210, [some (.ref 7168), some (.int (zI set)), some (.int (zI en)), some (.int (zI wh)), some (.long (zJ y60.1)), none, some (.long (zJ y60.2.1)), none, some (.int (zI y60.2.2)), none, none, none], [.int (zI wh), .long (zJ y60.2.1), .long (zJ y60.1)], [r0, r1, r2, r3, r4, r5, r6, zH s7 zL7 0, r8, r9])) rfl ?_
          obtain ⟨y62, e63, H⟩ := zbd H
          refine xB.call oX12_span (M2 := MX12_part) rfl rfl ((t_X12_part r0 r1 r2 r3 r4 r5 r6 (zH s7 zL7 0) r8 r9 y60.1 y60.2.1 wh e63).deep (by decide : 2 ≤ 2)) ?_
          show xBody MX12_span 3 213 [some (.ref 7168), some (.int (zI set)), some (.int (zI en)), some (.int (zI wh)), some (.long (zJ y60.1)), none, some (.long (zJ y60.2.1)), none, some (.int (zI y60.2.2)), none, none, none] [.long (zJ y62)] ([r0, r1, r2, r3, r4, r5, r6, zH s7 zL7 0, r8, r9]) _ _
          obtain rfl := Option.some.inj H
          exact xB.ret oX12_span (r1 := some (.long (zJ y62))) rfl rfl rfl
        · have H := H.2 h12
          refine xB.run oX12_span 1 (s := (48, [some (.ref 7168), some (.int (zI set)), some (.int (zI en)), some (.int (zI wh)), none, none, none, none, none, none, none, none], [.long (zJ (-9223372036854775808))], [r0, r1, r2, r3, r4, r5, r6, zH s7 zL7 0, r8, r9])) rfl ?_
          obtain rfl := Option.some.inj H
          exact xB.ret oX12_span (r1 := some (.long (zJ (-9223372036854775808)))) rfl rfl rfl
