/-! 31.zk -/
def d_X8_change (s4 : zZ) (row : Int) (col : Int) (out : Int) : Option (Int × zZ) := if (zr out) then (if out = 0 then ((d_X8_isPiece row col).bind fun y2 => if (zr y2) then (if y2 = 0 then some (0, s4) else (if (0 ≤ ((row * 10) + col) ∧ ((row * 10) + col) < 100) then (if (zr (s4 1 ((row * 10) + col).toNat)) then (if (s4 1 ((row * 10) + col).toNat) ≠ 0 then (if (0 ≤ ((row * 10) + col) ∧ ((row * 10) + col) < 100) then some (1, upz s4 1 ((row * 10) + col).toNat 0) else none) else some (0, s4)) else none) else none)) else none) else ((d_X8_isPiece row col).bind fun y10 => if (zr y10) then (if y10 = 0 then some (0, s4) else (if (0 ≤ ((row * 10) + col) ∧ ((row * 10) + col) < 100) then (if (zr (s4 1 ((row * 10) + col).toNat)) then (if (s4 1 ((row * 10) + col).toNat) ≠ 1 then (if (0 ≤ ((row * 10) + col) ∧ ((row * 10) + col) < 100) then some (1, upz s4 1 ((row * 10) + col).toNat 1) else none) else some (0, s4)) else none) else none)) else none)) else none
set_option maxRecDepth 20000 in
theorem t_X8_change (r0 : List va_E) (r1 : List va_E) (r2 : List va_E) (r3 : List va_E) (s4 : zZ) (r5 : List va_E) (r6 : List va_E) (r7 : List va_E) (r8 : List va_E) (r9 : List va_E) (row : Int) (col : Int) (out : Int) {rr : Int × zZ} (H : d_X8_change s4 row col out = some rr) : xC MX8_change 1 [.ref 4096, .int (zI row), .int (zI col), .int (zI out)] ([r0, r1, r2, r3, zH s4 zL4 0, r5, r6, r7, r8, r9]) (some (.int (zI rr.1))) ([r0, r1, r2, r3, zH rr.2 zL4 0, r5, r6, r7, r8, r9]) := by
  refine ⟨Nat.le_of_ble_eq_true rfl, ?_⟩
  show xBody MX8_change 1 0 [some (.ref 4096), some (.int (zI row)), some (.int (zI col)), some (.int (zI out)), none] [] ([r0, r1, r2, r3, zH s4 zL4 0, r5, r6, r7, r8, r9]) _ _
  unfold d_X8_change at H
  refine xB.run oX8_change 1 (s := (1, [some (.ref 4096), some (.int (zI row)), some (.int (zI col)), some (.int (zI out)), none], [.int (zI out)], [r0, r1, r2, r3, zH s4 zL4 0, r5, r6, r7, r8, r9])) rfl ?_
  obtain ⟨g18, H⟩ := zgd H
  have H := zif H
  refine xB.brE oX8_change (P := out = 0) rfl (zc_eq (a := out) (b := 0) ⟨g18, by decide⟩) (fun h1 => ?_) (fun h1 => ?_)
  · have H := H.1 h1
    refine xB.run oX8_change 4 (s := (13, [some (.ref 4096), some (.int (zI row)), some (.int (zI col)), some (.int (zI out)), some (.int (zI 0))], [.int (zI col), .int (zI row)], [r0, r1, r2, r3, zH s4 zL4 0, r5, r6, r7, r8, r9])) rfl ?_
    obtain ⟨y2, e3, H⟩ := zbd H
    refine xB.call oX8_change (M2 := MX8_isPiece) rfl rfl ((t_X8_isPiece r0 r1 r2 r3 (zH s4 zL4 0) r5 r6 r7 r8 r9 row col e3).deep (by decide : 0 ≤ 0)) ?_
    show xBody MX8_change 1 16 [some (.ref 4096), some (.int (zI row)), some (.int (zI col)), some (.int (zI out)), some (.int (zI 0))] [.int (zI y2)] ([r0, r1, r2, r3, zH s4 zL4 0, r5, r6, r7, r8, r9]) _ _
    obtain ⟨g9, H⟩ := zgd H
    have H := zif H
    refine xB.brE oX8_change (P := y2 = 0) rfl (zc_eq (a := y2) (b := 0) ⟨g9, by decide⟩) (fun h4 => ?_) (fun h4 => ?_)
    · have H := H.1 h4
      refine xB.run oX8_change 1 (s := (36, [some (.ref 4096), some (.int (zI row)), some (.int (zI col)), some (.int (zI out)), some (.int (zI 0))], [.int (zI 0)], [r0, r1, r2, r3, zH s4 zL4 0, r5, r6, r7, r8, r9])) rfl ?_
      obtain rfl := Option.some.inj H
      exact xB.ret oX8_change (r1 := some (.int (zI 0))) rfl rfl rfl
    · have H := H.2 h4
      refine xB.run oX8_change 4 (s := (26, [some (.ref 4096), some (.int (zI row)), some (.int (zI col)), some (.int (zI out)), some (.int (zI 0))], [.int (zI 10), .int (zI row), .ref 4097], [r0, r1, r2, r3, zH s4 zL4 0, r5, r6, r7, r8, r9])) rfl ?_
      refine zB.opi oX8_change rfl (zi_mul row 10) ?_
      refine xB.run oX8_change 1 (s := (28, [some (.ref 4096), some (.int (zI row)), some (.int (zI col)), some (.int (zI out)), some (.int (zI 0))], [.int (zI col), .int (zI (row * 10)), .ref 4097], [r0, r1, r2, r3, zH s4 zL4 0, r5, r6, r7, r8, r9])) rfl ?_
      refine zB.opi oX8_change rfl (zi_add (row * 10) col) ?_
      obtain ⟨g8, H⟩ := zgd H
      refine zB.iald oX8_change (g := 4) (p := 1) (N := 100) (i := (row * 10) + col) rfl rfl (by decide) rfl rfl (by decide) g8 ?_
      refine xB.run oX8_change 1 (s := (32, [some (.ref 4096), some (.int (zI row)), some (.int (zI col)), some (.int (zI out)), some (.int (zI 0))], [.int (zI 0), .int (zI (s4 1 ((row * 10) + col).toNat))], [r0, r1, r2, r3, zH s4 zL4 0, r5, r6, r7, r8, r9])) rfl ?_
      obtain ⟨g7, H⟩ := zgd H
      have H := zif H
      refine xB.brE oX8_change (P := (s4 1 ((row * 10) + col).toNat) ≠ 0) rfl (zc_ne (a := s4 1 ((row * 10) + col).toNat) (b := 0) ⟨g7, by decide⟩) (fun h5 => ?_) (fun h5 => ?_)
      · have H := H.1 h5
        refine xB.run oX8_change 4 (s := (44, [some (.ref 4096), some (.int (zI row)), some (.int (zI col)), some (.int (zI out)), some (.int (zI 0))], [.int (zI 10), .int (zI row), .ref 4097], [r0, r1, r2, r3, zH s4 zL4 0, r5, r6, r7, r8, r9])) rfl ?_
        refine zB.opi oX8_change rfl (zi_mul row 10) ?_
        refine xB.run oX8_change 1 (s := (46, [some (.ref 4096), some (.int (zI row)), some (.int (zI col)), some (.int (zI out)), some (.int (zI 0))], [.int (zI col), .int (zI (row * 10)), .ref 4097], [r0, r1, r2, r3, zH s4 zL4 0, r5, r6, r7, r8, r9])) rfl ?_
        refine zB.opi oX8_change rfl (zi_add (row * 10) col) ?_
        refine xB.run oX8_change 1 (s := (49, [some (.ref 4096), some (.int (zI row)), some (.int (zI col)), some (.int (zI out)), some (.int (zI 0))], [.int (zI 0), .int (zI ((row * 10) + col)), .ref 4097], [r0, r1, r2, r3, zH s4 zL4 0, r5, r6, r7, r8, r9])) rfl ?_
        obtain ⟨g6, H⟩ := zgd H
        refine zB.iast oX8_change (g := 4) (p := 1) (N := 100) (i := (row * 10) + col) (hp1 := [r0, r1, r2, r3, zH (upz s4 1 ((row * 10) + col).toNat 0) zL4 0, r5, r6, r7, r8, r9]) rfl rfl (by decide) (by decide) rfl rfl (by decide) g6 rfl ?_
        refine xB.run oX8_change 1 (s := (51, [some (.ref 4096), some (.int (zI row)), some (.int (zI col)), some (.int (zI out)), some (.int (zI 0))], [.int (zI 1)], [r0, r1, r2, r3, zH (upz s4 1 ((row * 10) + col).toNat 0) zL4 0, r5, r6, r7, r8, r9])) rfl ?_
        obtain rfl := Option.some.inj H
        exact xB.ret oX8_change (r1 := some (.int (zI 1))) rfl rfl rfl
      · have H := H.2 h5
        refine xB.run oX8_change 1 (s := (36, [some (.ref 4096), some (.int (zI row)), some (.int (zI col)), some (.int (zI out)), some (.int (zI 0))], [.int (zI 0)], [r0, r1, r2, r3, zH s4 zL4 0, r5, r6, r7, r8, r9])) rfl ?_
        obtain rfl := Option.some.inj H
        exact xB.ret oX8_change (r1 := some (.int (zI 0))) rfl rfl rfl
  · have H := H.2 h1
    refine xB.run oX8_change 5 (s := (13, [some (.ref 4096), some (.int (zI row)), some (.int (zI col)), some (.int (zI out)), some (.int (zI 1))], [.int (zI col), .int (zI row)], [r0, r1, r2, r3, zH s4 zL4 0, r5, r6, r7, r8, r9])) rfl ?_
    obtain ⟨y10, e11, H⟩ := zbd H
    refine xB.call oX8_change (M2 := MX8_isPiece) rfl rfl ((t_X8_isPiece r0 r1 r2 r3 (zH s4 zL4 0) r5 r6 r7 r8 r9 row col e11).deep (by decide : 0 ≤ 0)) ?_
    show xBody MX8_change 1 16 [some (.ref 4096), some (.int (zI row)), some (.int (zI col)), some (.int (zI out)), some (.int (zI 1))] [.int (zI y10)] ([r0, r1, r2, r3, zH s4 zL4 0, r5, r6, r7, r8, r9]) _ _
    obtain ⟨g17, H⟩ := zgd H
    have H := zif H
    refine xB.brE oX8_change (P := y10 = 0) rfl (zc_eq (a := y10) (b := 0) ⟨g17, by decide⟩) (fun h12 => ?_) (fun h12 => ?_)
    · have H := H.1 h12
      refine xB.run oX8_change 1 (s := (36, [some (.ref 4096), some (.int (zI row)), some (.int (zI col)), some (.int (zI out)), some (.int (zI 1))], [.int (zI 0)], [r0, r1, r2, r3, zH s4 zL4 0, r5, r6, r7, r8, r9])) rfl ?_
      obtain rfl := Option.some.inj H
      exact xB.ret oX8_change (r1 := some (.int (zI 0))) rfl rfl rfl
    · have H := H.2 h12
      refine xB.run oX8_change 4 (s := (26, [some (.ref 4096), some (.int (zI row)), some (.int (zI col)), some (.int (zI out)), some (.int (zI 1))], [.int (zI 10), .int (zI row), .ref 4097], [r0, r1, r2, r3, zH s4 zL4 0, r5, r6, r7, r8, r9])) rfl ?_
      refine zB.opi oX8_change rfl (zi_mul row 10) ?_
      refine xB.run oX8_change 1 (s := (28, [some (.ref 4096), some (.int (zI row)), some (.int (zI col)), some (.int (zI out)), some (.int (zI 1))], [.int (zI col), .int (zI (row * 10)), .ref 4097], [r0, r1, r2, r3, zH s4 zL4 0, r5, r6, r7, r8, r9])) rfl ?_
      refine zB.opi oX8_change rfl (zi_add (row * 10) col) ?_
      obtain ⟨g16, H⟩ := zgd H
      refine zB.iald oX8_change (g := 4) (p := 1) (N := 100) (i := (row * 10) + col) rfl rfl (by decide) rfl rfl (by decide) g16 ?_
      refine xB.run oX8_change 1 (s := (32, [some (.ref 4096), some (.int (zI row)), some (.int (zI col)), some (.int (zI out)), some (.int (zI 1))], [.int (zI 1), .int (zI (s4 1 ((row * 10) + col).toNat))], [r0, r1, r2, r3, zH s4 zL4 0, r5, r6, r7, r8, r9])) rfl ?_
      obtain ⟨g15, H⟩ := zgd H
      have H := zif H
      refine xB.brE oX8_change (P := (s4 1 ((row * 10) + col).toNat) ≠ 1) rfl (zc_ne (a := s4 1 ((row * 10) + col).toNat) (b := 1) ⟨g15, by decide⟩) (fun h13 => ?_) (fun h13 => ?_)
      · have H := H.1 h13
        refine xB.run oX8_change 4 (s := (44, [some (.ref 4096), some (.int (zI row)), some (.int (zI col)), some (.int (zI out)), some (.int (zI 1))], [.int (zI 10), .int (zI row), .ref 4097], [r0, r1, r2, r3, zH s4 zL4 0, r5, r6, r7, r8, r9])) rfl ?_
        refine zB.opi oX8_change rfl (zi_mul row 10) ?_
        refine xB.run oX8_change 1 (s := (46, [some (.ref 4096), some (.int (zI row)), some (.int (zI col)), some (.int (zI out)), some (.int (zI 1))], [.int (zI col), .int (zI (row * 10)), .ref 4097], [r0, r1, r2, r3, zH s4 zL4 0, r5, r6, r7, r8, r9])) rfl ?_
        refine zB.opi oX8_change rfl (zi_add (row * 10) col) ?_
        refine xB.run oX8_change 1 (s := (49, [some (.ref 4096), some (.int (zI row)), some (.int (zI col)), some (.int (zI out)), some (.int (zI 1))], [.int (zI 1), .int (zI ((row * 10) + col)), .ref 4097], [r0, r1, r2, r3, zH s4 zL4 0, r5, r6, r7, r8, r9])) rfl ?_
        obtain ⟨g14, H⟩ := zgd H
        refine zB.iast oX8_change (g := 4) (p := 1) (N := 100) (i := (row * 10) + col) (hp1 := [r0, r1, r2, r3, zH (upz s4 1 ((row * 10) + col).toNat 1) zL4 0, r5, r6, r7, r8, r9]) rfl rfl (by decide) (by decide) rfl rfl (by decide) g14 rfl ?_
        refine xB.run oX8_change 1 (s := (51, [some (.ref 4096), some (.int (zI row)), some (.int (zI col)), some (.int (zI out)), some (.int (zI 1))], [.int (zI 1)], [r0, r1, r2, r3, zH (upz s4 1 ((row * 10) + col).toNat 1) zL4 0, r5, r6, r7, r8, r9])) rfl ?_
        obtain rfl := Option.some.inj H
        exact xB.ret oX8_change (r1 := some (.int (zI 1))) rfl rfl rfl
      · have H := H.2 h13
        refine xB.run oX8_change 1 (s := (36, [some (.ref 4096), some (.int (zI row)), some (.int (zI col)), some (.int (zI out)), some (.int (zI 1))], [.int (zI 0)], [r0, r1, r2, r3, zH s4 zL4 0, r5, r6, r7, r8, r9])) rfl ?_
        obtain rfl := Option.some.inj H
        exact xB.ret oX8_change (r1 := some (.int (zI 0))) rfl rfl rfl
def d_X8_piecesThere_4 (s4 : zZ) : Nat → Int → Int → Option (Int × Int)
  | 0, _, _ => none
  | uN + 1, there, k => if (zr k) then (if (100 : Int) ≤ k then some (there, k) else (if (0 ≤ k ∧ k < 100) then (if (zr (s4 1 k.toNat)) then (if (s4 1 k.toNat) ≠ 0 then (d_X8_piecesThere_4 s4 uN (there + 0) (k + 1)) else (d_X8_piecesThere_4 s4 uN (there + 1) (k + 1))) else none) else none)) else none
def d_X8_piecesThere (s4 : zZ) : Option (Int) := (d_X8_piecesThere_4 s4 zF 0 0).bind fun y6 => some y6.1
set_option maxRecDepth 20000 in
theorem l_X8_piecesThere_4 (r0 : List va_E) (r1 : List va_E) (r2 : List va_E) (r3 : List va_E) (s4 : zZ) (r5 : List va_E) (r6 : List va_E) (r7 : List va_E) (r8 : List va_E) (r9 : List va_E) {r : Option Value} {hp1 : xH} : ∀ (uN : Nat) (there : Int) (k : Int) {uX : Int × Int}, d_X8_piecesThere_4 s4 uN there k = some uX → (xBody MX8_piecesThere 0 33 [some (.ref 4096), some (.int (zI uX.1)), some (.int (zI uX.2))] [] ([r0, r1, r2, r3, zH s4 zL4 0, r5, r6, r7, r8, r9]) r hp1) → xBody MX8_piecesThere 0 4 [some (.ref 4096), some (.int (zI there)), some (.int (zI k))] [] ([r0, r1, r2, r3, zH s4 zL4 0, r5, r6, r7, r8, r9]) r hp1 := by
  intro uN
  induction uN with
  | zero => intro there k uX H K; cases H
  | succ uN ih =>
    intro there k uX H K
    unfold d_X8_piecesThere_4 at H
    refine xB.run oX8_piecesThere 2 (s := (7, [some (.ref 4096), some (.int (zI there)), some (.int (zI k))], [.int (zI 100), .int (zI k)], [r0, r1, r2, r3, zH s4 zL4 0, r5, r6, r7, r8, r9])) rfl ?_
    obtain ⟨g5, H⟩ := zgd H
    have H := zif H
    refine xB.brE oX8_piecesThere (P := (100 : Int) ≤ k) rfl (zc_ge (a := k) (b := 100) ⟨g5, by decide⟩) (fun h1 => ?_) (fun h1 => ?_)
    · have H := H.1 h1
      obtain rfl := Option.some.inj H
      exact K
    · have H := H.2 h1
      refine xB.run oX8_piecesThere 4 (s := (16, [some (.ref 4096), some (.int (zI there)), some (.int (zI k))], [.int (zI k), .ref 4097, .int (zI there)], [r0, r1, r2, r3, zH s4 zL4 0, r5, r6, r7, r8, r9])) rfl ?_
      obtain ⟨g4, H⟩ := zgd H
      refine zB.iald oX8_piecesThere (g := 4) (p := 1) (N := 100) (i := k) rfl rfl (by decide) rfl rfl (by decide) g4 ?_
      obtain ⟨g3, H⟩ := zgd H
      have H := zif H
      refine xB.brE oX8_piecesThere (P := (s4 1 k.toNat) ≠ 0) rfl (zc_ne (a := s4 1 k.toNat) (b := 0) ⟨g3, by decide⟩) (fun h2 => ?_) (fun h2 => ?_)
      · have H := H.1 h2
        refine xB.run oX8_piecesThere 1 (s := (25, [some (.ref 4096), some (.int (zI there)), some (.int (zI k))], [.int (zI 0), .int (zI there)], [r0, r1, r2, r3, zH s4 zL4 0, r5, r6, r7, r8, r9])) rfl ?_
        refine zB.opi oX8_piecesThere rfl (zi_add there 0) ?_
        refine xB.run oX8_piecesThere 1 (s := (27, [some (.ref 4096), some (.int (zI (there + 0))), some (.int (zI k))], [], [r0, r1, r2, r3, zH s4 zL4 0, r5, r6, r7, r8, r9])) rfl ?_
        refine zB.inc oX8_piecesThere rfl (lv2 := [some (.ref 4096), some (.int (zI (there + 0))), some (.int (zI (k + 1)))]) (zi_inc (a := 0) (zi_addp1 k) _ rfl) ?_
        refine xB.run oX8_piecesThere 1 (s := (4, [some (.ref 4096), some (.int (zI (there + 0))), some (.int (zI (k + 1)))], [], [r0, r1, r2, r3, zH s4 zL4 0, r5, r6, r7, r8, r9])) rfl ?_
        exact ih (there + 0) (k + 1) H K
      · have H := H.2 h2
        refine xB.run oX8_piecesThere 2 (s := (25, [some (.ref 4096), some (.int (zI there)), some (.int (zI k))], [.int (zI 1), .int (zI there)], [r0, r1, r2, r3, zH s4 zL4 0, r5, r6, r7, r8, r9])) rfl ?_
        refine zB.opi oX8_piecesThere rfl (zi_add there 1) ?_
        refine xB.run oX8_piecesThere 1 (s := (27, [some (.ref 4096), some (.int (zI (there + 1))), some (.int (zI k))], [], [r0, r1, r2, r3, zH s4 zL4 0, r5, r6, r7, r8, r9])) rfl ?_
        refine zB.inc oX8_piecesThere rfl (lv2 := [some (.ref 4096), some (.int (zI (there + 1))), some (.int (zI (k + 1)))]) (zi_inc (a := 0) (zi_addp1 k) _ rfl) ?_
        refine xB.run oX8_piecesThere 1 (s := (4, [some (.ref 4096), some (.int (zI (there + 1))), some (.int (zI (k + 1)))], [], [r0, r1, r2, r3, zH s4 zL4 0, r5, r6, r7, r8, r9])) rfl ?_
        exact ih (there + 1) (k + 1) H K
set_option maxRecDepth 20000 in
theorem t_X8_piecesThere (r0 : List va_E) (r1 : List va_E) (r2 : List va_E) (r3 : List va_E) (s4 : zZ) (r5 : List va_E) (r6 : List va_E) (r7 : List va_E) (r8 : List va_E) (r9 : List va_E) {rr : Int} (H : d_X8_piecesThere s4 = some rr) : xC MX8_piecesThere 0 [.ref 4096] ([r0, r1, r2, r3, zH s4 zL4 0, r5, r6, r7, r8, r9]) (some (.int (zI rr))) ([r0, r1, r2, r3, zH s4 zL4 0, r5, r6, r7, r8, r9]) := by
  refine ⟨Nat.le_of_ble_eq_true rfl, ?_⟩
  show xBody MX8_piecesThere 0 0 [some (.ref 4096), none, none] [] ([r0, r1, r2, r3, zH s4 zL4 0, r5, r6, r7, r8, r9]) _ _
  unfold d_X8_piecesThere at H
  refine xB.run oX8_piecesThere 4 (s := (4, [some (.ref 4096), some (.int (zI 0)), some (.int (zI 0))], [], [r0, r1, r2, r3, zH s4 zL4 0, r5, r6, r7, r8, r9])) rfl ?_
  obtain ⟨y6, e7, H⟩ := zbd H
  refine l_X8_piecesThere_4 r0 r1 r2 r3 s4 r5 r6 r7 r8 r9  _ 0 0 e7 ?_
  refine xB.run oX8_piecesThere 1 (s := (34, [some (.ref 4096), some (.int (zI y6.1)), some (.int (zI y6.2))], [.int (zI y6.1)], [r0, r1, r2, r3, zH s4 zL4 0, r5, r6, r7, r8, r9])) rfl ?_
  obtain rfl := Option.some.inj H
  exact xB.ret oX8_piecesThere (r1 := some (.int (zI y6.1))) rfl rfl rfl
def d_X8_isHold (s4 : zZ) (pl : Int) : Option (Int) := if (0 ≤ pl ∧ pl < 100) then (if (zr (s4 1 pl.toNat)) then (if (s4 1 pl.toNat) ≠ 0 then (if (0 ≤ pl ∧ zr pl) then ((d_X8_isAtRim (pl / 10)).bind fun y2 => if (zr y2) then (if y2 ≠ 0 then some 1 else (if (0 ≤ pl ∧ zr pl) then ((d_X8_isAtRim (pl % 10)).bind fun y5 => if (zr y5) then (if y5 = 0 then some 0 else some 1) else none) else none)) else none) else none) else (if (0 ≤ pl ∧ zr pl) then (if (zr (pl / 10)) then (if (pl / 10) ≠ 9 then some 0 else some 1) else none) else none)) else none) else none
set_option maxRecDepth 20000 in
theorem t_X8_isHold (r0 : List va_E) (r1 : List va_E) (r2 : List va_E) (r3 : List va_E) (s4 : zZ) (r5 : List va_E) (r6 : List va_E) (r7 : List va_E) (r8 : List va_E) (r9 : List va_E) (pl : Int) {rr : Int} (H : d_X8_isHold s4 pl = some rr) : xC MX8_isHold 1 [.ref 4096, .int (zI pl)] ([r0, r1, r2, r3, zH s4 zL4 0, r5, r6, r7, r8, r9]) (some (.int (zI rr))) ([r0, r1, r2, r3, zH s4 zL4 0, r5, r6, r7, r8, r9]) := by
  refine ⟨Nat.le_of_ble_eq_true rfl, ?_⟩
  show xBody MX8_isHold 1 0 [some (.ref 4096), some (.int (zI pl))] [] ([r0, r1, r2, r3, zH s4 zL4 0, r5, r6, r7, r8, r9]) _ _
  unfold d_X8_isHold at H
  refine xB.run oX8_isHold 3 (s := (5, [some (.ref 4096), some (.int (zI pl))], [.int (zI pl), .ref 4097], [r0, r1, r2, r3, zH s4 zL4 0, r5, r6, r7, r8, r9])) rfl ?_
  obtain ⟨g16, H⟩ := zgd H
  refine zB.iald oX8_isHold (g := 4) (p := 1) (N := 100) (i := pl) rfl rfl (by decide) rfl rfl (by decide) g16 ?_
  obtain ⟨g15, H⟩ := zgd H
  have H := zif H
  refine xB.brE oX8_isHold (P := (s4 1 pl.toNat) ≠ 0) rfl (zc_ne (a := s4 1 pl.toNat) (b := 0) ⟨g15, by decide⟩) (fun h1 => ?_) (fun h1 => ?_)
  · have H := H.1 h1
    refine xB.run oX8_isHold 2 (s := (27, [some (.ref 4096), some (.int (zI pl))], [.int (zI 10), .int (zI pl)], [r0, r1, r2, r3, zH s4 zL4 0, r5, r6, r7, r8, r9])) rfl ?_
    obtain ⟨g11, H⟩ := zgd H
    refine zB.divi oX8_isHold (b := 10) rfl (zi_divp g11 (by decide)) rfl (by decide) ?_
    obtain ⟨y2, e3, H⟩ := zbd H
    refine xB.call oX8_isHold (M2 := MX8_isAtRim) rfl rfl ((t_X8_isAtRim r0 r1 r2 r3 (zH s4 zL4 0) r5 r6 r7 r8 r9 (pl / 10) e3).deep (by decide : 0 ≤ 0)) ?_
    show xBody MX8_isHold 1 31 [some (.ref 4096), some (.int (zI pl))] [.int (zI y2)] ([r0, r1, r2, r3, zH s4 zL4 0, r5, r6, r7, r8, r9]) _ _
    obtain ⟨g10, H⟩ := zgd H
    have H := zif H
    refine xB.brE oX8_isHold (P := y2 ≠ 0) rfl (zc_ne (a := y2) (b := 0) ⟨g10, by decide⟩) (fun h4 => ?_) (fun h4 => ?_)
    · have H := H.1 h4
      refine xB.run oX8_isHold 2 (s := (49, [some (.ref 4096), some (.int (zI pl))], [.int (zI 1)], [r0, r1, r2, r3, zH s4 zL4 0, r5, r6, r7, r8, r9])) rfl ?_
      obtain rfl := Option.some.inj H
      exact xB.ret oX8_isHold (r1 := some (.int (zI 1))) rfl rfl rfl
    · have H := H.2 h4
      refine xB.run oX8_isHold 2 (s := (37, [some (.ref 4096), some (.int (zI pl))], [.int (zI 10), .int (zI pl)], [r0, r1, r2, r3, zH s4 zL4 0, r5, r6, r7, r8, r9])) rfl ?_
      obtain ⟨g9, H⟩ := zgd H
      refine zB.divi oX8_isHold (b := 10) rfl (zi_remp g9 (by decide)) rfl (by decide) ?_
      obtain ⟨y5, e6, H⟩ := zbd H
      refine xB.call oX8_isHold (M2 := MX8_isAtRim) rfl rfl ((t_X8_isAtRim r0 r1 r2 r3 (zH s4 zL4 0) r5 r6 r7 r8 r9 (pl % 10) e6).deep (by decide : 0 ≤ 0)) ?_
      show xBody MX8_isHold 1 41 [some (.ref 4096), some (.int (zI pl))] [.int (zI y5)] ([r0, r1, r2, r3, zH s4 zL4 0, r5, r6, r7, r8, r9]) _ _
      obtain ⟨g8, H⟩ := zgd H
      have H := zif H
      refine xB.brE oX8_isHold (P := y5 = 0) rfl (zc_eq (a := y5) (b := 0) ⟨g8, by decide⟩) (fun h7 => ?_) (fun h7 => ?_)
      · have H := H.1 h7
        refine xB.run oX8_isHold 1 (s := (49, [some (.ref 4096), some (.int (zI pl))], [.int (zI 0)], [r0, r1, r2, r3, zH s4 zL4 0, r5, r6, r7, r8, r9])) rfl ?_
        obtain rfl := Option.some.inj H
        exact xB.ret oX8_isHold (r1 := some (.int (zI 0))) rfl rfl rfl
      · have H := H.2 h7
        refine xB.run oX8_isHold 2 (s := (49, [some (.ref 4096), some (.int (zI pl))], [.int (zI 1)], [r0, r1, r2, r3, zH s4 zL4 0, r5, r6, r7, r8, r9])) rfl ?_
        obtain rfl := Option.some.inj H
        exact xB.ret oX8_isHold (r1 := some (.int (zI 1))) rfl rfl rfl
  · have H := H.2 h1
    refine xB.run oX8_isHold 2 (s := (12, [some (.ref 4096), some (.int (zI pl))], [.int (zI 10), .int (zI pl)], [r0, r1, r2, r3, zH s4 zL4 0, r5, r6, r7, r8, r9])) rfl ?_
    obtain ⟨g14, H⟩ := zgd H
    refine zB.divi oX8_isHold (b := 10) rfl (zi_divp g14 (by decide)) rfl (by decide) ?_
    refine xB.run oX8_isHold 1 (s := (15, [some (.ref 4096), some (.int (zI pl))], [.int (zI 9), .int (zI (pl / 10))], [r0, r1, r2, r3, zH s4 zL4 0, r5, r6, r7, r8, r9])) rfl ?_
    obtain ⟨g13, H⟩ := zgd H
    have H := zif H
    refine xB.brE oX8_isHold (P := (pl / 10) ≠ 9) rfl (zc_ne (a := pl / 10) (b := 9) ⟨g13, by decide⟩) (fun h12 => ?_) (fun h12 => ?_)
    · have H := H.1 h12
      refine xB.run oX8_isHold 1 (s := (23, [some (.ref 4096), some (.int (zI pl))], [.int (zI 0)], [r0, r1, r2, r3, zH s4 zL4 0, r5, r6, r7, r8, r9])) rfl ?_
      obtain rfl := Option.some.inj H
      exact xB.ret oX8_isHold (r1 := some (.int (zI 0))) rfl rfl rfl
    · have H := H.2 h12
      refine xB.run oX8_isHold 2 (s := (23, [some (.ref 4096), some (.int (zI pl))], [.int (zI 1)], [r0, r1, r2, r3, zH s4 zL4 0, r5, r6, r7, r8, r9])) rfl ?_
      obtain rfl := Option.some.inj H
      exact xB.ret oX8_isHold (r1 := some (.int (zI 1))) rfl rfl rfl
def d_X8_neighbour (pl : Int) (way : Int) : Option (Int) := if (0 ≤ pl ∧ zr pl) then (if (0 ≤ way ∧ way < 8) then (if (0 ≤ pl ∧ zr pl) then (if (0 ≤ way ∧ way < 8) then ((d_X8_isPiece ((pl / 10) + (zrowS way.toNat)) ((pl % 10) + (zcolS way.toNat))).bind fun y1 => if (zr y1) then (if y1 = 0 then some (-1) else some ((((pl / 10) + (zrowS way.toNat)) * 10) + ((pl % 10) + (zcolS way.toNat)))) else none) else none) else none) else none) else none
set_option maxRecDepth 20000 in
theorem t_X8_neighbour (r0 : List va_E) (r1 : List va_E) (r2 : List va_E) (r3 : List va_E) (r4 : List va_E) (r5 : List va_E) (r6 : List va_E) (r7 : List va_E) (r8 : List va_E) (E9 : va_E) (pl : Int) (way : Int) {rr : Int} (H : d_X8_neighbour pl way = some rr) : xC MX8_neighbour 1 [.int (zI pl), .int (zI way)] ([r0, r1, r2, r3, r4, r5, r6, r7, r8, z9 E9]) (some (.int (zI rr))) ([r0, r1, r2, r3, r4, r5, r6, r7, r8, z9 E9]) := by
  refine ⟨Nat.le_of_ble_eq_true rfl, ?_⟩
  show xBody MX8_neighbour 1 0 [some (.int (zI pl)), some (.int (zI way)), none, none] [] ([r0, r1, r2, r3, r4, r5, r6, r7, r8, z9 E9]) _ _
  unfold d_X8_neighbour at H
  refine xB.run oX8_neighbour 2 (s := (3, [some (.int (zI pl)), some (.int (zI way)), none, none], [.int (zI 10), .int (zI pl)], [r0, r1, r2, r3, r4, r5, r6, r7, r8, z9 E9])) rfl ?_
  obtain ⟨g8, H⟩ := zgd H
  refine zB.divi oX8_neighbour (b := 10) rfl (zi_divp g8 (by decide)) rfl (by decide) ?_
  refine xB.run oX8_neighbour 2 (s := (8, [some (.int (zI pl)), some (.int (zI way)), none, none], [.int (zI way), .ref 9217, .int (zI (pl / 10))], [r0, r1, r2, r3, r4, r5, r6, r7, r8, z9 E9])) rfl ?_
  obtain ⟨g7, H⟩ := zgd H
  refine zB.iald9_1 oX8_neighbour rfl rfl g7 ?_
  refine zB.opi oX8_neighbour rfl (zi_add (pl / 10) (zrowS way.toNat)) ?_
  refine xB.run oX8_neighbour 3 (s := (14, [some (.int (zI pl)), some (.int (zI way)), some (.int (zI ((pl / 10) + (zrowS way.toNat)))), none], [.int (zI 10), .int (zI pl)], [r0, r1, r2, r3, r4, r5, r6, r7, r8, z9 E9])) rfl ?_
  obtain ⟨g6, H⟩ := zgd H
  refine zB.divi oX8_neighbour (b := 10) rfl (zi_remp g6 (by decide)) rfl (by decide) ?_
  refine xB.run oX8_neighbour 2 (s := (19, [some (.int (zI pl)), some (.int (zI way)), some (.int (zI ((pl / 10) + (zrowS way.toNat)))), none], [.int (zI way), .ref 9218, .int (zI (pl % 10))], [r0, r1, r2, r3, r4, r5, r6, r7, r8, z9 E9])) rfl ?_
  obtain ⟨g5, H⟩ := zgd H
  refine zB.iald9_2 oX8_neighbour rfl rfl g5 ?_
  refine zB.opi oX8_neighbour rfl (zi_add (pl % 10) (zcolS way.toNat)) ?_
  refine xB.run oX8_neighbour 3 (s := (24, [some (.int (zI pl)), some (.int (zI way)), some (.int (zI ((pl / 10) + (zrowS way.toNat)))), some (.int (zI ((pl % 10) + (zcolS way.toNat))))], [.int (zI ((pl % 10) + (zcolS way.toNat))), .int (zI ((pl / 10) + (zrowS way.toNat)))], [r0, r1, r2, r3, r4, r5, r6, r7, r8, z9 E9])) rfl ?_
  obtain ⟨y1, e2, H⟩ := zbd H
  refine xB.call oX8_neighbour (M2 := MX8_isPiece) rfl rfl ((t_X8_isPiece r0 r1 r2 r3 r4 r5 r6 r7 r8 (z9 E9) ((pl / 10) + (zrowS way.toNat)) ((pl % 10) + (zcolS way.toNat)) e2).deep (by decide : 0 ≤ 0)) ?_
  show xBody MX8_neighbour 1 27 [some (.int (zI pl)), some (.int (zI way)), some (.int (zI ((pl / 10) + (zrowS way.toNat)))), some (.int (zI ((pl % 10) + (zcolS way.toNat))))] [.int (zI y1)] ([r0, r1, r2, r3, r4, r5, r6, r7, r8, z9 E9]) _ _
  obtain ⟨g4, H⟩ := zgd H
  have H := zif H
  refine xB.brE oX8_neighbour (P := y1 = 0) rfl (zc_eq (a := y1) (b := 0) ⟨g4, by decide⟩) (fun h3 => ?_) (fun h3 => ?_)
  · have H := H.1 h3
    refine xB.run oX8_neighbour 1 (s := (40, [some (.int (zI pl)), some (.int (zI way)), some (.int (zI ((pl / 10) + (zrowS way.toNat)))), some (.int (zI ((pl % 10) + (zcolS way.toNat))))], [.int (zI (-1))], [r0, r1, r2, r3, r4, r5, r6, r7, r8, z9 E9])) rfl ?_
    obtain rfl := Option.some.inj H
    exact xB.ret oX8_neighbour (r1 := some (.int (zI (-1)))) rfl rfl rfl
  · have H := H.2 h3
    refine xB.run oX8_neighbour 2 (s := (33, [some (.int (zI pl)), some (.int (zI way)), some (.int (zI ((pl / 10) + (zrowS way.toNat)))), some (.int (zI ((pl % 10) + (zcolS way.toNat))))], [.int (zI 10), .int (zI ((pl / 10) + (zrowS way.toNat)))], [r0, r1, r2, r3, r4, r5, r6, r7, r8, z9 E9])) rfl ?_
    refine zB.opi oX8_neighbour rfl (zi_mul ((pl / 10) + (zrowS way.toNat)) 10) ?_
    refine xB.run oX8_neighbour 1 (s := (35, [some (.int (zI pl)), some (.int (zI way)), some (.int (zI ((pl / 10) + (zrowS way.toNat)))), some (.int (zI ((pl % 10) + (zcolS way.toNat))))], [.int (zI ((pl % 10) + (zcolS way.toNat))), .int (zI (((pl / 10) + (zrowS way.toNat)) * 10))], [r0, r1, r2, r3, r4, r5, r6, r7, r8, z9 E9])) rfl ?_
    refine zB.opi oX8_neighbour rfl (zi_add (((pl / 10) + (zrowS way.toNat)) * 10) ((pl % 10) + (zcolS way.toNat))) ?_
    refine xB.run oX8_neighbour 1 (s := (40, [some (.int (zI pl)), some (.int (zI way)), some (.int (zI ((pl / 10) + (zrowS way.toNat)))), some (.int (zI ((pl % 10) + (zcolS way.toNat))))], [.int (zI ((((pl / 10) + (zrowS way.toNat)) * 10) + ((pl % 10) + (zcolS way.toNat))))], [r0, r1, r2, r3, r4, r5, r6, r7, r8, z9 E9])) rfl ?_
    obtain rfl := Option.some.inj H
    exact xB.ret oX8_neighbour (r1 := some (.int (zI ((((pl / 10) + (zrowS way.toNat)) * 10) + ((pl % 10) + (zcolS way.toNat)))))) rfl rfl rfl
def d_X8_lineUp (s4 : zZ) (pl : Int) : Option (zZ) := if (0 ≤ pl ∧ pl < 100) then (if (zr (s4 2 pl.toNat)) then (if (s4 2 pl.toNat) ≠ 0 then some s4 else (if (zr (s4 0 3)) then (if (100 : Int) ≤ (s4 0 3) then some s4 else (if (0 ≤ pl ∧ pl < 100) then (if (0 ≤ ((upz s4 2 pl.toNat 1) 0 3) ∧ ((upz s4 2 pl.toNat 1) 0 3) < 100) then some (upz (upz (upz s4 2 pl.toNat 1) 3 ((upz s4 2 pl.toNat 1) 0 3).toNat pl) 0 3 (((upz (upz s4 2 pl.toNat 1) 3 ((upz s4 2 pl.toNat 1) 0 3).toNat pl) 0 3) + 1)) else none) else none)) else none)) else none) else none
set_option maxRecDepth 20000 in
theorem t_X8_lineUp (r0 : List va_E) (r1 : List va_E) (r2 : List va_E) (r3 : List va_E) (s4 : zZ) (r5 : List va_E) (r6 : List va_E) (r7 : List va_E) (r8 : List va_E) (r9 : List va_E) (pl : Int) {rr : zZ} (H : d_X8_lineUp s4 pl = some rr) : xC MX8_lineUp 0 [.ref 4096, .int (zI pl)] ([r0, r1, r2, r3, zH s4 zL4 0, r5, r6, r7, r8, r9]) (none) ([r0, r1, r2, r3, zH rr zL4 0, r5, r6, r7, r8, r9]) := by
  refine ⟨Nat.le_of_ble_eq_true rfl, ?_⟩
  show xBody MX8_lineUp 0 0 [some (.ref 4096), some (.int (zI pl))] [] ([r0, r1, r2, r3, zH s4 zL4 0, r5, r6, r7, r8, r9]) _ _
  unfold d_X8_lineUp at H
  refine xB.run oX8_lineUp 3 (s := (5, [some (.ref 4096), some (.int (zI pl))], [.int (zI pl), .ref 4098], [r0, r1, r2, r3, zH s4 zL4 0, r5, r6, r7, r8, r9])) rfl ?_
  obtain ⟨g7, H⟩ := zgd H
  refine zB.iald oX8_lineUp (g := 4) (p := 2) (N := 100) (i := pl) rfl rfl (by decide) rfl rfl (by decide) g7 ?_
  obtain ⟨g6, H⟩ := zgd H
  have H := zif H
  refine xB.brE oX8_lineUp (P := (s4 2 pl.toNat) ≠ 0) rfl (zc_ne (a := s4 2 pl.toNat) (b := 0) ⟨g6, by decide⟩) (fun h1 => ?_) (fun h1 => ?_)
  · have H := H.1 h1
    obtain rfl := Option.some.inj H
    exact xB.ret oX8_lineUp (r1 := none) rfl rfl rfl
  · have H := H.2 h1
    refine xB.run oX8_lineUp 3 (s := (15, [some (.ref 4096), some (.int (zI pl))], [.int (zI 100), .int (zI (s4 0 3))], [r0, r1, r2, r3, zH s4 zL4 0, r5, r6, r7, r8, r9])) rfl ?_
    obtain ⟨g5, H⟩ := zgd H
    have H := zif H
    refine xB.brE oX8_lineUp (P := (100 : Int) ≤ (s4 0 3)) rfl (zc_ge (a := s4 0 3) (b := 100) ⟨g5, by decide⟩) (fun h2 => ?_) (fun h2 => ?_)
    · have H := H.1 h2
      obtain rfl := Option.some.inj H
      exact xB.ret oX8_lineUp (r1 := none) rfl rfl rfl
    · have H := H.2 h2
      refine xB.run oX8_lineUp 4 (s := (24, [some (.ref 4096), some (.int (zI pl))], [.int (zI 1), .int (zI pl), .ref 4098], [r0, r1, r2, r3, zH s4 zL4 0, r5, r6, r7, r8, r9])) rfl ?_
      obtain ⟨g4, H⟩ := zgd H
      refine zB.iast oX8_lineUp (g := 4) (p := 2) (N := 100) (i := pl) (hp1 := [r0, r1, r2, r3, zH (upz s4 2 pl.toNat 1) zL4 0, r5, r6, r7, r8, r9]) rfl rfl (by decide) (by decide) rfl rfl (by decide) g4 rfl ?_
      refine xB.run oX8_lineUp 5 (s := (34, [some (.ref 4096), some (.int (zI pl))], [.int (zI pl), .int (zI ((upz s4 2 pl.toNat 1) 0 3)), .ref 4099], [r0, r1, r2, r3, zH (upz s4 2 pl.toNat 1) zL4 0, r5, r6, r7, r8, r9])) rfl ?_
      obtain ⟨g3, H⟩ := zgd H
      refine zB.iast oX8_lineUp (g := 4) (p := 3) (N := 100) (i := (upz s4 2 pl.toNat 1) 0 3) (hp1 := [r0, r1, r2, r3, zH (upz (upz s4 2 pl.toNat 1) 3 ((upz s4 2 pl.toNat 1) 0 3).toNat pl) zL4 0, r5, r6, r7, r8, r9]) rfl rfl (by decide) (by decide) rfl rfl (by decide) g3 rfl ?_
      refine xB.run oX8_lineUp 4 (s := (41, [some (.ref 4096), some (.int (zI pl))], [.int (zI 1), .int (zI ((upz (upz s4 2 pl.toNat 1) 3 ((upz s4 2 pl.toNat 1) 0 3).toNat pl) 0 3)), .ref 4096], [r0, r1, r2, r3, zH (upz (upz s4 2 pl.toNat 1) 3 ((upz s4 2 pl.toNat 1) 0 3).toNat pl) zL4 0, r5, r6, r7, r8, r9])) rfl ?_
      refine zB.opi oX8_lineUp rfl (zi_add ((upz (upz s4 2 pl.toNat 1) 3 ((upz s4 2 pl.toNat 1) 0 3).toNat pl) 0 3) 1) ?_
      refine zB.putI oX8_lineUp (g := 4) (p := 0) (c := 8) (k := 3) (y := 0) (hp1 := [r0, r1, r2, r3, zH (upz (upz (upz s4 2 pl.toNat 1) 3 ((upz s4 2 pl.toNat 1) 0 3).toNat pl) 0 3 (((upz (upz s4 2 pl.toNat 1) 3 ((upz s4 2 pl.toNat 1) 0 3).toNat pl) 0 3) + 1)) zL4 0, r5, r6, r7, r8, r9]) rfl rfl (by decide) (by decide) rfl rfl rfl rfl rfl rfl ?_
      obtain rfl := Option.some.inj H
      exact xB.ret oX8_lineUp (r1 := none) rfl rfl rfl
def d_X8_lineUpForLater (s4 : zZ) (pl : Int) : Option (zZ) := if (0 ≤ pl ∧ pl < 100) then (if (zr (s4 2 pl.toNat)) then (if (s4 2 pl.toNat) ≠ 0 then some s4 else (if (zr (s4 0 5)) then (if (100 : Int) ≤ (s4 0 5) then some s4 else (if (0 ≤ pl ∧ pl < 100) then (if (0 ≤ ((upz s4 2 pl.toNat 1) 0 5) ∧ ((upz s4 2 pl.toNat 1) 0 5) < 100) then some (upz (upz (upz s4 2 pl.toNat 1) 4 ((upz s4 2 pl.toNat 1) 0 5).toNat pl) 0 5 (((upz (upz s4 2 pl.toNat 1) 4 ((upz s4 2 pl.toNat 1) 0 5).toNat pl) 0 5) + 1)) else none) else none)) else none)) else none) else none
set_option maxRecDepth 20000 in
theorem t_X8_lineUpForLater (r0 : List va_E) (r1 : List va_E) (r2 : List va_E) (r3 : List va_E) (s4 : zZ) (r5 : List va_E) (r6 : List va_E) (r7 : List va_E) (r8 : List va_E) (r9 : List va_E) (pl : Int) {rr : zZ} (H : d_X8_lineUpForLater s4 pl = some rr) : xC MX8_lineUpForLater 0 [.ref 4096, .int (zI pl)] ([r0, r1, r2, r3, zH s4 zL4 0, r5, r6, r7, r8, r9]) (none) ([r0, r1, r2, r3, zH rr zL4 0, r5, r6, r7, r8, r9]) := by
  refine ⟨Nat.le_of_ble_eq_true rfl, ?_⟩
  show xBody MX8_lineUpForLater 0 0 [some (.ref 4096), some (.int (zI pl))] [] ([r0, r1, r2, r3, zH s4 zL4 0, r5, r6, r7, r8, r9]) _ _
  unfold d_X8_lineUpForLater at H
  refine xB.run oX8_lineUpForLater 3 (s := (5, [some (.ref 4096), some (.int (zI pl))], [.int (zI pl), .ref 4098], [r0, r1, r2, r3, zH s4 zL4 0, r5, r6, r7, r8, r9])) rfl ?_
  obtain ⟨g7, H⟩ := zgd H
  refine zB.iald oX8_lineUpForLater (g := 4) (p := 2) (N := 100) (i := pl) rfl rfl (by decide) rfl rfl (by decide) g7 ?_
  obtain ⟨g6, H⟩ := zgd H
  have H := zif H
  refine xB.brE oX8_lineUpForLater (P := (s4 2 pl.toNat) ≠ 0) rfl (zc_ne (a := s4 2 pl.toNat) (b := 0) ⟨g6, by decide⟩) (fun h1 => ?_) (fun h1 => ?_)
  · have H := H.1 h1
    obtain rfl := Option.some.inj H
    exact xB.ret oX8_lineUpForLater (r1 := none) rfl rfl rfl
  · have H := H.2 h1
    refine xB.run oX8_lineUpForLater 3 (s := (15, [some (.ref 4096), some (.int (zI pl))], [.int (zI 100), .int (zI (s4 0 5))], [r0, r1, r2, r3, zH s4 zL4 0, r5, r6, r7, r8, r9])) rfl ?_
    obtain ⟨g5, H⟩ := zgd H
    have H := zif H
    refine xB.brE oX8_lineUpForLater (P := (100 : Int) ≤ (s4 0 5)) rfl (zc_ge (a := s4 0 5) (b := 100) ⟨g5, by decide⟩) (fun h2 => ?_) (fun h2 => ?_)
    · have H := H.1 h2
      obtain rfl := Option.some.inj H
      exact xB.ret oX8_lineUpForLater (r1 := none) rfl rfl rfl
    · have H := H.2 h2
      refine xB.run oX8_lineUpForLater 4 (s := (24, [some (.ref 4096), some (.int (zI pl))], [.int (zI 1), .int (zI pl), .ref 4098], [r0, r1, r2, r3, zH s4 zL4 0, r5, r6, r7, r8, r9])) rfl ?_
      obtain ⟨g4, H⟩ := zgd H
      refine zB.iast oX8_lineUpForLater (g := 4) (p := 2) (N := 100) (i := pl) (hp1 := [r0, r1, r2, r3, zH (upz s4 2 pl.toNat 1) zL4 0, r5, r6, r7, r8, r9]) rfl rfl (by decide) (by decide) rfl rfl (by decide) g4 rfl ?_
      refine xB.run oX8_lineUpForLater 5 (s := (34, [some (.ref 4096), some (.int (zI pl))], [.int (zI pl), .int (zI ((upz s4 2 pl.toNat 1) 0 5)), .ref 4100], [r0, r1, r2, r3, zH (upz s4 2 pl.toNat 1) zL4 0, r5, r6, r7, r8, r9])) rfl ?_
      obtain ⟨g3, H⟩ := zgd H
      refine zB.iast oX8_lineUpForLater (g := 4) (p := 4) (N := 100) (i := (upz s4 2 pl.toNat 1) 0 5) (hp1 := [r0, r1, r2, r3, zH (upz (upz s4 2 pl.toNat 1) 4 ((upz s4 2 pl.toNat 1) 0 5).toNat pl) zL4 0, r5, r6, r7, r8, r9]) rfl rfl (by decide) (by decide) rfl rfl (by decide) g3 rfl ?_
      refine xB.run oX8_lineUpForLater 4 (s := (41, [some (.ref 4096), some (.int (zI pl))], [.int (zI 1), .int (zI ((upz (upz s4 2 pl.toNat 1) 4 ((upz s4 2 pl.toNat 1) 0 5).toNat pl) 0 5)), .ref 4096], [r0, r1, r2, r3, zH (upz (upz s4 2 pl.toNat 1) 4 ((upz s4 2 pl.toNat 1) 0 5).toNat pl) zL4 0, r5, r6, r7, r8, r9])) rfl ?_
      refine zB.opi oX8_lineUpForLater rfl (zi_add ((upz (upz s4 2 pl.toNat 1) 4 ((upz s4 2 pl.toNat 1) 0 5).toNat pl) 0 5) 1) ?_
      refine zB.putI oX8_lineUpForLater (g := 4) (p := 0) (c := 8) (k := 5) (y := 0) (hp1 := [r0, r1, r2, r3, zH (upz (upz (upz s4 2 pl.toNat 1) 4 ((upz s4 2 pl.toNat 1) 0 5).toNat pl) 0 5 (((upz (upz s4 2 pl.toNat 1) 4 ((upz s4 2 pl.toNat 1) 0 5).toNat pl) 0 5) + 1)) zL4 0, r5, r6, r7, r8, r9]) rfl rfl (by decide) (by decide) rfl rfl rfl rfl rfl rfl ?_
      obtain rfl := Option.some.inj H
      exact xB.ret oX8_lineUpForLater (r1 := none) rfl rfl rfl
def d_X8_comeTo (s4 : zZ) (pl : Int) : Option (zZ) := if (0 ≤ pl ∧ pl < 100) then (if (zr (s4 1 pl.toNat)) then (if (s4 1 pl.toNat) ≠ 1 then ((d_X8_lineUpForLater s4 pl).bind fun y2 => some y2) else ((d_X8_lineUp s4 pl).bind fun y4 => some y4)) else none) else none
set_option maxRecDepth 20000 in
theorem t_X8_comeTo (r0 : List va_E) (r1 : List va_E) (r2 : List va_E) (r3 : List va_E) (s4 : zZ) (r5 : List va_E) (r6 : List va_E) (r7 : List va_E) (r8 : List va_E) (r9 : List va_E) (pl : Int) {rr : zZ} (H : d_X8_comeTo s4 pl = some rr) : xC MX8_comeTo 1 [.ref 4096, .int (zI pl)] ([r0, r1, r2, r3, zH s4 zL4 0, r5, r6, r7, r8, r9]) (none) ([r0, r1, r2, r3, zH rr zL4 0, r5, r6, r7, r8, r9]) := by
  refine ⟨Nat.le_of_ble_eq_true rfl, ?_⟩
  show xBody MX8_comeTo 1 0 [some (.ref 4096), some (.int (zI pl))] [] ([r0, r1, r2, r3, zH s4 zL4 0, r5, r6, r7, r8, r9]) _ _
  unfold d_X8_comeTo at H
  refine xB.run oX8_comeTo 3 (s := (5, [some (.ref 4096), some (.int (zI pl))], [.int (zI pl), .ref 4097], [r0, r1, r2, r3, zH s4 zL4 0, r5, r6, r7, r8, r9])) rfl ?_
  obtain ⟨g7, H⟩ := zgd H
  refine zB.iald oX8_comeTo (g := 4) (p := 1) (N := 100) (i := pl) rfl rfl (by decide) rfl rfl (by decide) g7 ?_
  refine xB.run oX8_comeTo 1 (s := (7, [some (.ref 4096), some (.int (zI pl))], [.int (zI 1), .int (zI (s4 1 pl.toNat))], [r0, r1, r2, r3, zH s4 zL4 0, r5, r6, r7, r8, r9])) rfl ?_
  obtain ⟨g6, H⟩ := zgd H
  have H := zif H
  refine xB.brE oX8_comeTo (P := (s4 1 pl.toNat) ≠ 1) rfl (zc_ne (a := s4 1 pl.toNat) (b := 1) ⟨g6, by decide⟩) (fun h1 => ?_) (fun h1 => ?_)
  · have H := H.1 h1
    refine xB.run oX8_comeTo 2 (s := (20, [some (.ref 4096), some (.int (zI pl))], [.int (zI pl), .ref 4096], [r0, r1, r2, r3, zH s4 zL4 0, r5, r6, r7, r8, r9])) rfl ?_
    obtain ⟨y2, e3, H⟩ := zbd H
    refine xB.call oX8_comeTo (M2 := MX8_lineUpForLater) rfl rfl ((t_X8_lineUpForLater r0 r1 r2 r3 s4 r5 r6 r7 r8 r9 pl e3).deep (by decide : 0 ≤ 0)) ?_
    show xBody MX8_comeTo 1 23 [some (.ref 4096), some (.int (zI pl))] [] ([r0, r1, r2, r3, zH y2 zL4 0, r5, r6, r7, r8, r9]) _ _
    obtain rfl := Option.some.inj H
    exact xB.ret oX8_comeTo (r1 := none) rfl rfl rfl
  · have H := H.2 h1
    refine xB.run oX8_comeTo 2 (s := (12, [some (.ref 4096), some (.int (zI pl))], [.int (zI pl), .ref 4096], [r0, r1, r2, r3, zH s4 zL4 0, r5, r6, r7, r8, r9])) rfl ?_
    obtain ⟨y4, e5, H⟩ := zbd H
    refine xB.call oX8_comeTo (M2 := MX8_lineUp) rfl rfl ((t_X8_lineUp r0 r1 r2 r3 s4 r5 r6 r7 r8 r9 pl e5).deep (by decide : 0 ≤ 0)) ?_
    show xBody MX8_comeTo 1 15 [some (.ref 4096), some (.int (zI pl))] [] ([r0, r1, r2, r3, zH y4 zL4 0, r5, r6, r7, r8, r9]) _ _
    refine xB.run oX8_comeTo 1 (s := (23, [some (.ref 4096), some (.int (zI pl))], [], [r0, r1, r2, r3, zH y4 zL4 0, r5, r6, r7, r8, r9])) rfl ?_
    obtain rfl := Option.some.inj H
    exact xB.ret oX8_comeTo (r1 := none) rfl rfl rfl
def d_X8_reachesHold_72 (st : Int) (ways : Int) (held : Int) (step : Int) (pl : Int) : Nat → Int → zZ → Option (Int × zZ)
  | 0, _, _ => none
  | uN + 1, way, s4 => if (zr way ∧ zr ways) then (if ways ≤ way then some (way, s4) else ((d_X8_neighbour pl way).bind fun y7 => if (zr y7) then (if y7 < 0 then (d_X8_reachesHold_72 st ways held step pl uN (way + 1) s4) else (if (0 ≤ y7 ∧ y7 < 100) then (if (0 ≤ st ∧ st < 100) then (if (zr (s4 1 y7.toNat) ∧ zr (s4 1 st.toNat)) then (if (s4 1 y7.toNat) ≠ (s4 1 st.toNat) then (d_X8_reachesHold_72 st ways held step pl uN (way + 1) s4) else ((d_X8_lineUp s4 y7).bind fun y11 => d_X8_reachesHold_72 st ways held step pl uN (way + 1) y11)) else none) else none) else none)) else none)) else none
def d_X8_reachesHold_15 (st : Int) (ways : Int) : Nat → Int → Int → zZ → Option (Int × Int × zZ)
  | 0, _, _, _ => none
  | uN + 1, held, step, s4 => if (zr step) then (if (100 : Int) ≤ step then some (held, step, s4) else (if (zr (s4 0 3)) then (if (s4 0 3) ≤ 0 then some (held, step, s4) else (if (0 ≤ ((upz s4 0 3 ((s4 0 3) - 1)) 0 3) ∧ ((upz s4 0 3 ((s4 0 3) - 1)) 0 3) < 100) then (if (zr held) then (if held ≠ 0 then ((d_X8_reachesHold_72 st ways 1 step ((upz s4 0 3 ((s4 0 3) - 1)) 3 ((upz s4 0 3 ((s4 0 3) - 1)) 0 3).toNat) zF 0 (upz s4 0 3 ((s4 0 3) - 1))).bind fun y18 => d_X8_reachesHold_15 st ways uN 1 (step + 1) y18.2) else ((d_X8_isHold (upz s4 0 3 ((s4 0 3) - 1)) ((upz s4 0 3 ((s4 0 3) - 1)) 3 ((upz s4 0 3 ((s4 0 3) - 1)) 0 3).toNat)).bind fun y20 => if (zr y20) then (if y20 = 0 then ((d_X8_reachesHold_72 st ways 0 step ((upz s4 0 3 ((s4 0 3) - 1)) 3 ((upz s4 0 3 ((s4 0 3) - 1)) 0 3).toNat) zF 0 (upz s4 0 3 ((s4 0 3) - 1))).bind fun y23 => d_X8_reachesHold_15 st ways uN 0 (step + 1) y23.2) else ((d_X8_reachesHold_72 st ways 1 step ((upz s4 0 3 ((s4 0 3) - 1)) 3 ((upz s4 0 3 ((s4 0 3) - 1)) 0 3).toNat) zF 0 (upz s4 0 3 ((s4 0 3) - 1))).bind fun y25 => d_X8_reachesHold_15 st ways uN 1 (step + 1) y25.2)) else none)) else none) else none)) else none)) else none
def d_X8_reachesHold (s4 : zZ) (st : Int) (ways : Int) : Option (Int × zZ) := (d_X8_lineUp (upz s4 0 3 0) st).bind fun y1 => (d_X8_reachesHold_15 st ways zF 0 0 y1).bind fun y32 => if (y32.1 = 0 ∨ y32.1 = 1) then some (y32.1, y32.2.2) else none
set_option maxRecDepth 20000 in
theorem l_X8_reachesHold_72 (r0 : List va_E) (r1 : List va_E) (r2 : List va_E) (r3 : List va_E) (r5 : List va_E) (r6 : List va_E) (r7 : List va_E) (r8 : List va_E) (E9 : va_E) (st : Int) (ways : Int) (held : Int) (step : Int) (pl : Int) {r : Option Value} {hp1 : xH} : ∀ (uN : Nat) (way : Int) (s4 : zZ) {uX : Int × zZ}, d_X8_reachesHold_72 st ways held step pl uN way s4 = some uX → (xBody MX8_reachesHold 2 120 [some (.ref 4096), some (.int (zI st)), some (.int (zI ways)), some (.int (zI held)), some (.int (zI step)), some (.int (zI pl)), some (.int (zI uX.1)), none] [] ([r0, r1, r2, r3, zH uX.2 zL4 0, r5, r6, r7, r8, z9 E9]) r hp1) → xBody MX8_reachesHold 2 72 [some (.ref 4096), some (.int (zI st)), some (.int (zI ways)), some (.int (zI held)), some (.int (zI step)), some (.int (zI pl)), some (.int (zI way)), none] [] ([r0, r1, r2, r3, zH s4 zL4 0, r5, r6, r7, r8, z9 E9]) r hp1 := by
  intro uN
  induction uN with
  | zero => intro way s4 uX H K; cases H
  | succ uN ih =>
    intro way s4 uX H K
    unfold d_X8_reachesHold_72 at H
    refine xB.run oX8_reachesHold 2 (s := (75, [some (.ref 4096), some (.int (zI st)), some (.int (zI ways)), some (.int (zI held)), some (.int (zI step)), some (.int (zI pl)), some (.int (zI way)), none], [.int (zI ways), .int (zI way)], [r0, r1, r2, r3, zH s4 zL4 0, r5, r6, r7, r8, z9 E9])) rfl ?_
    obtain ⟨g17, H⟩ := zgd H
    have H := zif H
    refine xB.brE oX8_reachesHold (P := ways ≤ way) rfl (zc_ge (a := way) (b := ways) g17) (fun h6 => ?_) (fun h6 => ?_)
    · have H := H.1 h6
      obtain rfl := Option.some.inj H
      exact K
    · have H := H.2 h6
      refine xB.run oX8_reachesHold 2 (s := (82, [some (.ref 4096), some (.int (zI st)), some (.int (zI ways)), some (.int (zI held)), some (.int (zI step)), some (.int (zI pl)), some (.int (zI way)), none], [.int (zI way), .int (zI pl)], [r0, r1, r2, r3, zH s4 zL4 0, r5, r6, r7, r8, z9 E9])) rfl ?_
      obtain ⟨y7, e8, H⟩ := zbd H
      refine xB.call oX8_reachesHold (M2 := MX8_neighbour) rfl rfl ((t_X8_neighbour r0 r1 r2 r3 (zH s4 zL4 0) r5 r6 r7 r8 E9 pl way e8).deep (by decide : 1 ≤ 1)) ?_
      show xBody MX8_reachesHold 2 85 [some (.ref 4096), some (.int (zI st)), some (.int (zI ways)), some (.int (zI held)), some (.int (zI step)), some (.int (zI pl)), some (.int (zI way)), none] [.int (zI y7)] ([r0, r1, r2, r3, zH s4 zL4 0, r5, r6, r7, r8, z9 E9]) _ _
      refine xB.run oX8_reachesHold 2 (s := (89, [some (.ref 4096), some (.int (zI st)), some (.int (zI ways)), some (.int (zI held)), some (.int (zI step)), some (.int (zI pl)), some (.int (zI way)), some (.int (zI y7))], [.int (zI y7)], [r0, r1, r2, r3, zH s4 zL4 0, r5, r6, r7, r8, z9 E9])) rfl ?_
      obtain ⟨g16, H⟩ := zgd H
      have H := zif H
      refine xB.brE oX8_reachesHold (P := y7 < 0) rfl (zc_lt (a := y7) (b := 0) ⟨g16, by decide⟩) (fun h9 => ?_) (fun h9 => ?_)
      · have H := H.1 h9
        refine zB.inc oX8_reachesHold rfl (lv2 := [some (.ref 4096), some (.int (zI st)), some (.int (zI ways)), some (.int (zI held)), some (.int (zI step)), some (.int (zI pl)), some (.int (zI (way + 1))), some (.int (zI y7))]) (zi_inc (a := 0) (zi_addp1 way) _ rfl) ?_
        refine xB.run oX8_reachesHold 1 (s := (72, [some (.ref 4096), some (.int (zI st)), some (.int (zI ways)), some (.int (zI held)), some (.int (zI step)), some (.int (zI pl)), some (.int (zI (way + 1))), some (.int (zI y7))], [], [r0, r1, r2, r3, zH s4 zL4 0, r5, r6, r7, r8, z9 E9])) rfl ?_
        refine xB.forget (lv1 := [some (.ref 4096), some (.int (zI st)), some (.int (zI ways)), some (.int (zI held)), some (.int (zI step)), some (.int (zI pl)), some (.int (zI (way + 1))), none]) (xle_same (xle_same (xle_same (xle_same (xle_same (xle_same (xle_same (xle_none (xle_nil))))))))) ?_
        exact ih (way + 1) s4 H K
      · have H := H.2 h9
        refine xB.run oX8_reachesHold 3 (s := (98, [some (.ref 4096), some (.int (zI st)), some (.int (zI ways)), some (.int (zI held)), some (.int (zI step)), some (.int (zI pl)), some (.int (zI way)), some (.int (zI y7))], [.int (zI y7), .ref 4097], [r0, r1, r2, r3, zH s4 zL4 0, r5, r6, r7, r8, z9 E9])) rfl ?_
        obtain ⟨g15, H⟩ := zgd H
        refine zB.iald oX8_reachesHold (g := 4) (p := 1) (N := 100) (i := y7) rfl rfl (by decide) rfl rfl (by decide) g15 ?_
        refine xB.run oX8_reachesHold 3 (s := (104, [some (.ref 4096), some (.int (zI st)), some (.int (zI ways)), some (.int (zI held)), some (.int (zI step)), some (.int (zI pl)), some (.int (zI way)), some (.int (zI y7))], [.int (zI st), .ref 4097, .int (zI (s4 1 y7.toNat))], [r0, r1, r2, r3, zH s4 zL4 0, r5, r6, r7, r8, z9 E9])) rfl ?_
        obtain ⟨g14, H⟩ := zgd H
        refine zB.iald oX8_reachesHold (g := 4) (p := 1) (N := 100) (i := st) rfl rfl (by decide) rfl rfl (by decide) g14 ?_
        obtain ⟨g13, H⟩ := zgd H
        have H := zif H
        refine xB.brE oX8_reachesHold (P := (s4 1 y7.toNat) ≠ (s4 1 st.toNat)) rfl (zc_ne (a := s4 1 y7.toNat) (b := s4 1 st.toNat) g13) (fun h10 => ?_) (fun h10 => ?_)
        · have H := H.1 h10
          refine zB.inc oX8_reachesHold rfl (lv2 := [some (.ref 4096), some (.int (zI st)), some (.int (zI ways)), some (.int (zI held)), some (.int (zI step)), some (.int (zI pl)), some (.int (zI (way + 1))), some (.int (zI y7))]) (zi_inc (a := 0) (zi_addp1 way) _ rfl) ?_
          refine xB.run oX8_reachesHold 1 (s := (72, [some (.ref 4096), some (.int (zI st)), some (.int (zI ways)), some (.int (zI held)), some (.int (zI step)), some (.int (zI pl)), some (.int (zI (way + 1))), some (.int (zI y7))], [], [r0, r1, r2, r3, zH s4 zL4 0, r5, r6, r7, r8, z9 E9])) rfl ?_
          refine xB.forget (lv1 := [some (.ref 4096), some (.int (zI st)), some (.int (zI ways)), some (.int (zI held)), some (.int (zI step)), some (.int (zI pl)), some (.int (zI (way + 1))), none]) (xle_same (xle_same (xle_same (xle_same (xle_same (xle_same (xle_same (xle_none (xle_nil))))))))) ?_
          exact ih (way + 1) s4 H K
        · have H := H.2 h10
          refine xB.run oX8_reachesHold 2 (s := (111, [some (.ref 4096), some (.int (zI st)), some (.int (zI ways)), some (.int (zI held)), some (.int (zI step)), some (.int (zI pl)), some (.int (zI way)), some (.int (zI y7))], [.int (zI y7), .ref 4096], [r0, r1, r2, r3, zH s4 zL4 0, r5, r6, r7, r8, z9 E9])) rfl ?_
          obtain ⟨y11, e12, H⟩ := zbd H
          refine xB.call oX8_reachesHold (M2 := MX8_lineUp) rfl rfl ((t_X8_lineUp r0 r1 r2 r3 s4 r5 r6 r7 r8 (z9 E9) y7 e12).deep (by decide : 0 ≤ 1)) ?_
          show xBody MX8_reachesHold 2 114 [some (.ref 4096), some (.int (zI st)), some (.int (zI ways)), some (.int (zI held)), some (.int (zI step)), some (.int (zI pl)), some (.int (zI way)), some (.int (zI y7))] [] ([r0, r1, r2, r3, zH y11 zL4 0, r5, r6, r7, r8, z9 E9]) _ _
          refine zB.inc oX8_reachesHold rfl (lv2 := [some (.ref 4096), some (.int (zI st)), some (.int (zI ways)), some (.int (zI held)), some (.int (zI step)), some (.int (zI pl)), some (.int (zI (way + 1))), some (.int (zI y7))]) (zi_inc (a := 0) (zi_addp1 way) _ rfl) ?_
          refine xB.run oX8_reachesHold 1 (s := (72, [some (.ref 4096), some (.int (zI st)), some (.int (zI ways)), some (.int (zI held)), some (.int (zI step)), some (.int (zI pl)), some (.int (zI (way + 1))), some (.int (zI y7))], [], [r0, r1, r2, r3, zH y11 zL4 0, r5, r6, r7, r8, z9 E9])) rfl ?_
          refine xB.forget (lv1 := [some (.ref 4096), some (.int (zI st)), some (.int (zI ways)), some (.int (zI held)), some (.int (zI step)), some (.int (zI pl)), some (.int (zI (way + 1))), none]) (xle_same (xle_same (xle_same (xle_same (xle_same (xle_same (xle_same (xle_none (xle_nil))))))))) ?_
          exact ih (way + 1) y11 H K
set_option maxRecDepth 20000 in
theorem l_X8_reachesHold_15 (r0 : List va_E) (r1 : List va_E) (r2 : List va_E) (r3 : List va_E) (r5 : List va_E) (r6 : List va_E) (r7 : List va_E) (r8 : List va_E) (E9 : va_E) (st : Int) (ways : Int) {r : Option Value} {hp1 : xH} : ∀ (uN : Nat) (held : Int) (step : Int) (s4 : zZ) {uX : Int × Int × zZ}, d_X8_reachesHold_15 st ways uN held step s4 = some uX → (xBody MX8_reachesHold 2 126 [some (.ref 4096), some (.int (zI st)), some (.int (zI ways)), some (.int (zI uX.1)), some (.int (zI uX.2.1)), none, none, none] [] ([r0, r1, r2, r3, zH uX.2.2 zL4 0, r5, r6, r7, r8, z9 E9]) r hp1) → xBody MX8_reachesHold 2 15 [some (.ref 4096), some (.int (zI st)), some (.int (zI ways)), some (.int (zI held)), some (.int (zI step)), none, none, none] [] ([r0, r1, r2, r3, zH s4 zL4 0, r5, r6, r7, r8, z9 E9]) r hp1 := by
  intro uN
  induction uN with
  | zero => intro held step s4 uX H K; cases H
  | succ uN ih =>
    intro held step s4 uX H K
    unfold d_X8_reachesHold_15 at H
    refine xB.run oX8_reachesHold 2 (s := (19, [some (.ref 4096), some (.int (zI st)), some (.int (zI ways)), some (.int (zI held)), some (.int (zI step)), none, none, none], [.int (zI 100), .int (zI step)], [r0, r1, r2, r3, zH s4 zL4 0, r5, r6, r7, r8, z9 E9])) rfl ?_
    obtain ⟨g31, H⟩ := zgd H
    have H := zif H
    refine xB.brE oX8_reachesHold (P := (100 : Int) ≤ step) rfl (zc_ge (a := step) (b := 100) ⟨g31, by decide⟩) (fun h3 => ?_) (fun h3 => ?_)
    · have H := H.1 h3
      obtain rfl := Option.some.inj H
      exact K
    · have H := H.2 h3
      refine xB.run oX8_reachesHold 2 (s := (26, [some (.ref 4096), some (.int (zI st)), some (.int (zI ways)), some (.int (zI held)), some (.int (zI step)), none, none, none], [.int (zI (s4 0 3))], [r0, r1, r2, r3, zH s4 zL4 0, r5, r6, r7, r8, z9 E9])) rfl ?_
      obtain ⟨g30, H⟩ := zgd H
      have H := zif H
      refine xB.brE oX8_reachesHold (P := (s4 0 3) ≤ 0) rfl (zc_le (a := s4 0 3) (b := 0) ⟨g30, by decide⟩) (fun h4 => ?_) (fun h4 => ?_)
      · have H := H.1 h4
        obtain rfl := Option.some.inj H
        exact K
      · have H := H.2 h4
        refine xB.run oX8_reachesHold 4 (s := (35, [some (.ref 4096), some (.int (zI st)), some (.int (zI ways)), some (.int (zI held)), some (.int (zI step)), none, none, none], [.int (zI 1), .int (zI (s4 0 3)), .ref 4096], [r0, r1, r2, r3, zH s4 zL4 0, r5, r6, r7, r8, z9 E9])) rfl ?_
        refine zB.opi oX8_reachesHold rfl (zi_sub (s4 0 3) 1) ?_
        refine zB.putI oX8_reachesHold (g := 4) (p := 0) (c := 8) (k := 3) (y := 0) (hp1 := [r0, r1, r2, r3, zH (upz s4 0 3 ((s4 0 3) - 1)) zL4 0, r5, r6, r7, r8, z9 E9]) rfl rfl (by decide) (by decide) rfl rfl rfl rfl rfl rfl ?_
        refine xB.run oX8_reachesHold 4 (s := (47, [some (.ref 4096), some (.int (zI st)), some (.int (zI ways)), some (.int (zI held)), some (.int (zI step)), none, none, none], [.int (zI ((upz s4 0 3 ((s4 0 3) - 1)) 0 3)), .ref 4099], [r0, r1, r2, r3, zH (upz s4 0 3 ((s4 0 3) - 1)) zL4 0, r5, r6, r7, r8, z9 E9])) rfl ?_
        obtain ⟨g29, H⟩ := zgd H
        refine zB.iald oX8_reachesHold (g := 4) (p := 3) (N := 100) (i := (upz s4 0 3 ((s4 0 3) - 1)) 0 3) rfl rfl (by decide) rfl rfl (by decide) g29 ?_
        refine xB.run oX8_reachesHold 2 (s := (51, [some (.ref 4096), some (.int (zI st)), some (.int (zI ways)), some (.int (zI held)), some (.int (zI step)), some (.int (zI ((upz s4 0 3 ((s4 0 3) - 1)) 3 ((upz s4 0 3 ((s4 0 3) - 1)) 0 3).toNat))), none, none], [.int (zI held)], [r0, r1, r2, r3, zH (upz s4 0 3 ((s4 0 3) - 1)) zL4 0, r5, r6, r7, r8, z9 E9])) rfl ?_
        obtain ⟨g28, H⟩ := zgd H
        have H := zif H
        refine xB.brE oX8_reachesHold (P := held ≠ 0) rfl (zc_ne (a := held) (b := 0) ⟨g28, by decide⟩) (fun h5 => ?_) (fun h5 => ?_)
        · have H := H.1 h5
          refine xB.run oX8_reachesHold 5 (s := (72, [some (.ref 4096), some (.int (zI st)), some (.int (zI ways)), some (.int (zI 1)), some (.int (zI step)), some (.int (zI ((upz s4 0 3 ((s4 0 3) - 1)) 3 ((upz s4 0 3 ((s4 0 3) - 1)) 0 3).toNat))), some (.int (zI 0)), none], [], [r0, r1, r2, r3, zH (upz s4 0 3 ((s4 0 3) - 1)) zL4 0, r5, r6, r7, r8, z9 E9])) rfl ?_
          obtain ⟨y18, e19, H⟩ := zbd H
          refine l_X8_reachesHold_72 r0 r1 r2 r3 r5 r6 r7 r8 E9 st ways 1 step ((upz s4 0 3 ((s4 0 3) - 1)) 3 ((upz s4 0 3 ((s4 0 3) - 1)) 0 3).toNat) _ 0 (upz s4 0 3 ((s4 0 3) - 1)) e19 ?_
          refine zB.inc oX8_reachesHold rfl (lv2 := [some (.ref 4096), some (.int (zI st)), some (.int (zI ways)), some (.int (zI 1)), some (.int (zI (step + 1))), some (.int (zI ((upz s4 0 3 ((s4 0 3) - 1)) 3 ((upz s4 0 3 ((s4 0 3) - 1)) 0 3).toNat))), some (.int (zI y18.1)), none]) (zi_inc (a := 0) (zi_addp1 step) _ rfl) ?_
          refine xB.run oX8_reachesHold 1 (s := (15, [some (.ref 4096), some (.int (zI st)), some (.int (zI ways)), some (.int (zI 1)), some (.int (zI (step + 1))), some (.int (zI ((upz s4 0 3 ((s4 0 3) - 1)) 3 ((upz s4 0 3 ((s4 0 3) - 1)) 0 3).toNat))), some (.int (zI y18.1)), none], [], [r0, r1, r2, r3, zH y18.2 zL4 0, r5, r6, r7, r8, z9 E9])) rfl ?_
          refine xB.forget (lv1 := [some (.ref 4096), some (.int (zI st)), some (.int (zI ways)), some (.int (zI 1)), some (.int (zI (step + 1))), none, none, none]) (xle_same (xle_same (xle_same (xle_same (xle_same (xle_none (xle_none (xle_same (xle_nil))))))))) ?_
          exact ih 1 (step + 1) y18.2 H K
        · have H := H.2 h5
          refine xB.run oX8_reachesHold 2 (s := (57, [some (.ref 4096), some (.int (zI st)), some (.int (zI ways)), some (.int (zI held)), some (.int (zI step)), some (.int (zI ((upz s4 0 3 ((s4 0 3) - 1)) 3 ((upz s4 0 3 ((s4 0 3) - 1)) 0 3).toNat))), none, none], [.int (zI ((upz s4 0 3 ((s4 0 3) - 1)) 3 ((upz s4 0 3 ((s4 0 3) - 1)) 0 3).toNat)), .ref 4096], [r0, r1, r2, r3, zH (upz s4 0 3 ((s4 0 3) - 1)) zL4 0, r5, r6, r7, r8, z9 E9])) rfl ?_
          obtain ⟨y20, e21, H⟩ := zbd H
          refine xB.call oX8_reachesHold (M2 := MX8_isHold) rfl rfl ((t_X8_isHold r0 r1 r2 r3 (upz s4 0 3 ((s4 0 3) - 1)) r5 r6 r7 r8 (z9 E9) ((upz s4 0 3 ((s4 0 3) - 1)) 3 ((upz s4 0 3 ((s4 0 3) - 1)) 0 3).toNat) e21).deep (by decide : 1 ≤ 1)) ?_
          show xBody MX8_reachesHold 2 60 [some (.ref 4096), some (.int (zI st)), some (.int (zI ways)), some (.int (zI held)), some (.int (zI step)), some (.int (zI ((upz s4 0 3 ((s4 0 3) - 1)) 3 ((upz s4 0 3 ((s4 0 3) - 1)) 0 3).toNat))), none, none] [.int (zI y20)] ([r0, r1, r2, r3, zH (upz s4 0 3 ((s4 0 3) - 1)) zL4 0, r5, r6, r7, r8, z9 E9]) _ _
          obtain ⟨g27, H⟩ := zgd H
          have H := zif H
          refine xB.brE oX8_reachesHold (P := y20 = 0) rfl (zc_eq (a := y20) (b := 0) ⟨g27, by decide⟩) (fun h22 => ?_) (fun h22 => ?_)
          · have H := H.1 h22
            refine xB.run oX8_reachesHold 4 (s := (72, [some (.ref 4096), some (.int (zI st)), some (.int (zI ways)), some (.int (zI 0)), some (.int (zI step)), some (.int (zI ((upz s4 0 3 ((s4 0 3) - 1)) 3 ((upz s4 0 3 ((s4 0 3) - 1)) 0 3).toNat))), some (.int (zI 0)), none], [], [r0, r1, r2, r3, zH (upz s4 0 3 ((s4 0 3) - 1)) zL4 0, r5, r6, r7, r8, z9 E9])) rfl ?_
            obtain ⟨y23, e24, H⟩ := zbd H
            refine l_X8_reachesHold_72 r0 r1 r2 r3 r5 r6 r7 r8 E9 st ways 0 step ((upz s4 0 3 ((s4 0 3) - 1)) 3 ((upz s4 0 3 ((s4 0 3) - 1)) 0 3).toNat) _ 0 (upz s4 0 3 ((s4 0 3) - 1)) e24 ?_
            refine zB.inc oX8_reachesHold rfl (lv2 := [some (.ref 4096), some (.int (zI st)), some (.int (zI ways)), some (.int (zI 0)), some (.int (zI (step + 1))), some (.int (zI ((upz s4 0 3 ((s4 0 3) - 1)) 3 ((upz s4 0 3 ((s4 0 3) - 1)) 0 3).toNat))), some (.int (zI y23.1)), none]) (zi_inc (a := 0) (zi_addp1 step) _ rfl) ?_
            refine xB.run oX8_reachesHold 1 (s := (15, [some (.ref 4096), some (.int (zI st)), some (.int (zI ways)), some (.int (zI 0)), some (.int (zI (step + 1))), some (.int (zI ((upz s4 0 3 ((s4 0 3) - 1)) 3 ((upz s4 0 3 ((s4 0 3) - 1)) 0 3).toNat))), some (.int (zI y23.1)), none], [], [r0, r1, r2, r3, zH y23.2 zL4 0, r5, r6, r7, r8, z9 E9])) rfl ?_
            refine xB.forget (lv1 := [some (.ref 4096), some (.int (zI st)), some (.int (zI ways)), some (.int (zI 0)), some (.int (zI (step + 1))), none, none, none]) (xle_same (xle_same (xle_same (xle_same (xle_same (xle_none (xle_none (xle_same (xle_nil))))))))) ?_
            exact ih 0 (step + 1) y23.2 H K
          · have H := H.2 h22
            refine xB.run oX8_reachesHold 5 (s := (72, [some (.ref 4096), some (.int (zI st)), some (.int (zI ways)), some (.int (zI 1)), some (.int (zI step)), some (.int (zI ((upz s4 0 3 ((s4 0 3) - 1)) 3 ((upz s4 0 3 ((s4 0 3) - 1)) 0 3).toNat))), some (.int (zI 0)), none], [], [r0, r1, r2, r3, zH (upz s4 0 3 ((s4 0 3) - 1)) zL4 0, r5, r6, r7, r8, z9 E9])) rfl ?_
            obtain ⟨y25, e26, H⟩ := zbd H
            refine l_X8_reachesHold_72 r0 r1 r2 r3 r5 r6 r7 r8 E9 st ways 1 step ((upz s4 0 3 ((s4 0 3) - 1)) 3 ((upz s4 0 3 ((s4 0 3) - 1)) 0 3).toNat) _ 0 (upz s4 0 3 ((s4 0 3) - 1)) e26 ?_
            refine zB.inc oX8_reachesHold rfl (lv2 := [some (.ref 4096), some (.int (zI st)), some (.int (zI ways)), some (.int (zI 1)), some (.int (zI (step + 1))), some (.int (zI ((upz s4 0 3 ((s4 0 3) - 1)) 3 ((upz s4 0 3 ((s4 0 3) - 1)) 0 3).toNat))), some (.int (zI y25.1)), none]) (zi_inc (a := 0) (zi_addp1 step) _ rfl) ?_
            refine xB.run oX8_reachesHold 1 (s := (15, [some (.ref 4096), some (.int (zI st)), some (.int (zI ways)), some (.int (zI 1)), some (.int (zI (step + 1))), some (.int (zI ((upz s4 0 3 ((s4 0 3) - 1)) 3 ((upz s4 0 3 ((s4 0 3) - 1)) 0 3).toNat))), some (.int (zI y25.1)), none], [], [r0, r1, r2, r3, zH y25.2 zL4 0, r5, r6, r7, r8, z9 E9])) rfl ?_
            refine xB.forget (lv1 := [some (.ref 4096), some (.int (zI st)), some (.int (zI ways)), some (.int (zI 1)), some (.int (zI (step + 1))), none, none, none]) (xle_same (xle_same (xle_same (xle_same (xle_same (xle_none (xle_none (xle_same (xle_nil))))))))) ?_
            exact ih 1 (step + 1) y25.2 H K
set_option maxRecDepth 20000 in
theorem t_X8_reachesHold (r0 : List va_E) (r1 : List va_E) (r2 : List va_E) (r3 : List va_E) (s4 : zZ) (r5 : List va_E) (r6 : List va_E) (r7 : List va_E) (r8 : List va_E) (E9 : va_E) (st : Int) (ways : Int) {rr : Int × zZ} (H : d_X8_reachesHold s4 st ways = some rr) : xC MX8_reachesHold 2 [.ref 4096, .int (zI st), .int (zI ways)] ([r0, r1, r2, r3, zH s4 zL4 0, r5, r6, r7, r8, z9 E9]) (some (.int (zI rr.1))) ([r0, r1, r2, r3, zH rr.2 zL4 0, r5, r6, r7, r8, z9 E9]) := by
  refine ⟨Nat.le_of_ble_eq_true rfl, ?_⟩
  show xBody MX8_reachesHold 2 0 [some (.ref 4096), some (.int (zI st)), some (.int (zI ways)), none, none, none, none, none] [] ([r0, r1, r2, r3, zH s4 zL4 0, r5, r6, r7, r8, z9 E9]) _ _
  unfold d_X8_reachesHold at H
  refine xB.run oX8_reachesHold 4 (s := (4, [some (.ref 4096), some (.int (zI st)), some (.int (zI ways)), some (.int (zI 0)), none, none, none, none], [.int (zI 0), .ref 4096], [r0, r1, r2, r3, zH s4 zL4 0, r5, r6, r7, r8, z9 E9])) rfl ?_
  refine zB.putI oX8_reachesHold (g := 4) (p := 0) (c := 8) (k := 3) (y := 0) (hp1 := [r0, r1, r2, r3, zH (upz s4 0 3 0) zL4 0, r5, r6, r7, r8, z9 E9]) rfl rfl (by decide) (by decide) rfl rfl rfl rfl rfl rfl ?_
  refine xB.run oX8_reachesHold 2 (s := (9, [some (.ref 4096), some (.int (zI st)), some (.int (zI ways)), some (.int (zI 0)), none, none, none, none], [.int (zI st), .ref 4096], [r0, r1, r2, r3, zH (upz s4 0 3 0) zL4 0, r5, r6, r7, r8, z9 E9])) rfl ?_
  obtain ⟨y1, e2, H⟩ := zbd H
  refine xB.call oX8_reachesHold (M2 := MX8_lineUp) rfl rfl ((t_X8_lineUp r0 r1 r2 r3 (upz s4 0 3 0) r5 r6 r7 r8 (z9 E9) st e2).deep (by decide : 0 ≤ 1)) ?_
  show xBody MX8_reachesHold 2 12 [some (.ref 4096), some (.int (zI st)), some (.int (zI ways)), some (.int (zI 0)), none, none, none, none] [] ([r0, r1, r2, r3, zH y1 zL4 0, r5, r6, r7, r8, z9 E9]) _ _
  refine xB.run oX8_reachesHold 2 (s := (15, [some (.ref 4096), some (.int (zI st)), some (.int (zI ways)), some (.int (zI 0)), some (.int (zI 0)), none, none, none], [], [r0, r1, r2, r3, zH y1 zL4 0, r5, r6, r7, r8, z9 E9])) rfl ?_
  obtain ⟨y32, e33, H⟩ := zbd H
  refine l_X8_reachesHold_15 r0 r1 r2 r3 r5 r6 r7 r8 E9 st ways _ 0 0 y1 e33 ?_
  refine xB.run oX8_reachesHold 1 (s := (127, [some (.ref 4096), some (.int (zI st)), some (.int (zI ways)), some (.int (zI y32.1)), some (.int (zI y32.2.1)), none, none, none], [.int (zI y32.1)], [r0, r1, r2, r3, zH y32.2.2 zL4 0, r5, r6, r7, r8, z9 E9])) rfl ?_
  obtain ⟨g34, H⟩ := zgd H
  obtain rfl := Option.some.inj H
  exact zB.retb oX8_reachesHold rfl g34
def d_X8_lotsApart_13 (kd : Int) (ways : Int) : Nat → Int → Int → zZ → Option (Int × Int × zZ)
  | 0, _, _, _ => none
  | uN + 1, lots, k, s4 => if (zr k) then (if (100 : Int) ≤ k then some (lots, k, s4) else (if (0 ≤ k ∧ k < 100) then (if (zr (s4 1 k.toNat) ∧ zr kd) then (if (s4 1 k.toNat) ≠ kd then (d_X8_lotsApart_13 kd ways uN lots (k + 1) s4) else (if (0 ≤ k ∧ k < 100) then (if (zr (s4 2 k.toNat)) then (if (s4 2 k.toNat) ≠ 0 then (d_X8_lotsApart_13 kd ways uN lots (k + 1) s4) else ((d_X8_reachesHold s4 k ways).bind fun y4 => if (zr y4.1) then (if y4.1 ≠ 0 then (d_X8_lotsApart_13 kd ways uN lots (k + 1) y4.2) else (d_X8_lotsApart_13 kd ways uN (lots + 1) (k + 1) y4.2)) else none)) else none) else none)) else none) else none)) else none
def d_X8_lotsApart (s4 : zZ) (kd : Int) (ways : Int) : Option (Int × zZ) := (d_X8_lotsApart_13 kd ways zF 0 0 (zfl s4 2 100 0)).bind fun y13 => some (y13.1, y13.2.2)
set_option maxRecDepth 20000 in
theorem l_X8_lotsApart_13 (r0 : List va_E) (r1 : List va_E) (r2 : List va_E) (r3 : List va_E) (r5 : List va_E) (r6 : List va_E) (r7 : List va_E) (r8 : List va_E) (E9 : va_E) (kd : Int) (ways : Int) {r : Option Value} {hp1 : xH} : ∀ (uN : Nat) (lots : Int) (k : Int) (s4 : zZ) {uX : Int × Int × zZ}, d_X8_lotsApart_13 kd ways uN lots k s4 = some uX → (xBody MX8_lotsApart 3 60 [some (.ref 4096), some (.int (zI kd)), some (.int (zI ways)), some (.int (zI uX.1)), some (.int (zI uX.2.1))] [] ([r0, r1, r2, r3, zH uX.2.2 zL4 0, r5, r6, r7, r8, z9 E9]) r hp1) → xBody MX8_lotsApart 3 13 [some (.ref 4096), some (.int (zI kd)), some (.int (zI ways)), some (.int (zI lots)), some (.int (zI k))] [] ([r0, r1, r2, r3, zH s4 zL4 0, r5, r6, r7, r8, z9 E9]) r hp1 := by
  intro uN
  induction uN with
  | zero => intro lots k s4 uX H K; cases H
  | succ uN ih =>
    intro lots k s4 uX H K
    unfold d_X8_lotsApart_13 at H
    refine xB.run oX8_lotsApart 2 (s := (17, [some (.ref 4096), some (.int (zI kd)), some (.int (zI ways)), some (.int (zI lots)), some (.int (zI k))], [.int (zI 100), .int (zI k)], [r0, r1, r2, r3, zH s4 zL4 0, r5, r6, r7, r8, z9 E9])) rfl ?_
    obtain ⟨g12, H⟩ := zgd H
    have H := zif H
    refine xB.brE oX8_lotsApart (P := (100 : Int) ≤ k) rfl (zc_ge (a := k) (b := 100) ⟨g12, by decide⟩) (fun h1 => ?_) (fun h1 => ?_)
    · have H := H.1 h1
      obtain rfl := Option.some.inj H
      exact K
    · have H := H.2 h1
      refine xB.run oX8_lotsApart 3 (s := (26, [some (.ref 4096), some (.int (zI kd)), some (.int (zI ways)), some (.int (zI lots)), some (.int (zI k))], [.int (zI k), .ref 4097], [r0, r1, r2, r3, zH s4 zL4 0, r5, r6, r7, r8, z9 E9])) rfl ?_
      obtain ⟨g11, H⟩ := zgd H
      refine zB.iald oX8_lotsApart (g := 4) (p := 1) (N := 100) (i := k) rfl rfl (by decide) rfl rfl (by decide) g11 ?_
      refine xB.run oX8_lotsApart 1 (s := (28, [some (.ref 4096), some (.int (zI kd)), some (.int (zI ways)), some (.int (zI lots)), some (.int (zI k))], [.int (zI kd), .int (zI (s4 1 k.toNat))], [r0, r1, r2, r3, zH s4 zL4 0, r5, r6, r7, r8, z9 E9])) rfl ?_
      obtain ⟨g10, H⟩ := zgd H
      have H := zif H
      refine xB.brE oX8_lotsApart (P := (s4 1 k.toNat) ≠ kd) rfl (zc_ne (a := s4 1 k.toNat) (b := kd) g10) (fun h2 => ?_) (fun h2 => ?_)
      · have H := H.1 h2
        refine zB.inc oX8_lotsApart rfl (lv2 := [some (.ref 4096), some (.int (zI kd)), some (.int (zI ways)), some (.int (zI lots)), some (.int (zI (k + 1)))]) (zi_inc (a := 0) (zi_addp1 k) _ rfl) ?_
        refine xB.run oX8_lotsApart 1 (s := (13, [some (.ref 4096), some (.int (zI kd)), some (.int (zI ways)), some (.int (zI lots)), some (.int (zI (k + 1)))], [], [r0, r1, r2, r3, zH s4 zL4 0, r5, r6, r7, r8, z9 E9])) rfl ?_
        exact ih lots (k + 1) s4 H K
      · have H := H.2 h2
        refine xB.run oX8_lotsApart 3 (s := (37, [some (.ref 4096), some (.int (zI kd)), some (.int (zI ways)), some (.int (zI lots)), some (.int (zI k))], [.int (zI k), .ref 4098], [r0, r1, r2, r3, zH s4 zL4 0, r5, r6, r7, r8, z9 E9])) rfl ?_
        obtain ⟨g9, H⟩ := zgd H
        refine zB.iald oX8_lotsApart (g := 4) (p := 2) (N := 100) (i := k) rfl rfl (by decide) rfl rfl (by decide) g9 ?_
        obtain ⟨g8, H⟩ := zgd H
        have H := zif H
        refine xB.brE oX8_lotsApart (P := (s4 2 k.toNat) ≠ 0) rfl (zc_ne (a := s4 2 k.toNat) (b := 0) ⟨g8, by decide⟩) (fun h3 => ?_) (fun h3 => ?_)
        · have H := H.1 h3
          refine zB.inc oX8_lotsApart rfl (lv2 := [some (.ref 4096), some (.int (zI kd)), some (.int (zI ways)), some (.int (zI lots)), some (.int (zI (k + 1)))]) (zi_inc (a := 0) (zi_addp1 k) _ rfl) ?_
          refine xB.run oX8_lotsApart 1 (s := (13, [some (.ref 4096), some (.int (zI kd)), some (.int (zI ways)), some (.int (zI lots)), some (.int (zI (k + 1)))], [], [r0, r1, r2, r3, zH s4 zL4 0, r5, r6, r7, r8, z9 E9])) rfl ?_
          exact ih lots (k + 1) s4 H K
        · have H := H.2 h3
          refine xB.run oX8_lotsApart 3 (s := (45, [some (.ref 4096), some (.int (zI kd)), some (.int (zI ways)), some (.int (zI lots)), some (.int (zI k))], [.int (zI ways), .int (zI k), .ref 4096], [r0, r1, r2, r3, zH s4 zL4 0, r5, r6, r7, r8, z9 E9])) rfl ?_
          obtain ⟨y4, e5, H⟩ := zbd H
          refine xB.call oX8_lotsApart (M2 := MX8_reachesHold) rfl rfl ((t_X8_reachesHold r0 r1 r2 r3 s4 r5 r6 r7 r8 E9 k ways e5).deep (by decide : 2 ≤ 2)) ?_
          show xBody MX8_lotsApart 3 48 [some (.ref 4096), some (.int (zI kd)), some (.int (zI ways)), some (.int (zI lots)), some (.int (zI k))] [.int (zI y4.1)] ([r0, r1, r2, r3, zH y4.2 zL4 0, r5, r6, r7, r8, z9 E9]) _ _
          obtain ⟨g7, H⟩ := zgd H
          have H := zif H
          refine xB.brE oX8_lotsApart (P := y4.1 ≠ 0) rfl (zc_ne (a := y4.1) (b := 0) ⟨g7, by decide⟩) (fun h6 => ?_) (fun h6 => ?_)
          · have H := H.1 h6
            refine zB.inc oX8_lotsApart rfl (lv2 := [some (.ref 4096), some (.int (zI kd)), some (.int (zI ways)), some (.int (zI lots)), some (.int (zI (k + 1)))]) (zi_inc (a := 0) (zi_addp1 k) _ rfl) ?_
            refine xB.run oX8_lotsApart 1 (s := (13, [some (.ref 4096), some (.int (zI kd)), some (.int (zI ways)), some (.int (zI lots)), some (.int (zI (k + 1)))], [], [r0, r1, r2, r3, zH y4.2 zL4 0, r5, r6, r7, r8, z9 E9])) rfl ?_
            exact ih lots (k + 1) y4.2 H K
          · have H := H.2 h6
            refine zB.inc oX8_lotsApart rfl (lv2 := [some (.ref 4096), some (.int (zI kd)), some (.int (zI ways)), some (.int (zI (lots + 1))), some (.int (zI k))]) (zi_inc (a := 0) (zi_addp1 lots) _ rfl) ?_
            refine zB.inc oX8_lotsApart rfl (lv2 := [some (.ref 4096), some (.int (zI kd)), some (.int (zI ways)), some (.int (zI (lots + 1))), some (.int (zI (k + 1)))]) (zi_inc (a := 0) (zi_addp1 k) _ rfl) ?_
            refine xB.run oX8_lotsApart 1 (s := (13, [some (.ref 4096), some (.int (zI kd)), some (.int (zI ways)), some (.int (zI (lots + 1))), some (.int (zI (k + 1)))], [], [r0, r1, r2, r3, zH y4.2 zL4 0, r5, r6, r7, r8, z9 E9])) rfl ?_
            exact ih (lots + 1) (k + 1) y4.2 H K
set_option maxRecDepth 20000 in
theorem t_X8_lotsApart (r0 : List va_E) (r1 : List va_E) (r2 : List va_E) (r3 : List va_E) (s4 : zZ) (r5 : List va_E) (r6 : List va_E) (r7 : List va_E) (r8 : List va_E) (E9 : va_E) (kd : Int) (ways : Int) {rr : Int × zZ} (H : d_X8_lotsApart s4 kd ways = some rr) : xC MX8_lotsApart 3 [.ref 4096, .int (zI kd), .int (zI ways)] ([r0, r1, r2, r3, zH s4 zL4 0, r5, r6, r7, r8, z9 E9]) (some (.int (zI rr.1))) ([r0, r1, r2, r3, zH rr.2 zL4 0, r5, r6, r7, r8, z9 E9]) := by
  refine ⟨Nat.le_of_ble_eq_true rfl, ?_⟩
  show xBody MX8_lotsApart 3 0 [some (.ref 4096), some (.int (zI kd)), some (.int (zI ways)), none, none] [] ([r0, r1, r2, r3, zH s4 zL4 0, r5, r6, r7, r8, z9 E9]) _ _
  unfold d_X8_lotsApart at H
  refine xB.run oX8_lotsApart 3 (s := (5, [some (.ref 4096), some (.int (zI kd)), some (.int (zI ways)), none, none], [.int (zI 0), .ref 4098], [r0, r1, r2, r3, zH s4 zL4 0, r5, r6, r7, r8, z9 E9])) rfl ?_
  refine xB.call oX8_lotsApart (M2 := MJ7_fill_53178) rfl rfl ((zfillI (hp := [r0, r1, r2, r3, zH s4 zL4 0, r5, r6, r7, r8, z9 E9]) (g := 4) (p := 2) (N := 100) (L := zL4) 0 rfl (by decide) (by decide) rfl rfl (by decide)).deep (Nat.zero_le 2)) ?_
  show xBody MX8_lotsApart 3 8 [some (.ref 4096), some (.int (zI kd)), some (.int (zI ways)), none, none] [] ([r0, r1, r2, r3, zH (zfl s4 2 100 0) zL4 0, r5, r6, r7, r8, z9 E9]) _ _
  refine xB.run oX8_lotsApart 4 (s := (13, [some (.ref 4096), some (.int (zI kd)), some (.int (zI ways)), some (.int (zI 0)), some (.int (zI 0))], [], [r0, r1, r2, r3, zH (zfl s4 2 100 0) zL4 0, r5, r6, r7, r8, z9 E9])) rfl ?_
  obtain ⟨y13, e14, H⟩ := zbd H
  refine l_X8_lotsApart_13 r0 r1 r2 r3 r5 r6 r7 r8 E9 kd ways _ 0 0 (zfl s4 2 100 0) e14 ?_
  refine xB.run oX8_lotsApart 1 (s := (61, [some (.ref 4096), some (.int (zI kd)), some (.int (zI ways)), some (.int (zI y13.1)), some (.int (zI y13.2.1))], [.int (zI y13.1)], [r0, r1, r2, r3, zH y13.2.2 zL4 0, r5, r6, r7, r8, z9 E9])) rfl ?_
  obtain rfl := Option.some.inj H
  exact xB.ret oX8_lotsApart (r1 := some (.int (zI y13.1))) rfl rfl rfl
def d_X8_tornLots (s4 : zZ) : Option (Int × zZ) := (d_X8_lotsApart s4 0 4).bind fun y1 => some (y1.1, y1.2)
set_option maxRecDepth 20000 in
theorem t_X8_tornLots (r0 : List va_E) (r1 : List va_E) (r2 : List va_E) (r3 : List va_E) (s4 : zZ) (r5 : List va_E) (r6 : List va_E) (r7 : List va_E) (r8 : List va_E) (E9 : va_E) {rr : Int × zZ} (H : d_X8_tornLots s4 = some rr) : xC MX8_tornLots 4 [.ref 4096] ([r0, r1, r2, r3, zH s4 zL4 0, r5, r6, r7, r8, z9 E9]) (some (.int (zI rr.1))) ([r0, r1, r2, r3, zH rr.2 zL4 0, r5, r6, r7, r8, z9 E9]) := by
  refine ⟨Nat.le_of_ble_eq_true rfl, ?_⟩
  show xBody MX8_tornLots 4 0 [some (.ref 4096)] [] ([r0, r1, r2, r3, zH s4 zL4 0, r5, r6, r7, r8, z9 E9]) _ _
  unfold d_X8_tornLots at H
  refine xB.run oX8_tornLots 3 (s := (3, [some (.ref 4096)], [.int (zI 4), .int (zI 0), .ref 4096], [r0, r1, r2, r3, zH s4 zL4 0, r5, r6, r7, r8, z9 E9])) rfl ?_
  obtain ⟨y1, e2, H⟩ := zbd H
  refine xB.call oX8_tornLots (M2 := MX8_lotsApart) rfl rfl ((t_X8_lotsApart r0 r1 r2 r3 s4 r5 r6 r7 r8 E9 0 4 e2).deep (by decide : 3 ≤ 3)) ?_
  show xBody MX8_tornLots 4 6 [some (.ref 4096)] [.int (zI y1.1)] ([r0, r1, r2, r3, zH y1.2 zL4 0, r5, r6, r7, r8, z9 E9]) _ _
  obtain rfl := Option.some.inj H
  exact xB.ret oX8_tornLots (r1 := some (.int (zI y1.1))) rfl rfl rfl
def d_X8_lakes (s4 : zZ) : Option (Int × zZ) := (d_X8_lotsApart s4 1 8).bind fun y1 => some (y1.1, y1.2)
set_option maxRecDepth 20000 in
theorem t_X8_lakes (r0 : List va_E) (r1 : List va_E) (r2 : List va_E) (r3 : List va_E) (s4 : zZ) (r5 : List va_E) (r6 : List va_E) (r7 : List va_E) (r8 : List va_E) (E9 : va_E) {rr : Int × zZ} (H : d_X8_lakes s4 = some rr) : xC MX8_lakes 4 [.ref 4096] ([r0, r1, r2, r3, zH s4 zL4 0, r5, r6, r7, r8, z9 E9]) (some (.int (zI rr.1))) ([r0, r1, r2, r3, zH rr.2 zL4 0, r5, r6, r7, r8, z9 E9]) := by
  refine ⟨Nat.le_of_ble_eq_true rfl, ?_⟩
  show xBody MX8_lakes 4 0 [some (.ref 4096)] [] ([r0, r1, r2, r3, zH s4 zL4 0, r5, r6, r7, r8, z9 E9]) _ _
  unfold d_X8_lakes at H
  refine xB.run oX8_lakes 3 (s := (4, [some (.ref 4096)], [.int (zI 8), .int (zI 1), .ref 4096], [r0, r1, r2, r3, zH s4 zL4 0, r5, r6, r7, r8, z9 E9])) rfl ?_
  obtain ⟨y1, e2, H⟩ := zbd H
  refine xB.call oX8_lakes (M2 := MX8_lotsApart) rfl rfl ((t_X8_lotsApart r0 r1 r2 r3 s4 r5 r6 r7 r8 E9 1 8 e2).deep (by decide : 3 ≤ 3)) ?_
  show xBody MX8_lakes 4 7 [some (.ref 4096)] [.int (zI y1.1)] ([r0, r1, r2, r3, zH y1.2 zL4 0, r5, r6, r7, r8, z9 E9]) _ _
  obtain rfl := Option.some.inj H
  exact xB.ret oX8_lakes (r1 := some (.int (zI y1.1))) rfl rfl rfl
def d_X8_comesAcross_48 (step : Int) (pl : Int) : Nat → Int → zZ → Option (Int × zZ)
  | 0, _, _ => none
  | uN + 1, way, s4 => if (zr way) then (if (8 : Int) ≤ way then some (way, s4) else ((d_X8_neighbour pl way).bind fun y5 => if (zr y5) then (if y5 < 0 then (d_X8_comesAcross_48 step pl uN (way + 1) s4) else ((d_X8_comeTo s4 y5).bind fun y8 => d_X8_comesAcross_48 step pl uN (way + 1) y8)) else none)) else none
def d_X8_comesAcross_2  : Nat → Int → zZ → Option (Sum (Int × zZ) (Int × zZ))
  | 0, _, _ => none
  | uN + 1, step, s4 => if (zr step) then (if (100 : Int) ≤ step then some (.inl (step, s4)) else (if (zr (s4 0 3)) then (if (s4 0 3) ≤ 0 then some (.inl (step, s4)) else (if (0 ≤ ((upz s4 0 3 ((s4 0 3) - 1)) 0 3) ∧ ((upz s4 0 3 ((s4 0 3) - 1)) 0 3) < 100) then (if (0 ≤ ((upz s4 0 3 ((s4 0 3) - 1)) 3 ((upz s4 0 3 ((s4 0 3) - 1)) 0 3).toNat) ∧ zr ((upz s4 0 3 ((s4 0 3) - 1)) 3 ((upz s4 0 3 ((s4 0 3) - 1)) 0 3).toNat)) then (if (zr (((upz s4 0 3 ((s4 0 3) - 1)) 3 ((upz s4 0 3 ((s4 0 3) - 1)) 0 3).toNat) % 10)) then (if (((upz s4 0 3 ((s4 0 3) - 1)) 3 ((upz s4 0 3 ((s4 0 3) - 1)) 0 3).toNat) % 10) ≠ 9 then ((d_X8_comesAcross_48 step ((upz s4 0 3 ((s4 0 3) - 1)) 3 ((upz s4 0 3 ((s4 0 3) - 1)) 0 3).toNat) zF 0 (upz s4 0 3 ((s4 0 3) - 1))).bind fun y12 => d_X8_comesAcross_2 uN (step + 1) y12.2) else some (.inr (1, upz s4 0 3 ((s4 0 3) - 1)))) else none) else none) else none)) else none)) else none
def d_X8_comesAcross (s4 : zZ) : Option (Int × zZ) := (d_X8_comesAcross_2 zF 0 s4).bind fun y19 => match y19 with | .inl y21 => some (0, y21.2) | .inr y22 => some y22
set_option maxRecDepth 20000 in
theorem l_X8_comesAcross_48 (r0 : List va_E) (r1 : List va_E) (r2 : List va_E) (r3 : List va_E) (r5 : List va_E) (r6 : List va_E) (r7 : List va_E) (r8 : List va_E) (E9 : va_E) (step : Int) (pl : Int) {r : Option Value} {hp1 : xH} : ∀ (uN : Nat) (way : Int) (s4 : zZ) {uX : Int × zZ}, d_X8_comesAcross_48 step pl uN way s4 = some uX → (xBody MX8_comesAcross 2 78 [some (.ref 4096), some (.int (zI step)), some (.int (zI pl)), some (.int (zI uX.1)), none] [] ([r0, r1, r2, r3, zH uX.2 zL4 0, r5, r6, r7, r8, z9 E9]) r hp1) → xBody MX8_comesAcross 2 48 [some (.ref 4096), some (.int (zI step)), some (.int (zI pl)), some (.int (zI way)), none] [] ([r0, r1, r2, r3, zH s4 zL4 0, r5, r6, r7, r8, z9 E9]) r hp1 := by
  intro uN
  induction uN with
  | zero => intro way s4 uX H K; cases H
  | succ uN ih =>
    intro way s4 uX H K
    unfold d_X8_comesAcross_48 at H
    refine xB.run oX8_comesAcross 2 (s := (51, [some (.ref 4096), some (.int (zI step)), some (.int (zI pl)), some (.int (zI way)), none], [.int (zI 8), .int (zI way)], [r0, r1, r2, r3, zH s4 zL4 0, r5, r6, r7, r8, z9 E9])) rfl ?_
    obtain ⟨g11, H⟩ := zgd H
    have H := zif H
    refine xB.brE oX8_comesAcross (P := (8 : Int) ≤ way) rfl (zc_ge (a := way) (b := 8) ⟨g11, by decide⟩) (fun h4 => ?_) (fun h4 => ?_)
    · have H := H.1 h4
      obtain rfl := Option.some.inj H
      exact K
    · have H := H.2 h4
      refine xB.run oX8_comesAcross 2 (s := (56, [some (.ref 4096), some (.int (zI step)), some (.int (zI pl)), some (.int (zI way)), none], [.int (zI way), .int (zI pl)], [r0, r1, r2, r3, zH s4 zL4 0, r5, r6, r7, r8, z9 E9])) rfl ?_
      obtain ⟨y5, e6, H⟩ := zbd H
      refine xB.call oX8_comesAcross (M2 := MX8_neighbour) rfl rfl ((t_X8_neighbour r0 r1 r2 r3 (zH s4 zL4 0) r5 r6 r7 r8 E9 pl way e6).deep (by decide : 1 ≤ 1)) ?_
      show xBody MX8_comesAcross 2 59 [some (.ref 4096), some (.int (zI step)), some (.int (zI pl)), some (.int (zI way)), none] [.int (zI y5)] ([r0, r1, r2, r3, zH s4 zL4 0, r5, r6, r7, r8, z9 E9]) _ _
      refine xB.run oX8_comesAcross 2 (s := (63, [some (.ref 4096), some (.int (zI step)), some (.int (zI pl)), some (.int (zI way)), some (.int (zI y5))], [.int (zI y5)], [r0, r1, r2, r3, zH s4 zL4 0, r5, r6, r7, r8, z9 E9])) rfl ?_
      obtain ⟨g10, H⟩ := zgd H
      have H := zif H
      refine xB.brE oX8_comesAcross (P := y5 < 0) rfl (zc_lt (a := y5) (b := 0) ⟨g10, by decide⟩) (fun h7 => ?_) (fun h7 => ?_)
      · have H := H.1 h7
        refine zB.inc oX8_comesAcross rfl (lv2 := [some (.ref 4096), some (.int (zI step)), some (.int (zI pl)), some (.int (zI (way + 1))), some (.int (zI y5))]) (zi_inc (a := 0) (zi_addp1 way) _ rfl) ?_
        refine xB.run oX8_comesAcross 1 (s := (48, [some (.ref 4096), some (.int (zI step)), some (.int (zI pl)), some (.int (zI (way + 1))), some (.int (zI y5))], [], [r0, r1, r2, r3, zH s4 zL4 0, r5, r6, r7, r8, z9 E9])) rfl ?_
        refine xB.forget (lv1 := [some (.ref 4096), some (.int (zI step)), some (.int (zI pl)), some (.int (zI (way + 1))), none]) (xle_same (xle_same (xle_same (xle_same (xle_none (xle_nil)))))) ?_
        exact ih (way + 1) s4 H K
      · have H := H.2 h7
        refine xB.run oX8_comesAcross 2 (s := (69, [some (.ref 4096), some (.int (zI step)), some (.int (zI pl)), some (.int (zI way)), some (.int (zI y5))], [.int (zI y5), .ref 4096], [r0, r1, r2, r3, zH s4 zL4 0, r5, r6, r7, r8, z9 E9])) rfl ?_
        obtain ⟨y8, e9, H⟩ := zbd H
        refine xB.call oX8_comesAcross (M2 := MX8_comeTo) rfl rfl ((t_X8_comeTo r0 r1 r2 r3 s4 r5 r6 r7 r8 (z9 E9) y5 e9).deep (by decide : 1 ≤ 1)) ?_
        show xBody MX8_comesAcross 2 72 [some (.ref 4096), some (.int (zI step)), some (.int (zI pl)), some (.int (zI way)), some (.int (zI y5))] [] ([r0, r1, r2, r3, zH y8 zL4 0, r5, r6, r7, r8, z9 E9]) _ _
        refine zB.inc oX8_comesAcross rfl (lv2 := [some (.ref 4096), some (.int (zI step)), some (.int (zI pl)), some (.int (zI (way + 1))), some (.int (zI y5))]) (zi_inc (a := 0) (zi_addp1 way) _ rfl) ?_
        refine xB.run oX8_comesAcross 1 (s := (48, [some (.ref 4096), some (.int (zI step)), some (.int (zI pl)), some (.int (zI (way + 1))), some (.int (zI y5))], [], [r0, r1, r2, r3, zH y8 zL4 0, r5, r6, r7, r8, z9 E9])) rfl ?_
        refine xB.forget (lv1 := [some (.ref 4096), some (.int (zI step)), some (.int (zI pl)), some (.int (zI (way + 1))), none]) (xle_same (xle_same (xle_same (xle_same (xle_none (xle_nil)))))) ?_
        exact ih (way + 1) y8 H K
set_option maxRecDepth 20000 in
theorem l_X8_comesAcross_2 (r0 : List va_E) (r1 : List va_E) (r2 : List va_E) (r3 : List va_E) (r5 : List va_E) (r6 : List va_E) (r7 : List va_E) (r8 : List va_E) (E9 : va_E) {r : Option Value} {hp1 : xH} : ∀ (uN : Nat) (step : Int) (s4 : zZ) {uX : Sum (Int × zZ) (Int × zZ)}, d_X8_comesAcross_2 uN step s4 = some uX → ((∀ uY, uX = .inl uY → xBody MX8_comesAcross 2 84 [some (.ref 4096), some (.int (zI uY.1)), none, none, none] [] ([r0, r1, r2, r3, zH uY.2 zL4 0, r5, r6, r7, r8, z9 E9]) r hp1) ∧ (∀ uW, uX = .inr uW → r = some (.int (zI uW.1)) ∧ hp1 = [r0, r1, r2, r3, zH uW.2 zL4 0, r5, r6, r7, r8, z9 E9])) → xBody MX8_comesAcross 2 2 [some (.ref 4096), some (.int (zI step)), none, none, none] [] ([r0, r1, r2, r3, zH s4 zL4 0, r5, r6, r7, r8, z9 E9]) r hp1 := by
  intro uN
  induction uN with
  | zero => intro step s4 uX H K; cases H
  | succ uN ih =>
    intro step s4 uX H K
    unfold d_X8_comesAcross_2 at H
    refine xB.run oX8_comesAcross 2 (s := (5, [some (.ref 4096), some (.int (zI step)), none, none, none], [.int (zI 100), .int (zI step)], [r0, r1, r2, r3, zH s4 zL4 0, r5, r6, r7, r8, z9 E9])) rfl ?_
    obtain ⟨g18, H⟩ := zgd H
    have H := zif H
    refine xB.brE oX8_comesAcross (P := (100 : Int) ≤ step) rfl (zc_ge (a := step) (b := 100) ⟨g18, by decide⟩) (fun h1 => ?_) (fun h1 => ?_)
    · have H := H.1 h1
      obtain rfl := Option.some.inj H
      exact K.1 _ rfl
    · have H := H.2 h1
      refine xB.run oX8_comesAcross 2 (s := (12, [some (.ref 4096), some (.int (zI step)), none, none, none], [.int (zI (s4 0 3))], [r0, r1, r2, r3, zH s4 zL4 0, r5, r6, r7, r8, z9 E9])) rfl ?_
      obtain ⟨g17, H⟩ := zgd H
      have H := zif H
      refine xB.brE oX8_comesAcross (P := (s4 0 3) ≤ 0) rfl (zc_le (a := s4 0 3) (b := 0) ⟨g17, by decide⟩) (fun h2 => ?_) (fun h2 => ?_)
      · have H := H.1 h2
        obtain rfl := Option.some.inj H
        exact K.1 _ rfl
      · have H := H.2 h2
        refine xB.run oX8_comesAcross 4 (s := (21, [some (.ref 4096), some (.int (zI step)), none, none, none], [.int (zI 1), .int (zI (s4 0 3)), .ref 4096], [r0, r1, r2, r3, zH s4 zL4 0, r5, r6, r7, r8, z9 E9])) rfl ?_
        refine zB.opi oX8_comesAcross rfl (zi_sub (s4 0 3) 1) ?_
        refine zB.putI oX8_comesAcross (g := 4) (p := 0) (c := 8) (k := 3) (y := 0) (hp1 := [r0, r1, r2, r3, zH (upz s4 0 3 ((s4 0 3) - 1)) zL4 0, r5, r6, r7, r8, z9 E9]) rfl rfl (by decide) (by decide) rfl rfl rfl rfl rfl rfl ?_
        refine xB.run oX8_comesAcross 4 (s := (33, [some (.ref 4096), some (.int (zI step)), none, none, none], [.int (zI ((upz s4 0 3 ((s4 0 3) - 1)) 0 3)), .ref 4099], [r0, r1, r2, r3, zH (upz s4 0 3 ((s4 0 3) - 1)) zL4 0, r5, r6, r7, r8, z9 E9])) rfl ?_
        obtain ⟨g16, H⟩ := zgd H
        refine zB.iald oX8_comesAcross (g := 4) (p := 3) (N := 100) (i := (upz s4 0 3 ((s4 0 3) - 1)) 0 3) rfl rfl (by decide) rfl rfl (by decide) g16 ?_
        refine xB.run oX8_comesAcross 3 (s := (38, [some (.ref 4096), some (.int (zI step)), some (.int (zI ((upz s4 0 3 ((s4 0 3) - 1)) 3 ((upz s4 0 3 ((s4 0 3) - 1)) 0 3).toNat))), none, none], [.int (zI 10), .int (zI ((upz s4 0 3 ((s4 0 3) - 1)) 3 ((upz s4 0 3 ((s4 0 3) - 1)) 0 3).toNat))], [r0, r1, r2, r3, zH (upz s4 0 3 ((s4 0 3) - 1)) zL4 0, r5, r6, r7, r8, z9 E9])) rfl ?_
        obtain ⟨g15, H⟩ := zgd H
        refine zB.divi oX8_comesAcross (b := 10) rfl (zi_remp g15 (by decide)) rfl (by decide) ?_
        refine xB.run oX8_comesAcross 1 (s := (41, [some (.ref 4096), some (.int (zI step)), some (.int (zI ((upz s4 0 3 ((s4 0 3) - 1)) 3 ((upz s4 0 3 ((s4 0 3) - 1)) 0 3).toNat))), none, none], [.int (zI 9), .int (zI (((upz s4 0 3 ((s4 0 3) - 1)) 3 ((upz s4 0 3 ((s4 0 3) - 1)) 0 3).toNat) % 10))], [r0, r1, r2, r3, zH (upz s4 0 3 ((s4 0 3) - 1)) zL4 0, r5, r6, r7, r8, z9 E9])) rfl ?_
        obtain ⟨g14, H⟩ := zgd H
        have H := zif H
        refine xB.brE oX8_comesAcross (P := (((upz s4 0 3 ((s4 0 3) - 1)) 3 ((upz s4 0 3 ((s4 0 3) - 1)) 0 3).toNat) % 10) ≠ 9) rfl (zc_ne (a := ((upz s4 0 3 ((s4 0 3) - 1)) 3 ((upz s4 0 3 ((s4 0 3) - 1)) 0 3).toNat) % 10) (b := 9) ⟨g14, by decide⟩) (fun h3 => ?_) (fun h3 => ?_)
        · have H := H.1 h3
          refine xB.run oX8_comesAcross 2 (s := (48, [some (.ref 4096), some (.int (zI step)), some (.int (zI ((upz s4 0 3 ((s4 0 3) - 1)) 3 ((upz s4 0 3 ((s4 0 3) - 1)) 0 3).toNat))), some (.int (zI 0)), none], [], [r0, r1, r2, r3, zH (upz s4 0 3 ((s4 0 3) - 1)) zL4 0, r5, r6, r7, r8, z9 E9])) rfl ?_
          obtain ⟨y12, e13, H⟩ := zbd H
          refine l_X8_comesAcross_48 r0 r1 r2 r3 r5 r6 r7 r8 E9 step ((upz s4 0 3 ((s4 0 3) - 1)) 3 ((upz s4 0 3 ((s4 0 3) - 1)) 0 3).toNat) _ 0 (upz s4 0 3 ((s4 0 3) - 1)) e13 ?_
          refine zB.inc oX8_comesAcross rfl (lv2 := [some (.ref 4096), some (.int (zI (step + 1))), some (.int (zI ((upz s4 0 3 ((s4 0 3) - 1)) 3 ((upz s4 0 3 ((s4 0 3) - 1)) 0 3).toNat))), some (.int (zI y12.1)), none]) (zi_inc (a := 0) (zi_addp1 step) _ rfl) ?_
          refine xB.run oX8_comesAcross 1 (s := (2, [some (.ref 4096), some (.int (zI (step + 1))), some (.int (zI ((upz s4 0 3 ((s4 0 3) - 1)) 3 ((upz s4 0 3 ((s4 0 3) - 1)) 0 3).toNat))), some (.int (zI y12.1)), none], [], [r0, r1, r2, r3, zH y12.2 zL4 0, r5, r6, r7, r8, z9 E9])) rfl ?_
          refine xB.forget (lv1 := [some (.ref 4096), some (.int (zI (step + 1))), none, none, none]) (xle_same (xle_same (xle_none (xle_none (xle_same (xle_nil)))))) ?_
          exact ih (step + 1) y12.2 H K
        · have H := H.2 h3
          refine xB.run oX8_comesAcross 1 (s := (45, [some (.ref 4096), some (.int (zI step)), some (.int (zI ((upz s4 0 3 ((s4 0 3) - 1)) 3 ((upz s4 0 3 ((s4 0 3) - 1)) 0 3).toNat))), none, none], [.int (zI 1)], [r0, r1, r2, r3, zH (upz s4 0 3 ((s4 0 3) - 1)) zL4 0, r5, r6, r7, r8, z9 E9])) rfl ?_
          obtain rfl := Option.some.inj H
          obtain ⟨kr, kh⟩ := K.2 _ rfl
          subst kr kh
          exact xB.ret oX8_comesAcross (r1 := some (.int (zI 1))) rfl rfl rfl
set_option maxRecDepth 20000 in
theorem t_X8_comesAcross (r0 : List va_E) (r1 : List va_E) (r2 : List va_E) (r3 : List va_E) (s4 : zZ) (r5 : List va_E) (r6 : List va_E) (r7 : List va_E) (r8 : List va_E) (E9 : va_E) {rr : Int × zZ} (H : d_X8_comesAcross s4 = some rr) : xC MX8_comesAcross 2 [.ref 4096] ([r0, r1, r2, r3, zH s4 zL4 0, r5, r6, r7, r8, z9 E9]) (some (.int (zI rr.1))) ([r0, r1, r2, r3, zH rr.2 zL4 0, r5, r6, r7, r8, z9 E9]) := by
  refine ⟨Nat.le_of_ble_eq_true rfl, ?_⟩
  show xBody MX8_comesAcross 2 0 [some (.ref 4096), none, none, none, none] [] ([r0, r1, r2, r3, zH s4 zL4 0, r5, r6, r7, r8, z9 E9]) _ _
  unfold d_X8_comesAcross at H
  refine xB.run oX8_comesAcross 2 (s := (2, [some (.ref 4096), some (.int (zI 0)), none, none, none], [], [r0, r1, r2, r3, zH s4 zL4 0, r5, r6, r7, r8, z9 E9])) rfl ?_
  obtain ⟨y19, e20, H⟩ := zbd H
  refine l_X8_comesAcross_2 r0 r1 r2 r3 r5 r6 r7 r8 E9  _ 0 s4 e20 ?_
  refine ⟨fun y21 uQ => ?_, fun y22 uQ => ?_⟩
  · subst uQ
    refine xB.run oX8_comesAcross 1 (s := (85, [some (.ref 4096), some (.int (zI y21.1)), none, none, none], [.int (zI 0)], [r0, r1, r2, r3, zH y21.2 zL4 0, r5, r6, r7, r8, z9 E9])) rfl ?_
    obtain rfl := Option.some.inj H
    exact xB.ret oX8_comesAcross (r1 := some (.int (zI 0))) rfl rfl rfl
  · subst uQ
    obtain rfl := Option.some.inj H
    exact ⟨rfl, rfl⟩
def d_X8_takeLater_2  : Nat → Int → zZ → Option (Int × zZ)
  | 0, _, _ => none
  | uN + 1, k, s4 => if (zr k ∧ zr (s4 0 5)) then (if (s4 0 5) ≤ k then some (k, s4) else (if (0 ≤ k ∧ k < 100) then (if (0 ≤ k ∧ k < 100) then (d_X8_takeLater_2 uN (k + 1) (upz s4 3 k.toNat (s4 4 k.toNat))) else none) else none)) else none
def d_X8_takeLater (s4 : zZ) : Option (zZ) := (d_X8_takeLater_2 zF 0 s4).bind fun y5 => some (upz (upz y5.2 0 3 (y5.2 0 5)) 0 5 0)
set_option maxRecDepth 20000 in
theorem l_X8_takeLater_2 (r0 : List va_E) (r1 : List va_E) (r2 : List va_E) (r3 : List va_E) (r5 : List va_E) (r6 : List va_E) (r7 : List va_E) (r8 : List va_E) (r9 : List va_E) {r : Option Value} {hp1 : xH} : ∀ (uN : Nat) (k : Int) (s4 : zZ) {uX : Int × zZ}, d_X8_takeLater_2 uN k s4 = some uX → (xBody MX8_takeLater 0 28 [some (.ref 4096), some (.int (zI uX.1))] [] ([r0, r1, r2, r3, zH uX.2 zL4 0, r5, r6, r7, r8, r9]) r hp1) → xBody MX8_takeLater 0 2 [some (.ref 4096), some (.int (zI k))] [] ([r0, r1, r2, r3, zH s4 zL4 0, r5, r6, r7, r8, r9]) r hp1 := by
  intro uN
  induction uN with
  | zero => intro k s4 uX H K; cases H
  | succ uN ih =>
    intro k s4 uX H K
    unfold d_X8_takeLater_2 at H
    refine xB.run oX8_takeLater 3 (s := (7, [some (.ref 4096), some (.int (zI k))], [.int (zI (s4 0 5)), .int (zI k)], [r0, r1, r2, r3, zH s4 zL4 0, r5, r6, r7, r8, r9])) rfl ?_
    obtain ⟨g4, H⟩ := zgd H
    have H := zif H
    refine xB.brE oX8_takeLater (P := (s4 0 5) ≤ k) rfl (zc_ge (a := k) (b := s4 0 5) g4) (fun h1 => ?_) (fun h1 => ?_)
    · have H := H.1 h1
      obtain rfl := Option.some.inj H
      exact K
    · have H := H.2 h1
      refine xB.run oX8_takeLater 6 (s := (20, [some (.ref 4096), some (.int (zI k))], [.int (zI k), .ref 4100, .int (zI k), .ref 4099], [r0, r1, r2, r3, zH s4 zL4 0, r5, r6, r7, r8, r9])) rfl ?_
      obtain ⟨g3, H⟩ := zgd H
      refine zB.iald oX8_takeLater (g := 4) (p := 4) (N := 100) (i := k) rfl rfl (by decide) rfl rfl (by decide) g3 ?_
      obtain ⟨g2, H⟩ := zgd H
      refine zB.iast oX8_takeLater (g := 4) (p := 3) (N := 100) (i := k) (hp1 := [r0, r1, r2, r3, zH (upz s4 3 k.toNat (s4 4 k.toNat)) zL4 0, r5, r6, r7, r8, r9]) rfl rfl (by decide) (by decide) rfl rfl (by decide) g2 rfl ?_
      refine zB.inc oX8_takeLater rfl (lv2 := [some (.ref 4096), some (.int (zI (k + 1)))]) (zi_inc (a := 0) (zi_addp1 k) _ rfl) ?_
      refine xB.run oX8_takeLater 1 (s := (2, [some (.ref 4096), some (.int (zI (k + 1)))], [], [r0, r1, r2, r3, zH (upz s4 3 k.toNat (s4 4 k.toNat)) zL4 0, r5, r6, r7, r8, r9])) rfl ?_
      exact ih (k + 1) (upz s4 3 k.toNat (s4 4 k.toNat)) H K
set_option maxRecDepth 20000 in
theorem t_X8_takeLater (r0 : List va_E) (r1 : List va_E) (r2 : List va_E) (r3 : List va_E) (s4 : zZ) (r5 : List va_E) (r6 : List va_E) (r7 : List va_E) (r8 : List va_E) (r9 : List va_E) {rr : zZ} (H : d_X8_takeLater s4 = some rr) : xC MX8_takeLater 0 [.ref 4096] ([r0, r1, r2, r3, zH s4 zL4 0, r5, r6, r7, r8, r9]) (none) ([r0, r1, r2, r3, zH rr zL4 0, r5, r6, r7, r8, r9]) := by
  refine ⟨Nat.le_of_ble_eq_true rfl, ?_⟩
  show xBody MX8_takeLater 0 0 [some (.ref 4096), none] [] ([r0, r1, r2, r3, zH s4 zL4 0, r5, r6, r7, r8, r9]) _ _
  unfold d_X8_takeLater at H
  refine xB.run oX8_takeLater 2 (s := (2, [some (.ref 4096), some (.int (zI 0))], [], [r0, r1, r2, r3, zH s4 zL4 0, r5, r6, r7, r8, r9])) rfl ?_
  obtain ⟨y5, e6, H⟩ := zbd H
  refine l_X8_takeLater_2 r0 r1 r2 r3 r5 r6 r7 r8 r9  _ 0 s4 e6 ?_
  refine xB.run oX8_takeLater 3 (s := (33, [some (.ref 4096), some (.int (zI y5.1))], [.int (zI (y5.2 0 5)), .ref 4096], [r0, r1, r2, r3, zH y5.2 zL4 0, r5, r6, r7, r8, r9])) rfl ?_
  refine zB.putI oX8_takeLater (g := 4) (p := 0) (c := 8) (k := 3) (y := 0) (hp1 := [r0, r1, r2, r3, zH (upz y5.2 0 3 (y5.2 0 5)) zL4 0, r5, r6, r7, r8, r9]) rfl rfl (by decide) (by decide) rfl rfl rfl rfl rfl rfl ?_
  refine xB.run oX8_takeLater 2 (s := (38, [some (.ref 4096), some (.int (zI y5.1))], [.int (zI 0), .ref 4096], [r0, r1, r2, r3, zH (upz y5.2 0 3 (y5.2 0 5)) zL4 0, r5, r6, r7, r8, r9])) rfl ?_
  refine zB.putI oX8_takeLater (g := 4) (p := 0) (c := 8) (k := 5) (y := 0) (hp1 := [r0, r1, r2, r3, zH (upz (upz y5.2 0 3 (y5.2 0 5)) 0 5 0) zL4 0, r5, r6, r7, r8, r9]) rfl rfl (by decide) (by decide) rfl rfl rfl rfl rfl rfl ?_
  obtain rfl := Option.some.inj H
  exact xB.ret oX8_takeLater (r1 := none) rfl rfl rfl
def d_X8_shortestCut_20  : Nat → Int → zZ → Option (Int × zZ)
  | 0, _, _ => none
  | uN + 1, k, s4 => if (zr k) then (if (10 : Int) ≤ k then some (k, s4) else ((d_X8_comeTo s4 (k * 10)).bind fun y2 => d_X8_shortestCut_20 uN (k + 1) y2)) else none
def d_X8_shortestCut_42  : Nat → Int → zZ → Option (Sum (Int × zZ) (Int × zZ))
  | 0, _, _ => none
  | uN + 1, k, s4 => if (zr k) then (if (10 : Int) ≤ k then some (.inl (k, s4)) else ((d_X8_comesAcross s4).bind fun y8 => if (zr y8.1) then (if y8.1 = 0 then ((d_X8_takeLater y8.2).bind fun y11 => d_X8_shortestCut_42 uN (k + 1) y11) else some (.inr (k, y8.2))) else none)) else none
def d_X8_shortestCut (s4 : zZ) : Option (Int × zZ) := (d_X8_shortestCut_20 zF 0 (upz (upz (zfl s4 2 100 0) 0 3 0) 0 5 0)).bind fun y5 => (d_X8_shortestCut_42 zF 0 y5.2).bind fun y15 => match y15 with | .inl y17 => some (10, y17.2) | .inr y18 => some y18
set_option maxRecDepth 20000 in
theorem l_X8_shortestCut_20 (r0 : List va_E) (r1 : List va_E) (r2 : List va_E) (r3 : List va_E) (r5 : List va_E) (r6 : List va_E) (r7 : List va_E) (r8 : List va_E) (E9 : va_E) {r : Option Value} {hp1 : xH} : ∀ (uN : Nat) (k : Int) (s4 : zZ) {uX : Int × zZ}, d_X8_shortestCut_20 uN k s4 = some uX → (xBody MX8_shortestCut 3 40 [some (.ref 4096), some (.int (zI uX.1))] [] ([r0, r1, r2, r3, zH uX.2 zL4 0, r5, r6, r7, r8, z9 E9]) r hp1) → xBody MX8_shortestCut 3 20 [some (.ref 4096), some (.int (zI k))] [] ([r0, r1, r2, r3, zH s4 zL4 0, r5, r6, r7, r8, z9 E9]) r hp1 := by
  intro uN
  induction uN with
  | zero => intro k s4 uX H K; cases H
  | succ uN ih =>
    intro k s4 uX H K
    unfold d_X8_shortestCut_20 at H
    refine xB.run oX8_shortestCut 2 (s := (23, [some (.ref 4096), some (.int (zI k))], [.int (zI 10), .int (zI k)], [r0, r1, r2, r3, zH s4 zL4 0, r5, r6, r7, r8, z9 E9])) rfl ?_
    obtain ⟨g4, H⟩ := zgd H
    have H := zif H
    refine xB.brE oX8_shortestCut (P := (10 : Int) ≤ k) rfl (zc_ge (a := k) (b := 10) ⟨g4, by decide⟩) (fun h1 => ?_) (fun h1 => ?_)
    · have H := H.1 h1
      obtain rfl := Option.some.inj H
      exact K
    · have H := H.2 h1
      refine xB.run oX8_shortestCut 3 (s := (30, [some (.ref 4096), some (.int (zI k))], [.int (zI 10), .int (zI k), .ref 4096], [r0, r1, r2, r3, zH s4 zL4 0, r5, r6, r7, r8, z9 E9])) rfl ?_
      refine zB.opi oX8_shortestCut rfl (zi_mul k 10) ?_
      obtain ⟨y2, e3, H⟩ := zbd H
      refine xB.call oX8_shortestCut (M2 := MX8_comeTo) rfl rfl ((t_X8_comeTo r0 r1 r2 r3 s4 r5 r6 r7 r8 (z9 E9) (k * 10) e3).deep (by decide : 1 ≤ 2)) ?_
      show xBody MX8_shortestCut 3 34 [some (.ref 4096), some (.int (zI k))] [] ([r0, r1, r2, r3, zH y2 zL4 0, r5, r6, r7, r8, z9 E9]) _ _
      refine zB.inc oX8_shortestCut rfl (lv2 := [some (.ref 4096), some (.int (zI (k + 1)))]) (zi_inc (a := 0) (zi_addp1 k) _ rfl) ?_
      refine xB.run oX8_shortestCut 1 (s := (20, [some (.ref 4096), some (.int (zI (k + 1)))], [], [r0, r1, r2, r3, zH y2 zL4 0, r5, r6, r7, r8, z9 E9])) rfl ?_
      exact ih (k + 1) y2 H K
set_option maxRecDepth 20000 in
theorem l_X8_shortestCut_42 (r0 : List va_E) (r1 : List va_E) (r2 : List va_E) (r3 : List va_E) (r5 : List va_E) (r6 : List va_E) (r7 : List va_E) (r8 : List va_E) (E9 : va_E) {r : Option Value} {hp1 : xH} : ∀ (uN : Nat) (k : Int) (s4 : zZ) {uX : Sum (Int × zZ) (Int × zZ)}, d_X8_shortestCut_42 uN k s4 = some uX → ((∀ uY, uX = .inl uY → xBody MX8_shortestCut 3 67 [some (.ref 4096), some (.int (zI uY.1))] [] ([r0, r1, r2, r3, zH uY.2 zL4 0, r5, r6, r7, r8, z9 E9]) r hp1) ∧ (∀ uW, uX = .inr uW → r = some (.int (zI uW.1)) ∧ hp1 = [r0, r1, r2, r3, zH uW.2 zL4 0, r5, r6, r7, r8, z9 E9])) → xBody MX8_shortestCut 3 42 [some (.ref 4096), some (.int (zI k))] [] ([r0, r1, r2, r3, zH s4 zL4 0, r5, r6, r7, r8, z9 E9]) r hp1 := by
  intro uN
  induction uN with
  | zero => intro k s4 uX H K; cases H
  | succ uN ih =>
    intro k s4 uX H K
    unfold d_X8_shortestCut_42 at H
    refine xB.run oX8_shortestCut 2 (s := (45, [some (.ref 4096), some (.int (zI k))], [.int (zI 10), .int (zI k)], [r0, r1, r2, r3, zH s4 zL4 0, r5, r6, r7, r8, z9 E9])) rfl ?_
    obtain ⟨g14, H⟩ := zgd H
    have H := zif H
    refine xB.brE oX8_shortestCut (P := (10 : Int) ≤ k) rfl (zc_ge (a := k) (b := 10) ⟨g14, by decide⟩) (fun h7 => ?_) (fun h7 => ?_)
    · have H := H.1 h7
      obtain rfl := Option.some.inj H
      exact K.1 _ rfl
    · have H := H.2 h7
      refine xB.run oX8_shortestCut 1 (s := (49, [some (.ref 4096), some (.int (zI k))], [.ref 4096], [r0, r1, r2, r3, zH s4 zL4 0, r5, r6, r7, r8, z9 E9])) rfl ?_
      obtain ⟨y8, e9, H⟩ := zbd H
      refine xB.call oX8_shortestCut (M2 := MX8_comesAcross) rfl rfl ((t_X8_comesAcross r0 r1 r2 r3 s4 r5 r6 r7 r8 E9  e9).deep (by decide : 2 ≤ 2)) ?_
      show xBody MX8_shortestCut 3 52 [some (.ref 4096), some (.int (zI k))] [.int (zI y8.1)] ([r0, r1, r2, r3, zH y8.2 zL4 0, r5, r6, r7, r8, z9 E9]) _ _
      obtain ⟨g13, H⟩ := zgd H
      have H := zif H
      refine xB.brE oX8_shortestCut (P := y8.1 = 0) rfl (zc_eq (a := y8.1) (b := 0) ⟨g13, by decide⟩) (fun h10 => ?_) (fun h10 => ?_)
      · have H := H.1 h10
        refine xB.run oX8_shortestCut 1 (s := (58, [some (.ref 4096), some (.int (zI k))], [.ref 4096], [r0, r1, r2, r3, zH y8.2 zL4 0, r5, r6, r7, r8, z9 E9])) rfl ?_
        obtain ⟨y11, e12, H⟩ := zbd H
        refine xB.call oX8_shortestCut (M2 := MX8_takeLater) rfl rfl ((t_X8_takeLater r0 r1 r2 r3 y8.2 r5 r6 r7 r8 (z9 E9)  e12).deep (by decide : 0 ≤ 2)) ?_
        show xBody MX8_shortestCut 3 61 [some (.ref 4096), some (.int (zI k))] [] ([r0, r1, r2, r3, zH y11 zL4 0, r5, r6, r7, r8, z9 E9]) _ _
        refine zB.inc oX8_shortestCut rfl (lv2 := [some (.ref 4096), some (.int (zI (k + 1)))]) (zi_inc (a := 0) (zi_addp1 k) _ rfl) ?_
        refine xB.run oX8_shortestCut 1 (s := (42, [some (.ref 4096), some (.int (zI (k + 1)))], [], [r0, r1, r2, r3, zH y11 zL4 0, r5, r6, r7, r8, z9 E9])) rfl ?_
        exact ih (k + 1) y11 H K
      · have H := H.2 h10
        refine xB.run oX8_shortestCut 1 (s := (56, [some (.ref 4096), some (.int (zI k))], [.int (zI k)], [r0, r1, r2, r3, zH y8.2 zL4 0, r5, r6, r7, r8, z9 E9])) rfl ?_
        obtain rfl := Option.some.inj H
        obtain ⟨kr, kh⟩ := K.2 _ rfl
        subst kr kh
        exact xB.ret oX8_shortestCut (r1 := some (.int (zI k))) rfl rfl rfl
set_option maxRecDepth 20000 in
theorem t_X8_shortestCut (r0 : List va_E) (r1 : List va_E) (r2 : List va_E) (r3 : List va_E) (s4 : zZ) (r5 : List va_E) (r6 : List va_E) (r7 : List va_E) (r8 : List va_E) (E9 : va_E) {rr : Int × zZ} (H : d_X8_shortestCut s4 = some rr) : xC MX8_shortestCut 3 [.ref 4096] ([r0, r1, r2, r3, zH s4 zL4 0, r5, r6, r7, r8, z9 E9]) (some (.int (zI rr.1))) ([r0, r1, r2, r3, zH rr.2 zL4 0, r5, r6, r7, r8, z9 E9]) := by
  refine ⟨Nat.le_of_ble_eq_true rfl, ?_⟩
  show xBody MX8_shortestCut 3 0 [some (.ref 4096), none] [] ([r0, r1, r2, r3, zH s4 zL4 0, r5, r6, r7, r8, z9 E9]) _ _
  unfold d_X8_shortestCut at H
  refine xB.run oX8_shortestCut 3 (s := (5, [some (.ref 4096), none], [.int (zI 0), .ref 4098], [r0, r1, r2, r3, zH s4 zL4 0, r5, r6, r7, r8, z9 E9])) rfl ?_
  refine xB.call oX8_shortestCut (M2 := MJ7_fill_53178) rfl rfl ((zfillI (hp := [r0, r1, r2, r3, zH s4 zL4 0, r5, r6, r7, r8, z9 E9]) (g := 4) (p := 2) (N := 100) (L := zL4) 0 rfl (by decide) (by decide) rfl rfl (by decide)).deep (Nat.zero_le 2)) ?_
  show xBody MX8_shortestCut 3 8 [some (.ref 4096), none] [] ([r0, r1, r2, r3, zH (zfl s4 2 100 0) zL4 0, r5, r6, r7, r8, z9 E9]) _ _
  refine xB.run oX8_shortestCut 2 (s := (10, [some (.ref 4096), none], [.int (zI 0), .ref 4096], [r0, r1, r2, r3, zH (zfl s4 2 100 0) zL4 0, r5, r6, r7, r8, z9 E9])) rfl ?_
  refine zB.putI oX8_shortestCut (g := 4) (p := 0) (c := 8) (k := 3) (y := 0) (hp1 := [r0, r1, r2, r3, zH (upz (zfl s4 2 100 0) 0 3 0) zL4 0, r5, r6, r7, r8, z9 E9]) rfl rfl (by decide) (by decide) rfl rfl rfl rfl rfl rfl ?_
  refine xB.run oX8_shortestCut 2 (s := (15, [some (.ref 4096), none], [.int (zI 0), .ref 4096], [r0, r1, r2, r3, zH (upz (zfl s4 2 100 0) 0 3 0) zL4 0, r5, r6, r7, r8, z9 E9])) rfl ?_
  refine zB.putI oX8_shortestCut (g := 4) (p := 0) (c := 8) (k := 5) (y := 0) (hp1 := [r0, r1, r2, r3, zH (upz (upz (zfl s4 2 100 0) 0 3 0) 0 5 0) zL4 0, r5, r6, r7, r8, z9 E9]) rfl rfl (by decide) (by decide) rfl rfl rfl rfl rfl rfl ?_
  refine xB.run oX8_shortestCut 2 (s := (20, [some (.ref 4096), some (.int (zI 0))], [], [r0, r1, r2, r3, zH (upz (upz (zfl s4 2 100 0) 0 3 0) 0 5 0) zL4 0, r5, r6, r7, r8, z9 E9])) rfl ?_
  obtain ⟨y5, e6, H⟩ := zbd H
  refine l_X8_shortestCut_20 r0 r1 r2 r3 r5 r6 r7 r8 E9  _ 0 (upz (upz (zfl s4 2 100 0) 0 3 0) 0 5 0) e6 ?_
  refine xB.run oX8_shortestCut 2 (s := (42, [some (.ref 4096), some (.int (zI 0))], [], [r0, r1, r2, r3, zH y5.2 zL4 0, r5, r6, r7, r8, z9 E9])) rfl ?_
  obtain ⟨y15, e16, H⟩ := zbd H
  refine l_X8_shortestCut_42 r0 r1 r2 r3 r5 r6 r7 r8 E9  _ 0 y5.2 e16 ?_
  refine ⟨fun y17 uQ => ?_, fun y18 uQ => ?_⟩
  · subst uQ
    refine xB.run oX8_shortestCut 1 (s := (69, [some (.ref 4096), some (.int (zI y17.1))], [.int (zI 10)], [r0, r1, r2, r3, zH y17.2 zL4 0, r5, r6, r7, r8, z9 E9])) rfl ?_
    obtain rfl := Option.some.inj H
    exact xB.ret oX8_shortestCut (r1 := some (.int (zI 10))) rfl rfl rfl
  · subst uQ
    obtain rfl := Option.some.inj H
    exact ⟨rfl, rfl⟩
