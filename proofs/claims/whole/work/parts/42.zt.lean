/-! 42.zt -/
def d_X9f_begin_44 (nr : Int) (nc : Int) : Nat → Int → zZ → Option (Int × zZ)
  | 0, _, _ => none
  | uN + 1, row, s3 => if (zr row ∧ zr (s3 13 0)) then (if (s3 13 0) ≤ row then some (row, s3) else (if ((0 ≤ row ∧ row < 8) ∧ 0 ≤ s3 14 row.toNat ∧ s3 14 row.toNat < 8) then (if ((s3 14 row.toNat).toNat < 8) then (d_X9f_begin_44 nr nc uN (row + 1) (zfl s3 (15 + (s3 14 row.toNat).toNat) 22 0)) else none) else none)) else none
def d_X9f_begin (s3 : zZ) (nr : Int) (nc : Int) : Option (zZ) := (d_J9_min_7cf53 nr (s3 13 0)).bind fun y1 => (d_J9_max_7cf53 0 y1).bind fun y3 => (d_J9_min_7cf53 nc ((upz s3 13 4 y3) 13 1)).bind fun y5 => (d_J9_max_7cf53 0 y5).bind fun y7 => (d_X9f_begin_44 nr nc zF 0 (upz (upz (upz (upz s3 13 4 y3) 13 5 y7) 13 6 0) 13 7 1)).bind fun y13 => some (zfl y13.2 23 22 (-1))
set_option maxRecDepth 20000 in
theorem l_X9f_begin_44 (r0 : List va_E) (r1 : List va_E) (r2 : List va_E) (r4 : List va_E) (r5 : List va_E) (r6 : List va_E) (r7 : List va_E) (r8 : List va_E) (r9 : List va_E) (nr : Int) (nc : Int) {r : Option Value} {hp1 : xH} : ∀ (uN : Nat) (row : Int) (s3 : zZ) {uX : Int × zZ}, d_X9f_begin_44 nr nc uN row s3 = some uX → (xBody MX9_begin 1 68 [some (.ref 3085), some (.int (zI nr)), some (.int (zI nc)), some (.int (zI uX.1))] [] ([r0, r1, r2, zH uX.2 zL3 0, r4, r5, r6, r7, r8, r9]) r hp1) → xBody MX9_begin 1 44 [some (.ref 3085), some (.int (zI nr)), some (.int (zI nc)), some (.int (zI row))] [] ([r0, r1, r2, zH s3 zL3 0, r4, r5, r6, r7, r8, r9]) r hp1 := by
  intro uN
  induction uN with
  | zero => intro row s3 uX H K; cases H
  | succ uN ih =>
    intro row s3 uX H K
    unfold d_X9f_begin_44 at H
    refine xB.run oX9_begin 3 (s := (49, [some (.ref 3085), some (.int (zI nr)), some (.int (zI nc)), some (.int (zI row))], [.int (zI (s3 13 0)), .int (zI row)], [r0, r1, r2, zH s3 zL3 0, r4, r5, r6, r7, r8, r9])) rfl ?_
    obtain ⟨g12, H⟩ := zgd H
    have H := zif H
    refine xB.brE oX9_begin (P := (s3 13 0) ≤ row) rfl (zc_ge (a := row) (b := s3 13 0) g12) (fun h9 => ?_) (fun h9 => ?_)
    · have H := H.1 h9
      obtain rfl := Option.some.inj H
      exact K
    · have H := H.2 h9
      refine xB.run oX9_begin 3 (s := (57, [some (.ref 3085), some (.int (zI nr)), some (.int (zI nc)), some (.int (zI row))], [.int (zI row), .ref 3086], [r0, r1, r2, zH s3 zL3 0, r4, r5, r6, r7, r8, r9])) rfl ?_
      obtain ⟨g11, H⟩ := zgd H
      refine zB.aaldP oX9_begin (g := 3) (p := 14) (N := 8) (g2 := 3) (p2 := 15) rfl rfl (by decide) rfl rfl (by decide) g11.1 ?_
      refine xB.run oX9_begin 1 (s := (59, [some (.ref 3085), some (.int (zI nr)), some (.int (zI nc)), some (.int (zI row))], [.long (zJ 0), .ref (1024 * 3 + (15 + ((s3 14 row.toNat).toNat)))], [r0, r1, r2, zH s3 zL3 0, r4, r5, r6, r7, r8, r9])) rfl ?_
      obtain ⟨g10, H⟩ := zgd H
      refine xB.call oX9_begin (M2 := MJ7_fill_d0a16) rfl rfl ((zfillL (hp := [r0, r1, r2, zH s3 zL3 0, r4, r5, r6, r7, r8, r9]) (g := 3) (p := 15 + (s3 14 row.toNat).toNat) (N := 22) (L := zL3) 0 rfl (by omega) (by decide) rfl (zg_3_15 _ (by omega)) (by decide)).deep (Nat.zero_le 0)) ?_
      show xBody MX9_begin 1 62 [some (.ref 3085), some (.int (zI nr)), some (.int (zI nc)), some (.int (zI row))] [] ([r0, r1, r2, zH (zfl s3 (15 + (s3 14 row.toNat).toNat) 22 0) zL3 0, r4, r5, r6, r7, r8, r9]) _ _
      refine zB.inc oX9_begin rfl (lv2 := [some (.ref 3085), some (.int (zI nr)), some (.int (zI nc)), some (.int (zI (row + 1)))]) (zi_inc (a := 0) (zi_addp1 row) _ rfl) ?_
      refine xB.run oX9_begin 1 (s := (44, [some (.ref 3085), some (.int (zI nr)), some (.int (zI nc)), some (.int (zI (row + 1)))], [], [r0, r1, r2, zH (zfl s3 (15 + (s3 14 row.toNat).toNat) 22 0) zL3 0, r4, r5, r6, r7, r8, r9])) rfl ?_
      exact ih (row + 1) (zfl s3 (15 + (s3 14 row.toNat).toNat) 22 0) H K
set_option maxRecDepth 20000 in
theorem t_X9f_begin (r0 : List va_E) (r1 : List va_E) (r2 : List va_E) (s3 : zZ) (r4 : List va_E) (r5 : List va_E) (r6 : List va_E) (r7 : List va_E) (r8 : List va_E) (r9 : List va_E) (nr : Int) (nc : Int) {rr : zZ} (H : d_X9f_begin s3 nr nc = some rr) : xC MX9_begin 1 [.ref 3085, .int (zI nr), .int (zI nc)] ([r0, r1, r2, zH s3 zL3 0, r4, r5, r6, r7, r8, r9]) (none) ([r0, r1, r2, zH rr zL3 0, r4, r5, r6, r7, r8, r9]) := by
  refine ⟨Nat.le_of_ble_eq_true rfl, ?_⟩
  show xBody MX9_begin 1 0 [some (.ref 3085), some (.int (zI nr)), some (.int (zI nc)), none] [] ([r0, r1, r2, zH s3 zL3 0, r4, r5, r6, r7, r8, r9]) _ _
  unfold d_X9f_begin at H
  refine xB.run oX9_begin 5 (s := (7, [some (.ref 3085), some (.int (zI nr)), some (.int (zI nc)), none], [.int (zI (s3 13 0)), .int (zI nr), .int (zI 0), .ref 3085], [r0, r1, r2, zH s3 zL3 0, r4, r5, r6, r7, r8, r9])) rfl ?_
  obtain ⟨y1, e2, H⟩ := zbd H
  refine xB.call oX9_begin (M2 := MJ9_min_7cf53) rfl rfl ((t_J9_min_7cf53 r0 r1 r2 (zH s3 zL3 0) r4 r5 r6 r7 r8 r9 nr (s3 13 0) e2).deep (by decide : 0 ≤ 0)) ?_
  show xBody MX9_begin 1 10 [some (.ref 3085), some (.int (zI nr)), some (.int (zI nc)), none] [.int (zI y1), .int (zI 0), .ref 3085] ([r0, r1, r2, zH s3 zL3 0, r4, r5, r6, r7, r8, r9]) _ _
  obtain ⟨y3, e4, H⟩ := zbd H
  refine xB.call oX9_begin (M2 := MJ9_max_7cf53) rfl rfl ((t_J9_max_7cf53 r0 r1 r2 (zH s3 zL3 0) r4 r5 r6 r7 r8 r9 0 y1 e4).deep (by decide : 0 ≤ 0)) ?_
  show xBody MX9_begin 1 13 [some (.ref 3085), some (.int (zI nr)), some (.int (zI nc)), none] [.int (zI y3), .ref 3085] ([r0, r1, r2, zH s3 zL3 0, r4, r5, r6, r7, r8, r9]) _ _
  refine zB.putI oX9_begin (g := 3) (p := 13) (c := 9) (k := 4) (y := 0) (hp1 := [r0, r1, r2, zH (upz s3 13 4 y3) zL3 0, r4, r5, r6, r7, r8, r9]) rfl rfl (by decide) (by decide) rfl rfl rfl rfl rfl rfl ?_
  refine xB.run oX9_begin 5 (s := (23, [some (.ref 3085), some (.int (zI nr)), some (.int (zI nc)), none], [.int (zI ((upz s3 13 4 y3) 13 1)), .int (zI nc), .int (zI 0), .ref 3085], [r0, r1, r2, zH (upz s3 13 4 y3) zL3 0, r4, r5, r6, r7, r8, r9])) rfl ?_
  obtain ⟨y5, e6, H⟩ := zbd H
  refine xB.call oX9_begin (M2 := MJ9_min_7cf53) rfl rfl ((t_J9_min_7cf53 r0 r1 r2 (zH (upz s3 13 4 y3) zL3 0) r4 r5 r6 r7 r8 r9 nc ((upz s3 13 4 y3) 13 1) e6).deep (by decide : 0 ≤ 0)) ?_
  show xBody MX9_begin 1 26 [some (.ref 3085), some (.int (zI nr)), some (.int (zI nc)), none] [.int (zI y5), .int (zI 0), .ref 3085] ([r0, r1, r2, zH (upz s3 13 4 y3) zL3 0, r4, r5, r6, r7, r8, r9]) _ _
  obtain ⟨y7, e8, H⟩ := zbd H
  refine xB.call oX9_begin (M2 := MJ9_max_7cf53) rfl rfl ((t_J9_max_7cf53 r0 r1 r2 (zH (upz s3 13 4 y3) zL3 0) r4 r5 r6 r7 r8 r9 0 y5 e8).deep (by decide : 0 ≤ 0)) ?_
  show xBody MX9_begin 1 29 [some (.ref 3085), some (.int (zI nr)), some (.int (zI nc)), none] [.int (zI y7), .ref 3085] ([r0, r1, r2, zH (upz s3 13 4 y3) zL3 0, r4, r5, r6, r7, r8, r9]) _ _
  refine zB.putI oX9_begin (g := 3) (p := 13) (c := 9) (k := 5) (y := 0) (hp1 := [r0, r1, r2, zH (upz (upz s3 13 4 y3) 13 5 y7) zL3 0, r4, r5, r6, r7, r8, r9]) rfl rfl (by decide) (by decide) rfl rfl rfl rfl rfl rfl ?_
  refine xB.run oX9_begin 2 (s := (34, [some (.ref 3085), some (.int (zI nr)), some (.int (zI nc)), none], [.int (zI 0), .ref 3085], [r0, r1, r2, zH (upz (upz s3 13 4 y3) 13 5 y7) zL3 0, r4, r5, r6, r7, r8, r9])) rfl ?_
  refine zB.putI oX9_begin (g := 3) (p := 13) (c := 9) (k := 6) (y := 0) (hp1 := [r0, r1, r2, zH (upz (upz (upz s3 13 4 y3) 13 5 y7) 13 6 0) zL3 0, r4, r5, r6, r7, r8, r9]) rfl rfl (by decide) (by decide) rfl rfl rfl rfl rfl rfl ?_
  refine xB.run oX9_begin 2 (s := (39, [some (.ref 3085), some (.int (zI nr)), some (.int (zI nc)), none], [.long (zJ 1), .ref 3085], [r0, r1, r2, zH (upz (upz (upz s3 13 4 y3) 13 5 y7) 13 6 0) zL3 0, r4, r5, r6, r7, r8, r9])) rfl ?_
  refine zB.putL oX9_begin (g := 3) (p := 13) (c := 9) (k := 7) (y := 0) (hp1 := [r0, r1, r2, zH (upz (upz (upz (upz s3 13 4 y3) 13 5 y7) 13 6 0) 13 7 1) zL3 0, r4, r5, r6, r7, r8, r9]) rfl rfl (by decide) (by decide) rfl rfl rfl rfl rfl rfl ?_
  refine xB.run oX9_begin 2 (s := (44, [some (.ref 3085), some (.int (zI nr)), some (.int (zI nc)), some (.int (zI 0))], [], [r0, r1, r2, zH (upz (upz (upz (upz s3 13 4 y3) 13 5 y7) 13 6 0) 13 7 1) zL3 0, r4, r5, r6, r7, r8, r9])) rfl ?_
  obtain ⟨y13, e14, H⟩ := zbd H
  refine l_X9f_begin_44 r0 r1 r2 r4 r5 r6 r7 r8 r9 nr nc _ 0 (upz (upz (upz (upz s3 13 4 y3) 13 5 y7) 13 6 0) 13 7 1) e14 ?_
  refine xB.run oX9_begin 3 (s := (73, [some (.ref 3085), some (.int (zI nr)), some (.int (zI nc)), some (.int (zI y13.1))], [.int (zI (-1)), .ref 3095], [r0, r1, r2, zH y13.2 zL3 0, r4, r5, r6, r7, r8, r9])) rfl ?_
  refine xB.call oX9_begin (M2 := MJ7_fill_53178) rfl rfl ((zfillI (hp := [r0, r1, r2, zH y13.2 zL3 0, r4, r5, r6, r7, r8, r9]) (g := 3) (p := 23) (N := 22) (L := zL3) (-1) rfl (by decide) (by decide) rfl rfl (by decide)).deep (Nat.zero_le 0)) ?_
  show xBody MX9_begin 1 76 [some (.ref 3085), some (.int (zI nr)), some (.int (zI nc)), some (.int (zI y13.1))] [] ([r0, r1, r2, zH (zfl y13.2 23 22 (-1)) zL3 0, r4, r5, r6, r7, r8, r9]) _ _
  obtain rfl := Option.some.inj H
  exact xB.ret oX9_begin (r1 := none) rfl rfl rfl
def d_X9f_isThere (s3 : zZ) (row : Int) (col : Int) : Option (Int) := if (zr row) then (if row < 0 then some 0 else (if (zr row ∧ zr (s3 13 4)) then (if (s3 13 4) ≤ row then some 0 else (if (zr col) then (if col < 0 then some 0 else (if (zr col ∧ zr (s3 13 5)) then (if (s3 13 5) ≤ col then some 0 else some 1) else none)) else none)) else none)) else none
set_option maxRecDepth 20000 in
theorem t_X9f_isThere (r0 : List va_E) (r1 : List va_E) (r2 : List va_E) (s3 : zZ) (r4 : List va_E) (r5 : List va_E) (r6 : List va_E) (r7 : List va_E) (r8 : List va_E) (r9 : List va_E) (row : Int) (col : Int) {rr : Int} (H : d_X9f_isThere s3 row col = some rr) : xC MX9_isThere 0 [.ref 3085, .int (zI row), .int (zI col)] ([r0, r1, r2, zH s3 zL3 0, r4, r5, r6, r7, r8, r9]) (some (.int (zI rr))) ([r0, r1, r2, zH s3 zL3 0, r4, r5, r6, r7, r8, r9]) := by
  refine ⟨Nat.le_of_ble_eq_true rfl, ?_⟩
  show xBody MX9_isThere 0 0 [some (.ref 3085), some (.int (zI row)), some (.int (zI col))] [] ([r0, r1, r2, zH s3 zL3 0, r4, r5, r6, r7, r8, r9]) _ _
  unfold d_X9f_isThere at H
  refine xB.run oX9_isThere 1 (s := (1, [some (.ref 3085), some (.int (zI row)), some (.int (zI col))], [.int (zI row)], [r0, r1, r2, zH s3 zL3 0, r4, r5, r6, r7, r8, r9])) rfl ?_
  obtain ⟨g8, H⟩ := zgd H
  have H := zif H
  refine xB.brE oX9_isThere (P := row < 0) rfl (zc_lt (a := row) (b := 0) ⟨g8, by decide⟩) (fun h1 => ?_) (fun h1 => ?_)
  · have H := H.1 h1
    refine xB.run oX9_isThere 1 (s := (29, [some (.ref 3085), some (.int (zI row)), some (.int (zI col))], [.int (zI 0)], [r0, r1, r2, zH s3 zL3 0, r4, r5, r6, r7, r8, r9])) rfl ?_
    obtain rfl := Option.some.inj H
    exact xB.ret oX9_isThere (r1 := some (.int (zI 0))) rfl rfl rfl
  · have H := H.2 h1
    refine xB.run oX9_isThere 3 (s := (9, [some (.ref 3085), some (.int (zI row)), some (.int (zI col))], [.int (zI (s3 13 4)), .int (zI row)], [r0, r1, r2, zH s3 zL3 0, r4, r5, r6, r7, r8, r9])) rfl ?_
    obtain ⟨g7, H⟩ := zgd H
    have H := zif H
    refine xB.brE oX9_isThere (P := (s3 13 4) ≤ row) rfl (zc_ge (a := row) (b := s3 13 4) g7) (fun h2 => ?_) (fun h2 => ?_)
    · have H := H.1 h2
      refine xB.run oX9_isThere 1 (s := (29, [some (.ref 3085), some (.int (zI row)), some (.int (zI col))], [.int (zI 0)], [r0, r1, r2, zH s3 zL3 0, r4, r5, r6, r7, r8, r9])) rfl ?_
      obtain rfl := Option.some.inj H
      exact xB.ret oX9_isThere (r1 := some (.int (zI 0))) rfl rfl rfl
    · have H := H.2 h2
      refine xB.run oX9_isThere 1 (s := (13, [some (.ref 3085), some (.int (zI row)), some (.int (zI col))], [.int (zI col)], [r0, r1, r2, zH s3 zL3 0, r4, r5, r6, r7, r8, r9])) rfl ?_
      obtain ⟨g6, H⟩ := zgd H
      have H := zif H
      refine xB.brE oX9_isThere (P := col < 0) rfl (zc_lt (a := col) (b := 0) ⟨g6, by decide⟩) (fun h3 => ?_) (fun h3 => ?_)
      · have H := H.1 h3
        refine xB.run oX9_isThere 1 (s := (29, [some (.ref 3085), some (.int (zI row)), some (.int (zI col))], [.int (zI 0)], [r0, r1, r2, zH s3 zL3 0, r4, r5, r6, r7, r8, r9])) rfl ?_
        obtain rfl := Option.some.inj H
        exact xB.ret oX9_isThere (r1 := some (.int (zI 0))) rfl rfl rfl
      · have H := H.2 h3
        refine xB.run oX9_isThere 3 (s := (21, [some (.ref 3085), some (.int (zI row)), some (.int (zI col))], [.int (zI (s3 13 5)), .int (zI col)], [r0, r1, r2, zH s3 zL3 0, r4, r5, r6, r7, r8, r9])) rfl ?_
        obtain ⟨g5, H⟩ := zgd H
        have H := zif H
        refine xB.brE oX9_isThere (P := (s3 13 5) ≤ col) rfl (zc_ge (a := col) (b := s3 13 5) g5) (fun h4 => ?_) (fun h4 => ?_)
        · have H := H.1 h4
          refine xB.run oX9_isThere 1 (s := (29, [some (.ref 3085), some (.int (zI row)), some (.int (zI col))], [.int (zI 0)], [r0, r1, r2, zH s3 zL3 0, r4, r5, r6, r7, r8, r9])) rfl ?_
          obtain rfl := Option.some.inj H
          exact xB.ret oX9_isThere (r1 := some (.int (zI 0))) rfl rfl rfl
        · have H := H.2 h4
          refine xB.run oX9_isThere 2 (s := (29, [some (.ref 3085), some (.int (zI row)), some (.int (zI col))], [.int (zI 1)], [r0, r1, r2, zH s3 zL3 0, r4, r5, r6, r7, r8, r9])) rfl ?_
          obtain rfl := Option.some.inj H
          exact xB.ret oX9_isThere (r1 := some (.int (zI 1))) rfl rfl rfl
def d_X9f_add (s3 : zZ) (row : Int) (col : Int) (num : Int) : Option (zZ) := (d_X9f_isThere s3 row col).bind fun y1 => if (zr y1) then (if y1 = 0 then some s3 else (if ((0 ≤ row ∧ row < 8) ∧ 0 ≤ s3 14 row.toNat ∧ s3 14 row.toNat < 8) then (if (((s3 14 row.toNat).toNat < 8) ∧ (0 ≤ col ∧ col < 22)) then (if (((s3 14 row.toNat).toNat < 8) ∧ (0 ≤ col ∧ col < 22)) then some (upz s3 (15 + (s3 14 row.toNat).toNat) col.toNat ((s3 (15 + (s3 14 row.toNat).toNat) col.toNat) + num)) else none) else none) else none)) else none
set_option maxRecDepth 20000 in
theorem t_X9f_add (r0 : List va_E) (r1 : List va_E) (r2 : List va_E) (s3 : zZ) (r4 : List va_E) (r5 : List va_E) (r6 : List va_E) (r7 : List va_E) (r8 : List va_E) (r9 : List va_E) (row : Int) (col : Int) (num : Int) {rr : zZ} (H : d_X9f_add s3 row col num = some rr) : xC MX9_add 1 [.ref 3085, .int (zI row), .int (zI col), .long (zJ num)] ([r0, r1, r2, zH s3 zL3 0, r4, r5, r6, r7, r8, r9]) (none) ([r0, r1, r2, zH rr zL3 0, r4, r5, r6, r7, r8, r9]) := by
  refine ⟨Nat.le_of_ble_eq_true rfl, ?_⟩
  show xBody MX9_add 1 0 [some (.ref 3085), some (.int (zI row)), some (.int (zI col)), some (.long (zJ num)), none] [] ([r0, r1, r2, zH s3 zL3 0, r4, r5, r6, r7, r8, r9]) _ _
  unfold d_X9f_add at H
  refine xB.run oX9_add 3 (s := (3, [some (.ref 3085), some (.int (zI row)), some (.int (zI col)), some (.long (zJ num)), none], [.int (zI col), .int (zI row), .ref 3085], [r0, r1, r2, zH s3 zL3 0, r4, r5, r6, r7, r8, r9])) rfl ?_
  obtain ⟨y1, e2, H⟩ := zbd H
  refine xB.call oX9_add (M2 := MX9_isThere) rfl rfl ((t_X9f_isThere r0 r1 r2 s3 r4 r5 r6 r7 r8 r9 row col e2).deep (by decide : 0 ≤ 0)) ?_
  show xBody MX9_add 1 6 [some (.ref 3085), some (.int (zI row)), some (.int (zI col)), some (.long (zJ num)), none] [.int (zI y1)] ([r0, r1, r2, zH s3 zL3 0, r4, r5, r6, r7, r8, r9]) _ _
  obtain ⟨g7, H⟩ := zgd H
  have H := zif H
  refine xB.brE oX9_add (P := y1 = 0) rfl (zc_eq (a := y1) (b := 0) ⟨g7, by decide⟩) (fun h3 => ?_) (fun h3 => ?_)
  · have H := H.1 h3
    obtain rfl := Option.some.inj H
    exact xB.ret oX9_add (r1 := none) rfl rfl rfl
  · have H := H.2 h3
    refine xB.run oX9_add 3 (s := (14, [some (.ref 3085), some (.int (zI row)), some (.int (zI col)), some (.long (zJ num)), none], [.int (zI row), .ref 3086], [r0, r1, r2, zH s3 zL3 0, r4, r5, r6, r7, r8, r9])) rfl ?_
    obtain ⟨g6, H⟩ := zgd H
    refine zB.aaldP oX9_add (g := 3) (p := 14) (N := 8) (g2 := 3) (p2 := 15) rfl rfl (by decide) rfl rfl (by decide) g6.1 ?_
    refine xB.run oX9_add 2 (s := (17, [some (.ref 3085), some (.int (zI row)), some (.int (zI col)), some (.long (zJ num)), none], [.int (zI col), .ref (1024 * 3 + (15 + ((s3 14 row.toNat).toNat))), .int (zI col), .ref (1024 * 3 + (15 + ((s3 14 row.toNat).toNat)))], [r0, r1, r2, zH s3 zL3 0, r4, r5, r6, r7, r8, r9])) rfl ?_
    obtain ⟨g5, H⟩ := zgd H
    refine zB.lald oX9_add (g := 3) (p := 15 + (s3 14 row.toNat).toNat) (N := 22) (i := col) rfl rfl (by omega) rfl (zg_3_15 _ (by omega)) (by decide) g5.2 ?_
    refine xB.run oX9_add 1 (s := (19, [some (.ref 3085), some (.int (zI row)), some (.int (zI col)), some (.long (zJ num)), none], [.long (zJ num), .long (zJ (s3 (15 + (s3 14 row.toNat).toNat) col.toNat)), .int (zI col), .ref (1024 * 3 + (15 + ((s3 14 row.toNat).toNat)))], [r0, r1, r2, zH s3 zL3 0, r4, r5, r6, r7, r8, r9])) rfl ?_
    refine zB.opl oX9_add rfl (zj_add (s3 (15 + (s3 14 row.toNat).toNat) col.toNat) num) ?_
    obtain ⟨g4, H⟩ := zgd H
    refine zB.last oX9_add (g := 3) (p := 15 + (s3 14 row.toNat).toNat) (N := 22) (i := col) (hp1 := [r0, r1, r2, zH (upz s3 (15 + (s3 14 row.toNat).toNat) col.toNat ((s3 (15 + (s3 14 row.toNat).toNat) col.toNat) + num)) zL3 0, r4, r5, r6, r7, r8, r9]) rfl rfl (by omega) (by decide) rfl (zg_3_15 _ (by omega)) (by decide) g4.2 rfl ?_
    obtain rfl := Option.some.inj H
    exact xB.ret oX9_add (r1 := none) rfl rfl rfl
def d_X9f_number (s3 : zZ) (row : Int) (col : Int) : Option (Int) := (d_X9f_isThere s3 row col).bind fun y1 => if (zr y1) then (if y1 = 0 then some 0 else (if ((0 ≤ row ∧ row < 8) ∧ 0 ≤ s3 14 row.toNat ∧ s3 14 row.toNat < 8) then (if (((s3 14 row.toNat).toNat < 8) ∧ (0 ≤ col ∧ col < 22)) then some (s3 (15 + (s3 14 row.toNat).toNat) col.toNat) else none) else none)) else none
set_option maxRecDepth 20000 in
theorem t_X9f_number (r0 : List va_E) (r1 : List va_E) (r2 : List va_E) (s3 : zZ) (r4 : List va_E) (r5 : List va_E) (r6 : List va_E) (r7 : List va_E) (r8 : List va_E) (r9 : List va_E) (row : Int) (col : Int) {rr : Int} (H : d_X9f_number s3 row col = some rr) : xC MX9_number 1 [.ref 3085, .int (zI row), .int (zI col)] ([r0, r1, r2, zH s3 zL3 0, r4, r5, r6, r7, r8, r9]) (some (.long (zJ rr))) ([r0, r1, r2, zH s3 zL3 0, r4, r5, r6, r7, r8, r9]) := by
  refine ⟨Nat.le_of_ble_eq_true rfl, ?_⟩
  show xBody MX9_number 1 0 [some (.ref 3085), some (.int (zI row)), some (.int (zI col))] [] ([r0, r1, r2, zH s3 zL3 0, r4, r5, r6, r7, r8, r9]) _ _
  unfold d_X9f_number at H
  refine xB.run oX9_number 3 (s := (3, [some (.ref 3085), some (.int (zI row)), some (.int (zI col))], [.int (zI col), .int (zI row), .ref 3085], [r0, r1, r2, zH s3 zL3 0, r4, r5, r6, r7, r8, r9])) rfl ?_
  obtain ⟨y1, e2, H⟩ := zbd H
  refine xB.call oX9_number (M2 := MX9_isThere) rfl rfl ((t_X9f_isThere r0 r1 r2 s3 r4 r5 r6 r7 r8 r9 row col e2).deep (by decide : 0 ≤ 0)) ?_
  show xBody MX9_number 1 6 [some (.ref 3085), some (.int (zI row)), some (.int (zI col))] [.int (zI y1)] ([r0, r1, r2, zH s3 zL3 0, r4, r5, r6, r7, r8, r9]) _ _
  obtain ⟨g6, H⟩ := zgd H
  have H := zif H
  refine xB.brE oX9_number (P := y1 = 0) rfl (zc_eq (a := y1) (b := 0) ⟨g6, by decide⟩) (fun h3 => ?_) (fun h3 => ?_)
  · have H := H.1 h3
    refine xB.run oX9_number 1 (s := (21, [some (.ref 3085), some (.int (zI row)), some (.int (zI col))], [.long (zJ 0)], [r0, r1, r2, zH s3 zL3 0, r4, r5, r6, r7, r8, r9])) rfl ?_
    obtain rfl := Option.some.inj H
    exact xB.ret oX9_number (r1 := some (.long (zJ 0))) rfl rfl rfl
  · have H := H.2 h3
    refine xB.run oX9_number 3 (s := (14, [some (.ref 3085), some (.int (zI row)), some (.int (zI col))], [.int (zI row), .ref 3086], [r0, r1, r2, zH s3 zL3 0, r4, r5, r6, r7, r8, r9])) rfl ?_
    obtain ⟨g5, H⟩ := zgd H
    refine zB.aaldP oX9_number (g := 3) (p := 14) (N := 8) (g2 := 3) (p2 := 15) rfl rfl (by decide) rfl rfl (by decide) g5.1 ?_
    refine xB.run oX9_number 1 (s := (16, [some (.ref 3085), some (.int (zI row)), some (.int (zI col))], [.int (zI col), .ref (1024 * 3 + (15 + ((s3 14 row.toNat).toNat)))], [r0, r1, r2, zH s3 zL3 0, r4, r5, r6, r7, r8, r9])) rfl ?_
    obtain ⟨g4, H⟩ := zgd H
    refine zB.lald oX9_number (g := 3) (p := 15 + (s3 14 row.toNat).toNat) (N := 22) (i := col) rfl rfl (by omega) rfl (zg_3_15 _ (by omega)) (by decide) g4.2 ?_
    refine xB.run oX9_number 1 (s := (21, [some (.ref 3085), some (.int (zI row)), some (.int (zI col))], [.long (zJ (s3 (15 + (s3 14 row.toNat).toNat) col.toNat))], [r0, r1, r2, zH s3 zL3 0, r4, r5, r6, r7, r8, r9])) rfl ?_
    obtain rfl := Option.some.inj H
    exact xB.ret oX9_number (r1 := some (.long (zJ (s3 (15 + (s3 14 row.toNat).toNat) col.toNat)))) rfl rfl rfl
def d_X9f_leads (s3 : zZ) (col : Int) : Option (Int) := if (zr col) then (if col < 0 then some (-1) else (if (zr col ∧ zr (s3 13 5)) then (if (s3 13 5) ≤ col then some (-1) else (if (0 ≤ col ∧ col < 22) then some (s3 23 col.toNat) else none)) else none)) else none
set_option maxRecDepth 20000 in
theorem t_X9f_leads (r0 : List va_E) (r1 : List va_E) (r2 : List va_E) (s3 : zZ) (r4 : List va_E) (r5 : List va_E) (r6 : List va_E) (r7 : List va_E) (r8 : List va_E) (r9 : List va_E) (col : Int) {rr : Int} (H : d_X9f_leads s3 col = some rr) : xC MX9_leads 0 [.ref 3085, .int (zI col)] ([r0, r1, r2, zH s3 zL3 0, r4, r5, r6, r7, r8, r9]) (some (.int (zI rr))) ([r0, r1, r2, zH s3 zL3 0, r4, r5, r6, r7, r8, r9]) := by
  refine ⟨Nat.le_of_ble_eq_true rfl, ?_⟩
  show xBody MX9_leads 0 0 [some (.ref 3085), some (.int (zI col))] [] ([r0, r1, r2, zH s3 zL3 0, r4, r5, r6, r7, r8, r9]) _ _
  unfold d_X9f_leads at H
  refine xB.run oX9_leads 1 (s := (1, [some (.ref 3085), some (.int (zI col))], [.int (zI col)], [r0, r1, r2, zH s3 zL3 0, r4, r5, r6, r7, r8, r9])) rfl ?_
  obtain ⟨g5, H⟩ := zgd H
  have H := zif H
  refine xB.brE oX9_leads (P := col < 0) rfl (zc_lt (a := col) (b := 0) ⟨g5, by decide⟩) (fun h1 => ?_) (fun h1 => ?_)
  · have H := H.1 h1
    refine xB.run oX9_leads 1 (s := (22, [some (.ref 3085), some (.int (zI col))], [.int (zI (-1))], [r0, r1, r2, zH s3 zL3 0, r4, r5, r6, r7, r8, r9])) rfl ?_
    obtain rfl := Option.some.inj H
    exact xB.ret oX9_leads (r1 := some (.int (zI (-1)))) rfl rfl rfl
  · have H := H.2 h1
    refine xB.run oX9_leads 3 (s := (9, [some (.ref 3085), some (.int (zI col))], [.int (zI (s3 13 5)), .int (zI col)], [r0, r1, r2, zH s3 zL3 0, r4, r5, r6, r7, r8, r9])) rfl ?_
    obtain ⟨g4, H⟩ := zgd H
    have H := zif H
    refine xB.brE oX9_leads (P := (s3 13 5) ≤ col) rfl (zc_ge (a := col) (b := s3 13 5) g4) (fun h2 => ?_) (fun h2 => ?_)
    · have H := H.1 h2
      refine xB.run oX9_leads 1 (s := (22, [some (.ref 3085), some (.int (zI col))], [.int (zI (-1))], [r0, r1, r2, zH s3 zL3 0, r4, r5, r6, r7, r8, r9])) rfl ?_
      obtain rfl := Option.some.inj H
      exact xB.ret oX9_leads (r1 := some (.int (zI (-1)))) rfl rfl rfl
    · have H := H.2 h2
      refine xB.run oX9_leads 3 (s := (17, [some (.ref 3085), some (.int (zI col))], [.int (zI col), .ref 3095], [r0, r1, r2, zH s3 zL3 0, r4, r5, r6, r7, r8, r9])) rfl ?_
      obtain ⟨g3, H⟩ := zgd H
      refine zB.iald oX9_leads (g := 3) (p := 23) (N := 22) (i := col) rfl rfl (by decide) rfl rfl (by decide) g3 ?_
      refine xB.run oX9_leads 1 (s := (22, [some (.ref 3085), some (.int (zI col))], [.int (zI (s3 23 col.toNat))], [r0, r1, r2, zH s3 zL3 0, r4, r5, r6, r7, r8, r9])) rfl ?_
      obtain rfl := Option.some.inj H
      exact xB.ret oX9_leads (r1 := some (.int (zI (s3 23 col.toNat)))) rfl rfl rfl
def d_X9f_rowToLead_5 (s3 : zZ) (col : Int) : Nat → Int → Option (Sum (Int) (Int))
  | 0, _ => none
  | uN + 1, row => if (zr row ∧ zr (s3 13 4)) then (if (s3 13 4) ≤ row then some (.inl row) else (if ((0 ≤ row ∧ row < 8) ∧ 0 ≤ s3 14 row.toNat ∧ s3 14 row.toNat < 8) then (if (((s3 14 row.toNat).toNat < 8) ∧ (0 ≤ col ∧ col < 22)) then (if (zrl (s3 (15 + (s3 14 row.toNat).toNat) col.toNat)) then (if (s3 (15 + (s3 14 row.toNat).toNat) col.toNat) = 0 then (d_X9f_rowToLead_5 s3 col uN (row + 1)) else some (.inr row)) else none) else none) else none)) else none
def d_X9f_rowToLead (s3 : zZ) (col : Int) : Option (Int) := (d_X9f_rowToLead_5 s3 col zF (s3 13 6)).bind fun y7 => match y7 with | .inl y9 => some (-1) | .inr y10 => some y10
set_option maxRecDepth 20000 in
theorem l_X9f_rowToLead_5 (r0 : List va_E) (r1 : List va_E) (r2 : List va_E) (s3 : zZ) (r4 : List va_E) (r5 : List va_E) (r6 : List va_E) (r7 : List va_E) (r8 : List va_E) (r9 : List va_E) (col : Int) {r : Option Value} {hp1 : xH} : ∀ (uN : Nat) (row : Int) {uX : Sum (Int) (Int)}, d_X9f_rowToLead_5 s3 col uN row = some uX → ((∀ uY, uX = .inl uY → xBody MX9_rowToLead 0 34 [some (.ref 3085), some (.int (zI col)), some (.int (zI uY))] [] ([r0, r1, r2, zH s3 zL3 0, r4, r5, r6, r7, r8, r9]) r hp1) ∧ (∀ uW, uX = .inr uW → r = some (.int (zI uW)) ∧ hp1 = [r0, r1, r2, zH s3 zL3 0, r4, r5, r6, r7, r8, r9])) → xBody MX9_rowToLead 0 5 [some (.ref 3085), some (.int (zI col)), some (.int (zI row))] [] ([r0, r1, r2, zH s3 zL3 0, r4, r5, r6, r7, r8, r9]) r hp1 := by
  intro uN
  induction uN with
  | zero => intro row uX H K; cases H
  | succ uN ih =>
    intro row uX H K
    unfold d_X9f_rowToLead_5 at H
    refine xB.run oX9_rowToLead 3 (s := (10, [some (.ref 3085), some (.int (zI col)), some (.int (zI row))], [.int (zI (s3 13 4)), .int (zI row)], [r0, r1, r2, zH s3 zL3 0, r4, r5, r6, r7, r8, r9])) rfl ?_
    obtain ⟨g6, H⟩ := zgd H
    have H := zif H
    refine xB.brE oX9_rowToLead (P := (s3 13 4) ≤ row) rfl (zc_ge (a := row) (b := s3 13 4) g6) (fun h1 => ?_) (fun h1 => ?_)
    · have H := H.1 h1
      obtain rfl := Option.some.inj H
      exact K.1 _ rfl
    · have H := H.2 h1
      refine xB.run oX9_rowToLead 3 (s := (18, [some (.ref 3085), some (.int (zI col)), some (.int (zI row))], [.int (zI row), .ref 3086], [r0, r1, r2, zH s3 zL3 0, r4, r5, r6, r7, r8, r9])) rfl ?_
      obtain ⟨g5, H⟩ := zgd H
      refine zB.aaldP oX9_rowToLead (g := 3) (p := 14) (N := 8) (g2 := 3) (p2 := 15) rfl rfl (by decide) rfl rfl (by decide) g5.1 ?_
      refine xB.run oX9_rowToLead 1 (s := (20, [some (.ref 3085), some (.int (zI col)), some (.int (zI row))], [.int (zI col), .ref (1024 * 3 + (15 + ((s3 14 row.toNat).toNat)))], [r0, r1, r2, zH s3 zL3 0, r4, r5, r6, r7, r8, r9])) rfl ?_
      obtain ⟨g4, H⟩ := zgd H
      refine zB.lald oX9_rowToLead (g := 3) (p := 15 + (s3 14 row.toNat).toNat) (N := 22) (i := col) rfl rfl (by omega) rfl (zg_3_15 _ (by omega)) (by decide) g4.2 ?_
      refine xB.run oX9_rowToLead 2 (s := (23, [some (.ref 3085), some (.int (zI col)), some (.int (zI row))], [.int (lg_cmp (zJ (s3 (15 + (s3 14 row.toNat).toNat) col.toNat)) (zJ 0))], [r0, r1, r2, zH s3 zL3 0, r4, r5, r6, r7, r8, r9])) rfl ?_
      obtain ⟨g3, H⟩ := zgd H
      have H := zif H
      refine xB.brE oX9_rowToLead (P := (s3 (15 + (s3 14 row.toNat).toNat) col.toNat) = 0) rfl (zl_eq (a := s3 (15 + (s3 14 row.toNat).toNat) col.toNat) (b := 0) ⟨g3, by decide⟩) (fun h2 => ?_) (fun h2 => ?_)
      · have H := H.1 h2
        refine zB.inc oX9_rowToLead rfl (lv2 := [some (.ref 3085), some (.int (zI col)), some (.int (zI (row + 1)))]) (zi_inc (a := 0) (zi_addp1 row) _ rfl) ?_
        refine xB.run oX9_rowToLead 1 (s := (5, [some (.ref 3085), some (.int (zI col)), some (.int (zI (row + 1)))], [], [r0, r1, r2, zH s3 zL3 0, r4, r5, r6, r7, r8, r9])) rfl ?_
        exact ih (row + 1) H K
      · have H := H.2 h2
        refine xB.run oX9_rowToLead 1 (s := (27, [some (.ref 3085), some (.int (zI col)), some (.int (zI row))], [.int (zI row)], [r0, r1, r2, zH s3 zL3 0, r4, r5, r6, r7, r8, r9])) rfl ?_
        obtain rfl := Option.some.inj H
        obtain ⟨kr, kh⟩ := K.2 _ rfl
        subst kr kh
        exact xB.ret oX9_rowToLead (r1 := some (.int (zI row))) rfl rfl rfl
set_option maxRecDepth 20000 in
theorem t_X9f_rowToLead (r0 : List va_E) (r1 : List va_E) (r2 : List va_E) (s3 : zZ) (r4 : List va_E) (r5 : List va_E) (r6 : List va_E) (r7 : List va_E) (r8 : List va_E) (r9 : List va_E) (col : Int) {rr : Int} (H : d_X9f_rowToLead s3 col = some rr) : xC MX9_rowToLead 0 [.ref 3085, .int (zI col)] ([r0, r1, r2, zH s3 zL3 0, r4, r5, r6, r7, r8, r9]) (some (.int (zI rr))) ([r0, r1, r2, zH s3 zL3 0, r4, r5, r6, r7, r8, r9]) := by
  refine ⟨Nat.le_of_ble_eq_true rfl, ?_⟩
  show xBody MX9_rowToLead 0 0 [some (.ref 3085), some (.int (zI col)), none] [] ([r0, r1, r2, zH s3 zL3 0, r4, r5, r6, r7, r8, r9]) _ _
  unfold d_X9f_rowToLead at H
  refine xB.run oX9_rowToLead 3 (s := (5, [some (.ref 3085), some (.int (zI col)), some (.int (zI (s3 13 6)))], [], [r0, r1, r2, zH s3 zL3 0, r4, r5, r6, r7, r8, r9])) rfl ?_
  obtain ⟨y7, e8, H⟩ := zbd H
  refine l_X9f_rowToLead_5 r0 r1 r2 s3 r4 r5 r6 r7 r8 r9 col _ (s3 13 6) e8 ?_
  refine ⟨fun y9 uQ => ?_, fun y10 uQ => ?_⟩
  · subst uQ
    refine xB.run oX9_rowToLead 1 (s := (35, [some (.ref 3085), some (.int (zI col)), some (.int (zI y9))], [.int (zI (-1))], [r0, r1, r2, zH s3 zL3 0, r4, r5, r6, r7, r8, r9])) rfl ?_
    obtain rfl := Option.some.inj H
    exact xB.ret oX9_rowToLead (r1 := some (.int (zI (-1)))) rfl rfl rfl
  · subst uQ
    obtain rfl := Option.some.inj H
    exact ⟨rfl, rfl⟩
def d_X9f_clearOthers_62 (col : Int) (w2 : Int) (lead : Int) (row : Int) (w6 : Int) (times : Int) : Nat → Int → zZ → Option (Int × zZ)
  | 0, _, _ => none
  | uN + 1, k, s3 => if (zr k ∧ zr (s3 13 5)) then (if (s3 13 5) ≤ k then some (k, s3) else (if ((w6.toNat < 8) ∧ (0 ≤ k ∧ k < 22)) then (if ((w2.toNat < 8) ∧ (0 ≤ k ∧ k < 22)) then (if (zrl ((lead * (s3 (15 + w6.toNat) k.toNat)) - (times * (s3 (15 + w2.toNat) k.toNat))) ∧ (s3 13 7) ≠ 0 ∧ zrl (s3 13 7)) then (if ((w6.toNat < 8) ∧ (0 ≤ k ∧ k < 22)) then (d_X9f_clearOthers_62 col w2 lead row w6 times uN (k + 1) (upz s3 (15 + w6.toNat) k.toNat (((lead * (s3 (15 + w6.toNat) k.toNat)) - (times * (s3 (15 + w2.toNat) k.toNat))).tdiv (s3 13 7)))) else none) else none) else none) else none)) else none
def d_X9f_clearOthers_17 (col : Int) (w2 : Int) (lead : Int) : Nat → Int → zZ → Option (Int × zZ)
  | 0, _, _ => none
  | uN + 1, row, s3 => if (zr row ∧ zr (s3 13 4)) then (if (s3 13 4) ≤ row then some (row, s3) else (if (zr row ∧ zr (s3 13 6)) then (if row = (s3 13 6) then (d_X9f_clearOthers_17 col w2 lead uN (row + 1) s3) else (if (zrl (s3 13 7)) then (if (s3 13 7) = 0 then (d_X9f_clearOthers_17 col w2 lead uN (row + 1) s3) else (if ((0 ≤ row ∧ row < 8) ∧ 0 ≤ s3 14 row.toNat ∧ s3 14 row.toNat < 8) then (if (((s3 14 row.toNat).toNat < 8) ∧ (0 ≤ col ∧ col < 22)) then ((d_X9f_clearOthers_62 col w2 lead row (s3 14 row.toNat) (s3 (15 + (s3 14 row.toNat).toNat) col.toNat) zF 0 s3).bind fun y10 => d_X9f_clearOthers_17 col w2 lead uN (row + 1) y10.2) else none) else none)) else none)) else none)) else none
def d_X9f_clearOthers (s3 : zZ) (col : Int) : Option (zZ) := if ((0 ≤ (s3 13 6) ∧ (s3 13 6) < 8) ∧ 0 ≤ s3 14 (s3 13 6).toNat ∧ s3 14 (s3 13 6).toNat < 8) then (if (((s3 14 (s3 13 6).toNat).toNat < 8) ∧ (0 ≤ col ∧ col < 22)) then ((d_X9f_clearOthers_17 col (s3 14 (s3 13 6).toNat) (s3 (15 + (s3 14 (s3 13 6).toNat).toNat) col.toNat) zF 0 s3).bind fun y17 => some y17.2) else none) else none
set_option maxRecDepth 20000 in
theorem l_X9f_clearOthers_62 (r0 : List va_E) (r1 : List va_E) (r2 : List va_E) (r4 : List va_E) (r5 : List va_E) (r6 : List va_E) (r7 : List va_E) (r8 : List va_E) (r9 : List va_E) (col : Int) (w2 : Int) (lead : Int) (row : Int) (w6 : Int) (times : Int) {r : Option Value} {hp1 : xH} : ∀ (uN : Nat) (k : Int) (s3 : zZ) {uX : Int × zZ}, d_X9f_clearOthers_62 col w2 lead row w6 times uN k s3 = some uX → (xBody MX9_clearOthers 0 102 [some (.ref 3085), some (.int (zI col)), some (.ref (1024 * 3 + (15 + w2.toNat))), some (.long (zJ lead)), none, some (.int (zI row)), some (.ref (1024 * 3 + (15 + w6.toNat))), some (.long (zJ times)), none, some (.int (zI uX.1))] [] ([r0, r1, r2, zH uX.2 zL3 0, r4, r5, r6, r7, r8, r9]) r hp1) → xBody MX9_clearOthers 0 62 [some (.ref 3085), some (.int (zI col)), some (.ref (1024 * 3 + (15 + w2.toNat))), some (.long (zJ lead)), none, some (.int (zI row)), some (.ref (1024 * 3 + (15 + w6.toNat))), some (.long (zJ times)), none, some (.int (zI k))] [] ([r0, r1, r2, zH s3 zL3 0, r4, r5, r6, r7, r8, r9]) r hp1 := by
  intro uN
  induction uN with
  | zero => intro k s3 uX H K; cases H
  | succ uN ih =>
    intro k s3 uX H K
    unfold d_X9f_clearOthers_62 at H
    refine xB.run oX9_clearOthers 3 (s := (68, [some (.ref 3085), some (.int (zI col)), some (.ref (1024 * 3 + (15 + w2.toNat))), some (.long (zJ lead)), none, some (.int (zI row)), some (.ref (1024 * 3 + (15 + w6.toNat))), some (.long (zJ times)), none, some (.int (zI k))], [.int (zI (s3 13 5)), .int (zI k)], [r0, r1, r2, zH s3 zL3 0, r4, r5, r6, r7, r8, r9])) rfl ?_
    obtain ⟨g9, H⟩ := zgd H
    have H := zif H
    refine xB.brE oX9_clearOthers (P := (s3 13 5) ≤ k) rfl (zc_ge (a := k) (b := s3 13 5) g9) (fun h4 => ?_) (fun h4 => ?_)
    · have H := H.1 h4
      obtain rfl := Option.some.inj H
      exact K
    · have H := H.2 h4
      refine xB.run oX9_clearOthers 5 (s := (80, [some (.ref 3085), some (.int (zI col)), some (.ref (1024 * 3 + (15 + w2.toNat))), some (.long (zJ lead)), none, some (.int (zI row)), some (.ref (1024 * 3 + (15 + w6.toNat))), some (.long (zJ times)), none, some (.int (zI k))], [.int (zI k), .ref (1024 * 3 + (15 + w6.toNat)), .long (zJ lead), .int (zI k), .ref (1024 * 3 + (15 + w6.toNat))], [r0, r1, r2, zH s3 zL3 0, r4, r5, r6, r7, r8, r9])) rfl ?_
      obtain ⟨g8, H⟩ := zgd H
      refine zB.lald oX9_clearOthers (g := 3) (p := 15 + w6.toNat) (N := 22) (i := k) rfl rfl (by omega) rfl (zg_3_15 _ (by omega)) (by decide) g8.2 ?_
      refine zB.opl oX9_clearOthers rfl (zj_mul lead (s3 (15 + w6.toNat) k.toNat)) ?_
      refine xB.run oX9_clearOthers 3 (s := (87, [some (.ref 3085), some (.int (zI col)), some (.ref (1024 * 3 + (15 + w2.toNat))), some (.long (zJ lead)), none, some (.int (zI row)), some (.ref (1024 * 3 + (15 + w6.toNat))), some (.long (zJ times)), none, some (.int (zI k))], [.int (zI k), .ref (1024 * 3 + (15 + w2.toNat)), .long (zJ times), .long (zJ (lead * (s3 (15 + w6.toNat) k.toNat))), .int (zI k), .ref (1024 * 3 + (15 + w6.toNat))], [r0, r1, r2, zH s3 zL3 0, r4, r5, r6, r7, r8, r9])) rfl ?_
      obtain ⟨g7, H⟩ := zgd H
      refine zB.lald oX9_clearOthers (g := 3) (p := 15 + w2.toNat) (N := 22) (i := k) rfl rfl (by omega) rfl (zg_3_15 _ (by omega)) (by decide) g7.2 ?_
      refine zB.opl oX9_clearOthers rfl (zj_mul times (s3 (15 + w2.toNat) k.toNat)) ?_
      refine zB.opl oX9_clearOthers rfl (zj_sub (lead * (s3 (15 + w6.toNat) k.toNat)) (times * (s3 (15 + w2.toNat) k.toNat))) ?_
      refine xB.run oX9_clearOthers 2 (s := (94, [some (.ref 3085), some (.int (zI col)), some (.ref (1024 * 3 + (15 + w2.toNat))), some (.long (zJ lead)), none, some (.int (zI row)), some (.ref (1024 * 3 + (15 + w6.toNat))), some (.long (zJ times)), none, some (.int (zI k))], [.long (zJ (s3 13 7)), .long (zJ ((lead * (s3 (15 + w6.toNat) k.toNat)) - (times * (s3 (15 + w2.toNat) k.toNat)))), .int (zI k), .ref (1024 * 3 + (15 + w6.toNat))], [r0, r1, r2, zH s3 zL3 0, r4, r5, r6, r7, r8, r9])) rfl ?_
      obtain ⟨g6, H⟩ := zgd H
      refine zB.divl oX9_clearOthers (b := s3 13 7) rfl (zj_div ⟨g6.1, g6.2.2⟩) rfl g6.2 ?_
      obtain ⟨g5, H⟩ := zgd H
      refine zB.last oX9_clearOthers (g := 3) (p := 15 + w6.toNat) (N := 22) (i := k) (hp1 := [r0, r1, r2, zH (upz s3 (15 + w6.toNat) k.toNat (((lead * (s3 (15 + w6.toNat) k.toNat)) - (times * (s3 (15 + w2.toNat) k.toNat))).tdiv (s3 13 7))) zL3 0, r4, r5, r6, r7, r8, r9]) rfl rfl (by omega) (by decide) rfl (zg_3_15 _ (by omega)) (by decide) g5.2 rfl ?_
      refine zB.inc oX9_clearOthers rfl (lv2 := [some (.ref 3085), some (.int (zI col)), some (.ref (1024 * 3 + (15 + w2.toNat))), some (.long (zJ lead)), none, some (.int (zI row)), some (.ref (1024 * 3 + (15 + w6.toNat))), some (.long (zJ times)), none, some (.int (zI (k + 1)))]) (zi_inc (a := 0) (zi_addp1 k) _ rfl) ?_
      refine xB.run oX9_clearOthers 1 (s := (62, [some (.ref 3085), some (.int (zI col)), some (.ref (1024 * 3 + (15 + w2.toNat))), some (.long (zJ lead)), none, some (.int (zI row)), some (.ref (1024 * 3 + (15 + w6.toNat))), some (.long (zJ times)), none, some (.int (zI (k + 1)))], [], [r0, r1, r2, zH (upz s3 (15 + w6.toNat) k.toNat (((lead * (s3 (15 + w6.toNat) k.toNat)) - (times * (s3 (15 + w2.toNat) k.toNat))).tdiv (s3 13 7))) zL3 0, r4, r5, r6, r7, r8, r9])) rfl ?_
      exact ih (k + 1) (upz s3 (15 + w6.toNat) k.toNat (((lead * (s3 (15 + w6.toNat) k.toNat)) - (times * (s3 (15 + w2.toNat) k.toNat))).tdiv (s3 13 7))) H K
set_option maxRecDepth 20000 in
theorem l_X9f_clearOthers_17 (r0 : List va_E) (r1 : List va_E) (r2 : List va_E) (r4 : List va_E) (r5 : List va_E) (r6 : List va_E) (r7 : List va_E) (r8 : List va_E) (r9 : List va_E) (col : Int) (w2 : Int) (lead : Int) {r : Option Value} {hp1 : xH} : ∀ (uN : Nat) (row : Int) (s3 : zZ) {uX : Int × zZ}, d_X9f_clearOthers_17 col w2 lead uN row s3 = some uX → (xBody MX9_clearOthers 0 108 [some (.ref 3085), some (.int (zI col)), some (.ref (1024 * 3 + (15 + w2.toNat))), some (.long (zJ lead)), none, some (.int (zI uX.1)), none, none, none, none] [] ([r0, r1, r2, zH uX.2 zL3 0, r4, r5, r6, r7, r8, r9]) r hp1) → xBody MX9_clearOthers 0 17 [some (.ref 3085), some (.int (zI col)), some (.ref (1024 * 3 + (15 + w2.toNat))), some (.long (zJ lead)), none, some (.int (zI row)), none, none, none, none] [] ([r0, r1, r2, zH s3 zL3 0, r4, r5, r6, r7, r8, r9]) r hp1 := by
  intro uN
  induction uN with
  | zero => intro row s3 uX H K; cases H
  | succ uN ih =>
    intro row s3 uX H K
    unfold d_X9f_clearOthers_17 at H
    refine xB.run oX9_clearOthers 3 (s := (23, [some (.ref 3085), some (.int (zI col)), some (.ref (1024 * 3 + (15 + w2.toNat))), some (.long (zJ lead)), none, some (.int (zI row)), none, none, none, none], [.int (zI (s3 13 4)), .int (zI row)], [r0, r1, r2, zH s3 zL3 0, r4, r5, r6, r7, r8, r9])) rfl ?_
    obtain ⟨g16, H⟩ := zgd H
    have H := zif H
    refine xB.brE oX9_clearOthers (P := (s3 13 4) ≤ row) rfl (zc_ge (a := row) (b := s3 13 4) g16) (fun h1 => ?_) (fun h1 => ?_)
    · have H := H.1 h1
      obtain rfl := Option.some.inj H
      exact K
    · have H := H.2 h1
      refine xB.run oX9_clearOthers 3 (s := (32, [some (.ref 3085), some (.int (zI col)), some (.ref (1024 * 3 + (15 + w2.toNat))), some (.long (zJ lead)), none, some (.int (zI row)), none, none, none, none], [.int (zI (s3 13 6)), .int (zI row)], [r0, r1, r2, zH s3 zL3 0, r4, r5, r6, r7, r8, r9])) rfl ?_
      obtain ⟨g15, H⟩ := zgd H
      have H := zif H
      refine xB.brE oX9_clearOthers (P := row = (s3 13 6)) rfl (zc_eq (a := row) (b := s3 13 6) g15) (fun h2 => ?_) (fun h2 => ?_)
      · have H := H.1 h2
        refine zB.inc oX9_clearOthers rfl (lv2 := [some (.ref 3085), some (.int (zI col)), some (.ref (1024 * 3 + (15 + w2.toNat))), some (.long (zJ lead)), none, some (.int (zI (row + 1))), none, none, none, none]) (zi_inc (a := 0) (zi_addp1 row) _ rfl) ?_
        refine xB.run oX9_clearOthers 1 (s := (17, [some (.ref 3085), some (.int (zI col)), some (.ref (1024 * 3 + (15 + w2.toNat))), some (.long (zJ lead)), none, some (.int (zI (row + 1))), none, none, none, none], [], [r0, r1, r2, zH s3 zL3 0, r4, r5, r6, r7, r8, r9])) rfl ?_
        exact ih (row + 1) s3 H K
      · have H := H.2 h2
        refine xB.run oX9_clearOthers 4 (s := (41, [some (.ref 3085), some (.int (zI col)), some (.ref (1024 * 3 + (15 + w2.toNat))), some (.long (zJ lead)), none, some (.int (zI row)), none, none, none, none], [.int (lg_cmp (zJ (s3 13 7)) (zJ 0))], [r0, r1, r2, zH s3 zL3 0, r4, r5, r6, r7, r8, r9])) rfl ?_
        obtain ⟨g14, H⟩ := zgd H
        have H := zif H
        refine xB.brE oX9_clearOthers (P := (s3 13 7) = 0) rfl (zl_eq (a := s3 13 7) (b := 0) ⟨g14, by decide⟩) (fun h3 => ?_) (fun h3 => ?_)
        · have H := H.1 h3
          refine zB.inc oX9_clearOthers rfl (lv2 := [some (.ref 3085), some (.int (zI col)), some (.ref (1024 * 3 + (15 + w2.toNat))), some (.long (zJ lead)), none, some (.int (zI (row + 1))), none, none, none, none]) (zi_inc (a := 0) (zi_addp1 row) _ rfl) ?_
          refine xB.run oX9_clearOthers 1 (s := (17, [some (.ref 3085), some (.int (zI col)), some (.ref (1024 * 3 + (15 + w2.toNat))), some (.long (zJ lead)), none, some (.int (zI (row + 1))), none, none, none, none], [], [r0, r1, r2, zH s3 zL3 0, r4, r5, r6, r7, r8, r9])) rfl ?_
          exact ih (row + 1) s3 H K
        · have H := H.2 h3
          refine xB.run oX9_clearOthers 3 (s := (50, [some (.ref 3085), some (.int (zI col)), some (.ref (1024 * 3 + (15 + w2.toNat))), some (.long (zJ lead)), none, some (.int (zI row)), none, none, none, none], [.int (zI row), .ref 3086], [r0, r1, r2, zH s3 zL3 0, r4, r5, r6, r7, r8, r9])) rfl ?_
          obtain ⟨g13, H⟩ := zgd H
          refine zB.aaldP oX9_clearOthers (g := 3) (p := 14) (N := 8) (g2 := 3) (p2 := 15) rfl rfl (by decide) rfl rfl (by decide) g13.1 ?_
          refine xB.run oX9_clearOthers 3 (s := (56, [some (.ref 3085), some (.int (zI col)), some (.ref (1024 * 3 + (15 + w2.toNat))), some (.long (zJ lead)), none, some (.int (zI row)), some (.ref (1024 * 3 + (15 + ((s3 14 row.toNat).toNat)))), none, none, none], [.int (zI col), .ref (1024 * 3 + (15 + ((s3 14 row.toNat).toNat)))], [r0, r1, r2, zH s3 zL3 0, r4, r5, r6, r7, r8, r9])) rfl ?_
          obtain ⟨g12, H⟩ := zgd H
          refine zB.lald oX9_clearOthers (g := 3) (p := 15 + (s3 14 row.toNat).toNat) (N := 22) (i := col) rfl rfl (by omega) rfl (zg_3_15 _ (by omega)) (by decide) g12.2 ?_
          refine xB.run oX9_clearOthers 3 (s := (62, [some (.ref 3085), some (.int (zI col)), some (.ref (1024 * 3 + (15 + w2.toNat))), some (.long (zJ lead)), none, some (.int (zI row)), some (.ref (1024 * 3 + (15 + ((s3 14 row.toNat).toNat)))), some (.long (zJ (s3 (15 + (s3 14 row.toNat).toNat) col.toNat))), none, some (.int (zI 0))], [], [r0, r1, r2, zH s3 zL3 0, r4, r5, r6, r7, r8, r9])) rfl ?_
          obtain ⟨y10, e11, H⟩ := zbd H
          refine l_X9f_clearOthers_62 r0 r1 r2 r4 r5 r6 r7 r8 r9 col w2 lead row (s3 14 row.toNat) (s3 (15 + (s3 14 row.toNat).toNat) col.toNat) _ 0 s3 e11 ?_
          refine zB.inc oX9_clearOthers rfl (lv2 := [some (.ref 3085), some (.int (zI col)), some (.ref (1024 * 3 + (15 + w2.toNat))), some (.long (zJ lead)), none, some (.int (zI (row + 1))), some (.ref (1024 * 3 + (15 + ((s3 14 row.toNat).toNat)))), some (.long (zJ (s3 (15 + (s3 14 row.toNat).toNat) col.toNat))), none, some (.int (zI y10.1))]) (zi_inc (a := 0) (zi_addp1 row) _ rfl) ?_
          refine xB.run oX9_clearOthers 1 (s := (17, [some (.ref 3085), some (.int (zI col)), some (.ref (1024 * 3 + (15 + w2.toNat))), some (.long (zJ lead)), none, some (.int (zI (row + 1))), some (.ref (1024 * 3 + (15 + ((s3 14 row.toNat).toNat)))), some (.long (zJ (s3 (15 + (s3 14 row.toNat).toNat) col.toNat))), none, some (.int (zI y10.1))], [], [r0, r1, r2, zH y10.2 zL3 0, r4, r5, r6, r7, r8, r9])) rfl ?_
          refine xB.forget (lv1 := [some (.ref 3085), some (.int (zI col)), some (.ref (1024 * 3 + (15 + w2.toNat))), some (.long (zJ lead)), none, some (.int (zI (row + 1))), none, none, none, none]) (xle_same (xle_same (xle_same (xle_same (xle_same (xle_same (xle_none (xle_none (xle_same (xle_none (xle_nil))))))))))) ?_
          exact ih (row + 1) y10.2 H K
set_option maxRecDepth 20000 in
theorem t_X9f_clearOthers (r0 : List va_E) (r1 : List va_E) (r2 : List va_E) (s3 : zZ) (r4 : List va_E) (r5 : List va_E) (r6 : List va_E) (r7 : List va_E) (r8 : List va_E) (r9 : List va_E) (col : Int) {rr : zZ} (H : d_X9f_clearOthers s3 col = some rr) : xC MX9_clearOthers 0 [.ref 3085, .int (zI col)] ([r0, r1, r2, zH s3 zL3 0, r4, r5, r6, r7, r8, r9]) (none) ([r0, r1, r2, zH rr zL3 0, r4, r5, r6, r7, r8, r9]) := by
  refine ⟨Nat.le_of_ble_eq_true rfl, ?_⟩
  show xBody MX9_clearOthers 0 0 [some (.ref 3085), some (.int (zI col)), none, none, none, none, none, none, none, none] [] ([r0, r1, r2, zH s3 zL3 0, r4, r5, r6, r7, r8, r9]) _ _
  unfold d_X9f_clearOthers at H
  refine xB.run oX9_clearOthers 4 (s := (8, [some (.ref 3085), some (.int (zI col)), none, none, none, none, none, none, none, none], [.int (zI (s3 13 6)), .ref 3086], [r0, r1, r2, zH s3 zL3 0, r4, r5, r6, r7, r8, r9])) rfl ?_
  obtain ⟨g20, H⟩ := zgd H
  refine zB.aaldP oX9_clearOthers (g := 3) (p := 14) (N := 8) (g2 := 3) (p2 := 15) rfl rfl (by decide) rfl rfl (by decide) g20.1 ?_
  refine xB.run oX9_clearOthers 3 (s := (12, [some (.ref 3085), some (.int (zI col)), some (.ref (1024 * 3 + (15 + ((s3 14 (s3 13 6).toNat).toNat)))), none, none, none, none, none, none, none], [.int (zI col), .ref (1024 * 3 + (15 + ((s3 14 (s3 13 6).toNat).toNat)))], [r0, r1, r2, zH s3 zL3 0, r4, r5, r6, r7, r8, r9])) rfl ?_
  obtain ⟨g19, H⟩ := zgd H
  refine zB.lald oX9_clearOthers (g := 3) (p := 15 + (s3 14 (s3 13 6).toNat).toNat) (N := 22) (i := col) rfl rfl (by omega) rfl (zg_3_15 _ (by omega)) (by decide) g19.2 ?_
  refine xB.run oX9_clearOthers 3 (s := (17, [some (.ref 3085), some (.int (zI col)), some (.ref (1024 * 3 + (15 + ((s3 14 (s3 13 6).toNat).toNat)))), some (.long (zJ (s3 (15 + (s3 14 (s3 13 6).toNat).toNat) col.toNat))), none, some (.int (zI 0)), none, none, none, none], [], [r0, r1, r2, zH s3 zL3 0, r4, r5, r6, r7, r8, r9])) rfl ?_
  obtain ⟨y17, e18, H⟩ := zbd H
  refine l_X9f_clearOthers_17 r0 r1 r2 r4 r5 r6 r7 r8 r9 col (s3 14 (s3 13 6).toNat) (s3 (15 + (s3 14 (s3 13 6).toNat).toNat) col.toNat) _ 0 s3 e18 ?_
  obtain rfl := Option.some.inj H
  exact xB.ret oX9_clearOthers (r1 := none) rfl rfl rfl
def d_X9f_clearColumns_2 (lead : Int) : Nat → Int → zZ → Option (Int × zZ)
  | 0, _, _ => none
  | uN + 1, col, s3 => if (zr col ∧ zr lead) then (if lead ≤ col then some (col, s3) else (if (zr col ∧ zr (s3 13 5)) then (if (s3 13 5) ≤ col then some (col, s3) else (if (zr (s3 13 6) ∧ zr (s3 13 4)) then (if (s3 13 4) ≤ (s3 13 6) then some (col, s3) else ((d_X9f_rowToLead s3 col).bind fun y4 => if (zr y4) then (if y4 < 0 then (d_X9f_clearColumns_2 lead uN (col + 1) s3) else (if ((0 ≤ y4 ∧ y4 < 8) ∧ 0 ≤ s3 14 y4.toNat ∧ s3 14 y4.toNat < 8) then (if ((0 ≤ (s3 13 6) ∧ (s3 13 6) < 8) ∧ 0 ≤ s3 14 (s3 13 6).toNat ∧ s3 14 (s3 13 6).toNat < 8) then (if (((s3 14 (s3 13 6).toNat).toNat < 8) ∧ 0 ≤ y4 ∧ y4 < 8) then (if (((s3 14 y4.toNat).toNat < 8) ∧ 0 ≤ ((upz s3 14 y4.toNat (((s3 14 (s3 13 6).toNat).toNat : Nat) : Int)) 13 6) ∧ ((upz s3 14 y4.toNat (((s3 14 (s3 13 6).toNat).toNat : Nat) : Int)) 13 6) < 8) then ((d_X9f_clearOthers (upz (upz s3 14 y4.toNat (((s3 14 (s3 13 6).toNat).toNat : Nat) : Int)) 14 ((upz s3 14 y4.toNat (((s3 14 (s3 13 6).toNat).toNat : Nat) : Int)) 13 6).toNat (((s3 14 y4.toNat).toNat : Nat) : Int)) col).bind fun y7 => if (((s3 14 y4.toNat).toNat < 8) ∧ (0 ≤ col ∧ col < 22)) then (if (0 ≤ col ∧ col < 22) then (d_X9f_clearColumns_2 lead uN (col + 1) (upz (upz (upz y7 13 7 (y7 (15 + (s3 14 y4.toNat).toNat) col.toNat)) 23 col.toNat ((upz y7 13 7 (y7 (15 + (s3 14 y4.toNat).toNat) col.toNat)) 13 6)) 13 6 (((upz (upz y7 13 7 (y7 (15 + (s3 14 y4.toNat).toNat) col.toNat)) 23 col.toNat ((upz y7 13 7 (y7 (15 + (s3 14 y4.toNat).toNat) col.toNat)) 13 6)) 13 6) + 1))) else none) else none) else none) else none) else none) else none)) else none)) else none)) else none)) else none
def d_X9f_clearColumns (s3 : zZ) (lead : Int) : Option (zZ) := (d_X9f_clearColumns_2 lead zF 0 s3).bind fun y19 => some y19.2
set_option maxRecDepth 20000 in
theorem l_X9f_clearColumns_2 (r0 : List va_E) (r1 : List va_E) (r2 : List va_E) (r4 : List va_E) (r5 : List va_E) (r6 : List va_E) (r7 : List va_E) (r8 : List va_E) (r9 : List va_E) (lead : Int) {r : Option Value} {hp1 : xH} : ∀ (uN : Nat) (col : Int) (s3 : zZ) {uX : Int × zZ}, d_X9f_clearColumns_2 lead uN col s3 = some uX → (xBody MX9_clearColumns 1 109 [some (.ref 3085), some (.int (zI lead)), some (.int (zI uX.1)), none, none] [] ([r0, r1, r2, zH uX.2 zL3 0, r4, r5, r6, r7, r8, r9]) r hp1) → xBody MX9_clearColumns 1 2 [some (.ref 3085), some (.int (zI lead)), some (.int (zI col)), none, none] [] ([r0, r1, r2, zH s3 zL3 0, r4, r5, r6, r7, r8, r9]) r hp1 := by
  intro uN
  induction uN with
  | zero => intro col s3 uX H K; cases H
  | succ uN ih =>
    intro col s3 uX H K
    unfold d_X9f_clearColumns_2 at H
    refine xB.run oX9_clearColumns 2 (s := (4, [some (.ref 3085), some (.int (zI lead)), some (.int (zI col)), none, none], [.int (zI lead), .int (zI col)], [r0, r1, r2, zH s3 zL3 0, r4, r5, r6, r7, r8, r9])) rfl ?_
    obtain ⟨g18, H⟩ := zgd H
    have H := zif H
    refine xB.brE oX9_clearColumns (P := lead ≤ col) rfl (zc_ge (a := col) (b := lead) g18) (fun h1 => ?_) (fun h1 => ?_)
    · have H := H.1 h1
      obtain rfl := Option.some.inj H
      exact K
    · have H := H.2 h1
      refine xB.run oX9_clearColumns 3 (s := (12, [some (.ref 3085), some (.int (zI lead)), some (.int (zI col)), none, none], [.int (zI (s3 13 5)), .int (zI col)], [r0, r1, r2, zH s3 zL3 0, r4, r5, r6, r7, r8, r9])) rfl ?_
      obtain ⟨g17, H⟩ := zgd H
      have H := zif H
      refine xB.brE oX9_clearColumns (P := (s3 13 5) ≤ col) rfl (zc_ge (a := col) (b := s3 13 5) g17) (fun h2 => ?_) (fun h2 => ?_)
      · have H := H.1 h2
        obtain rfl := Option.some.inj H
        exact K
      · have H := H.2 h2
        refine xB.run oX9_clearColumns 4 (s := (23, [some (.ref 3085), some (.int (zI lead)), some (.int (zI col)), none, none], [.int (zI (s3 13 4)), .int (zI (s3 13 6))], [r0, r1, r2, zH s3 zL3 0, r4, r5, r6, r7, r8, r9])) rfl ?_
        obtain ⟨g16, H⟩ := zgd H
        have H := zif H
        refine xB.brE oX9_clearColumns (P := (s3 13 4) ≤ (s3 13 6)) rfl (zc_ge (a := s3 13 6) (b := s3 13 4) g16) (fun h3 => ?_) (fun h3 => ?_)
        · have H := H.1 h3
          obtain rfl := Option.some.inj H
          exact K
        · have H := H.2 h3
          refine xB.run oX9_clearColumns 2 (s := (28, [some (.ref 3085), some (.int (zI lead)), some (.int (zI col)), none, none], [.int (zI col), .ref 3085], [r0, r1, r2, zH s3 zL3 0, r4, r5, r6, r7, r8, r9])) rfl ?_
          obtain ⟨y4, e5, H⟩ := zbd H
          refine xB.call oX9_clearColumns (M2 := MX9_rowToLead) rfl rfl ((t_X9f_rowToLead r0 r1 r2 s3 r4 r5 r6 r7 r8 r9 col e5).deep (by decide : 0 ≤ 0)) ?_
          show xBody MX9_clearColumns 1 31 [some (.ref 3085), some (.int (zI lead)), some (.int (zI col)), none, none] [.int (zI y4)] ([r0, r1, r2, zH s3 zL3 0, r4, r5, r6, r7, r8, r9]) _ _
          refine xB.run oX9_clearColumns 2 (s := (33, [some (.ref 3085), some (.int (zI lead)), some (.int (zI col)), some (.int (zI y4)), none], [.int (zI y4)], [r0, r1, r2, zH s3 zL3 0, r4, r5, r6, r7, r8, r9])) rfl ?_
          obtain ⟨g15, H⟩ := zgd H
          have H := zif H
          refine xB.brE oX9_clearColumns (P := y4 < 0) rfl (zc_lt (a := y4) (b := 0) ⟨g15, by decide⟩) (fun h6 => ?_) (fun h6 => ?_)
          · have H := H.1 h6
            refine zB.inc oX9_clearColumns rfl (lv2 := [some (.ref 3085), some (.int (zI lead)), some (.int (zI (col + 1))), some (.int (zI y4)), none]) (zi_inc (a := 0) (zi_addp1 col) _ rfl) ?_
            refine xB.run oX9_clearColumns 1 (s := (2, [some (.ref 3085), some (.int (zI lead)), some (.int (zI (col + 1))), some (.int (zI y4)), none], [], [r0, r1, r2, zH s3 zL3 0, r4, r5, r6, r7, r8, r9])) rfl ?_
            refine xB.forget (lv1 := [some (.ref 3085), some (.int (zI lead)), some (.int (zI (col + 1))), none, none]) (xle_same (xle_same (xle_same (xle_none (xle_same (xle_nil)))))) ?_
            exact ih (col + 1) s3 H K
          · have H := H.2 h6
            refine xB.run oX9_clearColumns 3 (s := (41, [some (.ref 3085), some (.int (zI lead)), some (.int (zI col)), some (.int (zI y4)), none], [.int (zI y4), .ref 3086], [r0, r1, r2, zH s3 zL3 0, r4, r5, r6, r7, r8, r9])) rfl ?_
            obtain ⟨g14, H⟩ := zgd H
            refine zB.aaldP oX9_clearColumns (g := 3) (p := 14) (N := 8) (g2 := 3) (p2 := 15) rfl rfl (by decide) rfl rfl (by decide) g14.1 ?_
            refine xB.run oX9_clearColumns 8 (s := (57, [some (.ref 3085), some (.int (zI lead)), some (.int (zI col)), some (.int (zI y4)), some (.ref (1024 * 3 + (15 + ((s3 14 y4.toNat).toNat))))], [.int (zI (s3 13 6)), .ref 3086, .int (zI y4), .ref 3086], [r0, r1, r2, zH s3 zL3 0, r4, r5, r6, r7, r8, r9])) rfl ?_
            obtain ⟨g13, H⟩ := zgd H
            refine zB.aaldP oX9_clearColumns (g := 3) (p := 14) (N := 8) (g2 := 3) (p2 := 15) rfl rfl (by decide) rfl rfl (by decide) g13.1 ?_
            obtain ⟨g12, H⟩ := zgd H
            refine zB.aastP oX9_clearColumns (g := 3) (p := 14) (N := 8) (g2 := 3) (p2 := 15) (i := y4) (q := (s3 14 (s3 13 6).toNat).toNat) (hp1 := [r0, r1, r2, zH (upz s3 14 y4.toNat (((s3 14 (s3 13 6).toNat).toNat : Nat) : Int)) zL3 0, r4, r5, r6, r7, r8, r9]) rfl rfl (by decide) (by decide) rfl rfl (by decide) g12.2 (by omega) rfl (zg_3_15 _ g12.1) rfl ?_
            refine xB.run oX9_clearColumns 5 (s := (69, [some (.ref 3085), some (.int (zI lead)), some (.int (zI col)), some (.int (zI y4)), some (.ref (1024 * 3 + (15 + ((s3 14 y4.toNat).toNat))))], [.ref (1024 * 3 + (15 + ((s3 14 y4.toNat).toNat))), .int (zI ((upz s3 14 y4.toNat (((s3 14 (s3 13 6).toNat).toNat : Nat) : Int)) 13 6)), .ref 3086], [r0, r1, r2, zH (upz s3 14 y4.toNat (((s3 14 (s3 13 6).toNat).toNat : Nat) : Int)) zL3 0, r4, r5, r6, r7, r8, r9])) rfl ?_
            obtain ⟨g11, H⟩ := zgd H
            refine zB.aastP oX9_clearColumns (g := 3) (p := 14) (N := 8) (g2 := 3) (p2 := 15) (i := (upz s3 14 y4.toNat (((s3 14 (s3 13 6).toNat).toNat : Nat) : Int)) 13 6) (q := (s3 14 y4.toNat).toNat) (hp1 := [r0, r1, r2, zH (upz (upz s3 14 y4.toNat (((s3 14 (s3 13 6).toNat).toNat : Nat) : Int)) 14 ((upz s3 14 y4.toNat (((s3 14 (s3 13 6).toNat).toNat : Nat) : Int)) 13 6).toNat (((s3 14 y4.toNat).toNat : Nat) : Int)) zL3 0, r4, r5, r6, r7, r8, r9]) rfl rfl (by decide) (by decide) rfl rfl (by decide) g11.2 (by omega) rfl (zg_3_15 _ g11.1) rfl ?_
            refine xB.run oX9_clearColumns 2 (s := (72, [some (.ref 3085), some (.int (zI lead)), some (.int (zI col)), some (.int (zI y4)), some (.ref (1024 * 3 + (15 + ((s3 14 y4.toNat).toNat))))], [.int (zI col), .ref 3085], [r0, r1, r2, zH (upz (upz s3 14 y4.toNat (((s3 14 (s3 13 6).toNat).toNat : Nat) : Int)) 14 ((upz s3 14 y4.toNat (((s3 14 (s3 13 6).toNat).toNat : Nat) : Int)) 13 6).toNat (((s3 14 y4.toNat).toNat : Nat) : Int)) zL3 0, r4, r5, r6, r7, r8, r9])) rfl ?_
            obtain ⟨y7, e8, H⟩ := zbd H
            refine xB.call oX9_clearColumns (M2 := MX9_clearOthers) rfl rfl ((t_X9f_clearOthers r0 r1 r2 (upz (upz s3 14 y4.toNat (((s3 14 (s3 13 6).toNat).toNat : Nat) : Int)) 14 ((upz s3 14 y4.toNat (((s3 14 (s3 13 6).toNat).toNat : Nat) : Int)) 13 6).toNat (((s3 14 y4.toNat).toNat : Nat) : Int)) r4 r5 r6 r7 r8 r9 col e8).deep (by decide : 0 ≤ 0)) ?_
            show xBody MX9_clearColumns 1 75 [some (.ref 3085), some (.int (zI lead)), some (.int (zI col)), some (.int (zI y4)), some (.ref (1024 * 3 + (15 + ((s3 14 y4.toNat).toNat))))] [] ([r0, r1, r2, zH y7 zL3 0, r4, r5, r6, r7, r8, r9]) _ _
            refine xB.run oX9_clearColumns 3 (s := (79, [some (.ref 3085), some (.int (zI lead)), some (.int (zI col)), some (.int (zI y4)), some (.ref (1024 * 3 + (15 + ((s3 14 y4.toNat).toNat))))], [.int (zI col), .ref (1024 * 3 + (15 + ((s3 14 y4.toNat).toNat))), .ref 3085], [r0, r1, r2, zH y7 zL3 0, r4, r5, r6, r7, r8, r9])) rfl ?_
            obtain ⟨g10, H⟩ := zgd H
            refine zB.lald oX9_clearColumns (g := 3) (p := 15 + (s3 14 y4.toNat).toNat) (N := 22) (i := col) rfl rfl (by omega) rfl (zg_3_15 _ (by omega)) (by decide) g10.2 ?_
            refine zB.putL oX9_clearColumns (g := 3) (p := 13) (c := 9) (k := 7) (y := 0) (hp1 := [r0, r1, r2, zH (upz y7 13 7 (y7 (15 + (s3 14 y4.toNat).toNat) col.toNat)) zL3 0, r4, r5, r6, r7, r8, r9]) rfl rfl (by decide) (by decide) rfl rfl rfl rfl rfl rfl ?_
            refine xB.run oX9_clearColumns 5 (s := (92, [some (.ref 3085), some (.int (zI lead)), some (.int (zI col)), some (.int (zI y4)), some (.ref (1024 * 3 + (15 + ((s3 14 y4.toNat).toNat))))], [.int (zI ((upz y7 13 7 (y7 (15 + (s3 14 y4.toNat).toNat) col.toNat)) 13 6)), .int (zI col), .ref 3095], [r0, r1, r2, zH (upz y7 13 7 (y7 (15 + (s3 14 y4.toNat).toNat) col.toNat)) zL3 0, r4, r5, r6, r7, r8, r9])) rfl ?_
            obtain ⟨g9, H⟩ := zgd H
            refine zB.iast oX9_clearColumns (g := 3) (p := 23) (N := 22) (i := col) (hp1 := [r0, r1, r2, zH (upz (upz y7 13 7 (y7 (15 + (s3 14 y4.toNat).toNat) col.toNat)) 23 col.toNat ((upz y7 13 7 (y7 (15 + (s3 14 y4.toNat).toNat) col.toNat)) 13 6)) zL3 0, r4, r5, r6, r7, r8, r9]) rfl rfl (by decide) (by decide) rfl rfl (by decide) g9 rfl ?_
            refine xB.run oX9_clearColumns 4 (s := (99, [some (.ref 3085), some (.int (zI lead)), some (.int (zI col)), some (.int (zI y4)), some (.ref (1024 * 3 + (15 + ((s3 14 y4.toNat).toNat))))], [.int (zI 1), .int (zI ((upz (upz y7 13 7 (y7 (15 + (s3 14 y4.toNat).toNat) col.toNat)) 23 col.toNat ((upz y7 13 7 (y7 (15 + (s3 14 y4.toNat).toNat) col.toNat)) 13 6)) 13 6)), .ref 3085], [r0, r1, r2, zH (upz (upz y7 13 7 (y7 (15 + (s3 14 y4.toNat).toNat) col.toNat)) 23 col.toNat ((upz y7 13 7 (y7 (15 + (s3 14 y4.toNat).toNat) col.toNat)) 13 6)) zL3 0, r4, r5, r6, r7, r8, r9])) rfl ?_
            refine zB.opi oX9_clearColumns rfl (zi_add ((upz (upz y7 13 7 (y7 (15 + (s3 14 y4.toNat).toNat) col.toNat)) 23 col.toNat ((upz y7 13 7 (y7 (15 + (s3 14 y4.toNat).toNat) col.toNat)) 13 6)) 13 6) 1) ?_
            refine zB.putI oX9_clearColumns (g := 3) (p := 13) (c := 9) (k := 6) (y := 0) (hp1 := [r0, r1, r2, zH (upz (upz (upz y7 13 7 (y7 (15 + (s3 14 y4.toNat).toNat) col.toNat)) 23 col.toNat ((upz y7 13 7 (y7 (15 + (s3 14 y4.toNat).toNat) col.toNat)) 13 6)) 13 6 (((upz (upz y7 13 7 (y7 (15 + (s3 14 y4.toNat).toNat) col.toNat)) 23 col.toNat ((upz y7 13 7 (y7 (15 + (s3 14 y4.toNat).toNat) col.toNat)) 13 6)) 13 6) + 1)) zL3 0, r4, r5, r6, r7, r8, r9]) rfl rfl (by decide) (by decide) rfl rfl rfl rfl rfl rfl ?_
            refine zB.inc oX9_clearColumns rfl (lv2 := [some (.ref 3085), some (.int (zI lead)), some (.int (zI (col + 1))), some (.int (zI y4)), some (.ref (1024 * 3 + (15 + ((s3 14 y4.toNat).toNat))))]) (zi_inc (a := 0) (zi_addp1 col) _ rfl) ?_
            refine xB.run oX9_clearColumns 1 (s := (2, [some (.ref 3085), some (.int (zI lead)), some (.int (zI (col + 1))), some (.int (zI y4)), some (.ref (1024 * 3 + (15 + ((s3 14 y4.toNat).toNat))))], [], [r0, r1, r2, zH (upz (upz (upz y7 13 7 (y7 (15 + (s3 14 y4.toNat).toNat) col.toNat)) 23 col.toNat ((upz y7 13 7 (y7 (15 + (s3 14 y4.toNat).toNat) col.toNat)) 13 6)) 13 6 (((upz (upz y7 13 7 (y7 (15 + (s3 14 y4.toNat).toNat) col.toNat)) 23 col.toNat ((upz y7 13 7 (y7 (15 + (s3 14 y4.toNat).toNat) col.toNat)) 13 6)) 13 6) + 1)) zL3 0, r4, r5, r6, r7, r8, r9])) rfl ?_
            refine xB.forget (lv1 := [some (.ref 3085), some (.int (zI lead)), some (.int (zI (col + 1))), none, none]) (xle_same (xle_same (xle_same (xle_none (xle_none (xle_nil)))))) ?_
            exact ih (col + 1) (upz (upz (upz y7 13 7 (y7 (15 + (s3 14 y4.toNat).toNat) col.toNat)) 23 col.toNat ((upz y7 13 7 (y7 (15 + (s3 14 y4.toNat).toNat) col.toNat)) 13 6)) 13 6 (((upz (upz y7 13 7 (y7 (15 + (s3 14 y4.toNat).toNat) col.toNat)) 23 col.toNat ((upz y7 13 7 (y7 (15 + (s3 14 y4.toNat).toNat) col.toNat)) 13 6)) 13 6) + 1)) H K
set_option maxRecDepth 20000 in
theorem t_X9f_clearColumns (r0 : List va_E) (r1 : List va_E) (r2 : List va_E) (s3 : zZ) (r4 : List va_E) (r5 : List va_E) (r6 : List va_E) (r7 : List va_E) (r8 : List va_E) (r9 : List va_E) (lead : Int) {rr : zZ} (H : d_X9f_clearColumns s3 lead = some rr) : xC MX9_clearColumns 1 [.ref 3085, .int (zI lead)] ([r0, r1, r2, zH s3 zL3 0, r4, r5, r6, r7, r8, r9]) (none) ([r0, r1, r2, zH rr zL3 0, r4, r5, r6, r7, r8, r9]) := by
  refine ⟨Nat.le_of_ble_eq_true rfl, ?_⟩
  show xBody MX9_clearColumns 1 0 [some (.ref 3085), some (.int (zI lead)), none, none, none] [] ([r0, r1, r2, zH s3 zL3 0, r4, r5, r6, r7, r8, r9]) _ _
  unfold d_X9f_clearColumns at H
  refine xB.run oX9_clearColumns 2 (s := (2, [some (.ref 3085), some (.int (zI lead)), some (.int (zI 0)), none, none], [], [r0, r1, r2, zH s3 zL3 0, r4, r5, r6, r7, r8, r9])) rfl ?_
  obtain ⟨y19, e20, H⟩ := zbd H
  refine l_X9f_clearColumns_2 r0 r1 r2 r4 r5 r6 r7 r8 r9 lead _ 0 s3 e20 ?_
  obtain rfl := Option.some.inj H
  exact xB.ret oX9_clearColumns (r1 := none) rfl rfl rfl
def d_X9g_begin_44 (nr : Int) (nc : Int) : Nat → Int → zZ → Option (Int × zZ)
  | 0, _, _ => none
  | uN + 1, row, s3 => if (zr row ∧ zr (s3 24 0)) then (if (s3 24 0) ≤ row then some (row, s3) else (if ((0 ≤ row ∧ row < 16) ∧ 0 ≤ s3 25 row.toNat ∧ s3 25 row.toNat < 16) then (if ((s3 25 row.toNat).toNat < 16) then (d_X9g_begin_44 nr nc uN (row + 1) (zfl s3 (26 + (s3 25 row.toNat).toNat) 8 0)) else none) else none)) else none
def d_X9g_begin (s3 : zZ) (nr : Int) (nc : Int) : Option (zZ) := (d_J9_min_7cf53 nr (s3 24 0)).bind fun y1 => (d_J9_max_7cf53 0 y1).bind fun y3 => (d_J9_min_7cf53 nc ((upz s3 24 4 y3) 24 1)).bind fun y5 => (d_J9_max_7cf53 0 y5).bind fun y7 => (d_X9g_begin_44 nr nc zF 0 (upz (upz (upz (upz s3 24 4 y3) 24 5 y7) 24 6 0) 24 7 1)).bind fun y13 => some (zfl y13.2 42 8 (-1))
set_option maxRecDepth 20000 in
theorem l_X9g_begin_44 (r0 : List va_E) (r1 : List va_E) (r2 : List va_E) (r4 : List va_E) (r5 : List va_E) (r6 : List va_E) (r7 : List va_E) (r8 : List va_E) (r9 : List va_E) (nr : Int) (nc : Int) {r : Option Value} {hp1 : xH} : ∀ (uN : Nat) (row : Int) (s3 : zZ) {uX : Int × zZ}, d_X9g_begin_44 nr nc uN row s3 = some uX → (xBody MX9_begin 1 68 [some (.ref 3096), some (.int (zI nr)), some (.int (zI nc)), some (.int (zI uX.1))] [] ([r0, r1, r2, zH uX.2 zL3 0, r4, r5, r6, r7, r8, r9]) r hp1) → xBody MX9_begin 1 44 [some (.ref 3096), some (.int (zI nr)), some (.int (zI nc)), some (.int (zI row))] [] ([r0, r1, r2, zH s3 zL3 0, r4, r5, r6, r7, r8, r9]) r hp1 := by
  intro uN
  induction uN with
  | zero => intro row s3 uX H K; cases H
  | succ uN ih =>
    intro row s3 uX H K
    unfold d_X9g_begin_44 at H
    refine xB.run oX9_begin 3 (s := (49, [some (.ref 3096), some (.int (zI nr)), some (.int (zI nc)), some (.int (zI row))], [.int (zI (s3 24 0)), .int (zI row)], [r0, r1, r2, zH s3 zL3 0, r4, r5, r6, r7, r8, r9])) rfl ?_
    obtain ⟨g12, H⟩ := zgd H
    have H := zif H
    refine xB.brE oX9_begin (P := (s3 24 0) ≤ row) rfl (zc_ge (a := row) (b := s3 24 0) g12) (fun h9 => ?_) (fun h9 => ?_)
    · have H := H.1 h9
      obtain rfl := Option.some.inj H
      exact K
    · have H := H.2 h9
      refine xB.run oX9_begin 3 (s := (57, [some (.ref 3096), some (.int (zI nr)), some (.int (zI nc)), some (.int (zI row))], [.int (zI row), .ref 3097], [r0, r1, r2, zH s3 zL3 0, r4, r5, r6, r7, r8, r9])) rfl ?_
      obtain ⟨g11, H⟩ := zgd H
      refine zB.aaldP oX9_begin (g := 3) (p := 25) (N := 16) (g2 := 3) (p2 := 26) rfl rfl (by decide) rfl rfl (by decide) g11.1 ?_
      refine xB.run oX9_begin 1 (s := (59, [some (.ref 3096), some (.int (zI nr)), some (.int (zI nc)), some (.int (zI row))], [.long (zJ 0), .ref (1024 * 3 + (26 + ((s3 25 row.toNat).toNat)))], [r0, r1, r2, zH s3 zL3 0, r4, r5, r6, r7, r8, r9])) rfl ?_
      obtain ⟨g10, H⟩ := zgd H
      refine xB.call oX9_begin (M2 := MJ7_fill_d0a16) rfl rfl ((zfillL (hp := [r0, r1, r2, zH s3 zL3 0, r4, r5, r6, r7, r8, r9]) (g := 3) (p := 26 + (s3 25 row.toNat).toNat) (N := 8) (L := zL3) 0 rfl (by omega) (by decide) rfl (zg_3_26 _ (by omega)) (by decide)).deep (Nat.zero_le 0)) ?_
      show xBody MX9_begin 1 62 [some (.ref 3096), some (.int (zI nr)), some (.int (zI nc)), some (.int (zI row))] [] ([r0, r1, r2, zH (zfl s3 (26 + (s3 25 row.toNat).toNat) 8 0) zL3 0, r4, r5, r6, r7, r8, r9]) _ _
      refine zB.inc oX9_begin rfl (lv2 := [some (.ref 3096), some (.int (zI nr)), some (.int (zI nc)), some (.int (zI (row + 1)))]) (zi_inc (a := 0) (zi_addp1 row) _ rfl) ?_
      refine xB.run oX9_begin 1 (s := (44, [some (.ref 3096), some (.int (zI nr)), some (.int (zI nc)), some (.int (zI (row + 1)))], [], [r0, r1, r2, zH (zfl s3 (26 + (s3 25 row.toNat).toNat) 8 0) zL3 0, r4, r5, r6, r7, r8, r9])) rfl ?_
      exact ih (row + 1) (zfl s3 (26 + (s3 25 row.toNat).toNat) 8 0) H K
set_option maxRecDepth 20000 in
theorem t_X9g_begin (r0 : List va_E) (r1 : List va_E) (r2 : List va_E) (s3 : zZ) (r4 : List va_E) (r5 : List va_E) (r6 : List va_E) (r7 : List va_E) (r8 : List va_E) (r9 : List va_E) (nr : Int) (nc : Int) {rr : zZ} (H : d_X9g_begin s3 nr nc = some rr) : xC MX9_begin 1 [.ref 3096, .int (zI nr), .int (zI nc)] ([r0, r1, r2, zH s3 zL3 0, r4, r5, r6, r7, r8, r9]) (none) ([r0, r1, r2, zH rr zL3 0, r4, r5, r6, r7, r8, r9]) := by
  refine ⟨Nat.le_of_ble_eq_true rfl, ?_⟩
  show xBody MX9_begin 1 0 [some (.ref 3096), some (.int (zI nr)), some (.int (zI nc)), none] [] ([r0, r1, r2, zH s3 zL3 0, r4, r5, r6, r7, r8, r9]) _ _
  unfold d_X9g_begin at H
  refine xB.run oX9_begin 5 (s := (7, [some (.ref 3096), some (.int (zI nr)), some (.int (zI nc)), none], [.int (zI (s3 24 0)), .int (zI nr), .int (zI 0), .ref 3096], [r0, r1, r2, zH s3 zL3 0, r4, r5, r6, r7, r8, r9])) rfl ?_
  obtain ⟨y1, e2, H⟩ := zbd H
  refine xB.call oX9_begin (M2 := MJ9_min_7cf53) rfl rfl ((t_J9_min_7cf53 r0 r1 r2 (zH s3 zL3 0) r4 r5 r6 r7 r8 r9 nr (s3 24 0) e2).deep (by decide : 0 ≤ 0)) ?_
  show xBody MX9_begin 1 10 [some (.ref 3096), some (.int (zI nr)), some (.int (zI nc)), none] [.int (zI y1), .int (zI 0), .ref 3096] ([r0, r1, r2, zH s3 zL3 0, r4, r5, r6, r7, r8, r9]) _ _
  obtain ⟨y3, e4, H⟩ := zbd H
  refine xB.call oX9_begin (M2 := MJ9_max_7cf53) rfl rfl ((t_J9_max_7cf53 r0 r1 r2 (zH s3 zL3 0) r4 r5 r6 r7 r8 r9 0 y1 e4).deep (by decide : 0 ≤ 0)) ?_
  show xBody MX9_begin 1 13 [some (.ref 3096), some (.int (zI nr)), some (.int (zI nc)), none] [.int (zI y3), .ref 3096] ([r0, r1, r2, zH s3 zL3 0, r4, r5, r6, r7, r8, r9]) _ _
  refine zB.putI oX9_begin (g := 3) (p := 24) (c := 9) (k := 4) (y := 0) (hp1 := [r0, r1, r2, zH (upz s3 24 4 y3) zL3 0, r4, r5, r6, r7, r8, r9]) rfl rfl (by decide) (by decide) rfl rfl rfl rfl rfl rfl ?_
  refine xB.run oX9_begin 5 (s := (23, [some (.ref 3096), some (.int (zI nr)), some (.int (zI nc)), none], [.int (zI ((upz s3 24 4 y3) 24 1)), .int (zI nc), .int (zI 0), .ref 3096], [r0, r1, r2, zH (upz s3 24 4 y3) zL3 0, r4, r5, r6, r7, r8, r9])) rfl ?_
  obtain ⟨y5, e6, H⟩ := zbd H
  refine xB.call oX9_begin (M2 := MJ9_min_7cf53) rfl rfl ((t_J9_min_7cf53 r0 r1 r2 (zH (upz s3 24 4 y3) zL3 0) r4 r5 r6 r7 r8 r9 nc ((upz s3 24 4 y3) 24 1) e6).deep (by decide : 0 ≤ 0)) ?_
  show xBody MX9_begin 1 26 [some (.ref 3096), some (.int (zI nr)), some (.int (zI nc)), none] [.int (zI y5), .int (zI 0), .ref 3096] ([r0, r1, r2, zH (upz s3 24 4 y3) zL3 0, r4, r5, r6, r7, r8, r9]) _ _
  obtain ⟨y7, e8, H⟩ := zbd H
  refine xB.call oX9_begin (M2 := MJ9_max_7cf53) rfl rfl ((t_J9_max_7cf53 r0 r1 r2 (zH (upz s3 24 4 y3) zL3 0) r4 r5 r6 r7 r8 r9 0 y5 e8).deep (by decide : 0 ≤ 0)) ?_
  show xBody MX9_begin 1 29 [some (.ref 3096), some (.int (zI nr)), some (.int (zI nc)), none] [.int (zI y7), .ref 3096] ([r0, r1, r2, zH (upz s3 24 4 y3) zL3 0, r4, r5, r6, r7, r8, r9]) _ _
  refine zB.putI oX9_begin (g := 3) (p := 24) (c := 9) (k := 5) (y := 0) (hp1 := [r0, r1, r2, zH (upz (upz s3 24 4 y3) 24 5 y7) zL3 0, r4, r5, r6, r7, r8, r9]) rfl rfl (by decide) (by decide) rfl rfl rfl rfl rfl rfl ?_
  refine xB.run oX9_begin 2 (s := (34, [some (.ref 3096), some (.int (zI nr)), some (.int (zI nc)), none], [.int (zI 0), .ref 3096], [r0, r1, r2, zH (upz (upz s3 24 4 y3) 24 5 y7) zL3 0, r4, r5, r6, r7, r8, r9])) rfl ?_
  refine zB.putI oX9_begin (g := 3) (p := 24) (c := 9) (k := 6) (y := 0) (hp1 := [r0, r1, r2, zH (upz (upz (upz s3 24 4 y3) 24 5 y7) 24 6 0) zL3 0, r4, r5, r6, r7, r8, r9]) rfl rfl (by decide) (by decide) rfl rfl rfl rfl rfl rfl ?_
  refine xB.run oX9_begin 2 (s := (39, [some (.ref 3096), some (.int (zI nr)), some (.int (zI nc)), none], [.long (zJ 1), .ref 3096], [r0, r1, r2, zH (upz (upz (upz s3 24 4 y3) 24 5 y7) 24 6 0) zL3 0, r4, r5, r6, r7, r8, r9])) rfl ?_
  refine zB.putL oX9_begin (g := 3) (p := 24) (c := 9) (k := 7) (y := 0) (hp1 := [r0, r1, r2, zH (upz (upz (upz (upz s3 24 4 y3) 24 5 y7) 24 6 0) 24 7 1) zL3 0, r4, r5, r6, r7, r8, r9]) rfl rfl (by decide) (by decide) rfl rfl rfl rfl rfl rfl ?_
  refine xB.run oX9_begin 2 (s := (44, [some (.ref 3096), some (.int (zI nr)), some (.int (zI nc)), some (.int (zI 0))], [], [r0, r1, r2, zH (upz (upz (upz (upz s3 24 4 y3) 24 5 y7) 24 6 0) 24 7 1) zL3 0, r4, r5, r6, r7, r8, r9])) rfl ?_
  obtain ⟨y13, e14, H⟩ := zbd H
  refine l_X9g_begin_44 r0 r1 r2 r4 r5 r6 r7 r8 r9 nr nc _ 0 (upz (upz (upz (upz s3 24 4 y3) 24 5 y7) 24 6 0) 24 7 1) e14 ?_
  refine xB.run oX9_begin 3 (s := (73, [some (.ref 3096), some (.int (zI nr)), some (.int (zI nc)), some (.int (zI y13.1))], [.int (zI (-1)), .ref 3114], [r0, r1, r2, zH y13.2 zL3 0, r4, r5, r6, r7, r8, r9])) rfl ?_
  refine xB.call oX9_begin (M2 := MJ7_fill_53178) rfl rfl ((zfillI (hp := [r0, r1, r2, zH y13.2 zL3 0, r4, r5, r6, r7, r8, r9]) (g := 3) (p := 42) (N := 8) (L := zL3) (-1) rfl (by decide) (by decide) rfl rfl (by decide)).deep (Nat.zero_le 0)) ?_
  show xBody MX9_begin 1 76 [some (.ref 3096), some (.int (zI nr)), some (.int (zI nc)), some (.int (zI y13.1))] [] ([r0, r1, r2, zH (zfl y13.2 42 8 (-1)) zL3 0, r4, r5, r6, r7, r8, r9]) _ _
  obtain rfl := Option.some.inj H
  exact xB.ret oX9_begin (r1 := none) rfl rfl rfl
def d_X9g_isThere (s3 : zZ) (row : Int) (col : Int) : Option (Int) := if (zr row) then (if row < 0 then some 0 else (if (zr row ∧ zr (s3 24 4)) then (if (s3 24 4) ≤ row then some 0 else (if (zr col) then (if col < 0 then some 0 else (if (zr col ∧ zr (s3 24 5)) then (if (s3 24 5) ≤ col then some 0 else some 1) else none)) else none)) else none)) else none
set_option maxRecDepth 20000 in
theorem t_X9g_isThere (r0 : List va_E) (r1 : List va_E) (r2 : List va_E) (s3 : zZ) (r4 : List va_E) (r5 : List va_E) (r6 : List va_E) (r7 : List va_E) (r8 : List va_E) (r9 : List va_E) (row : Int) (col : Int) {rr : Int} (H : d_X9g_isThere s3 row col = some rr) : xC MX9_isThere 0 [.ref 3096, .int (zI row), .int (zI col)] ([r0, r1, r2, zH s3 zL3 0, r4, r5, r6, r7, r8, r9]) (some (.int (zI rr))) ([r0, r1, r2, zH s3 zL3 0, r4, r5, r6, r7, r8, r9]) := by
  refine ⟨Nat.le_of_ble_eq_true rfl, ?_⟩
  show xBody MX9_isThere 0 0 [some (.ref 3096), some (.int (zI row)), some (.int (zI col))] [] ([r0, r1, r2, zH s3 zL3 0, r4, r5, r6, r7, r8, r9]) _ _
  unfold d_X9g_isThere at H
  refine xB.run oX9_isThere 1 (s := (1, [some (.ref 3096), some (.int (zI row)), some (.int (zI col))], [.int (zI row)], [r0, r1, r2, zH s3 zL3 0, r4, r5, r6, r7, r8, r9])) rfl ?_
  obtain ⟨g8, H⟩ := zgd H
  have H := zif H
  refine xB.brE oX9_isThere (P := row < 0) rfl (zc_lt (a := row) (b := 0) ⟨g8, by decide⟩) (fun h1 => ?_) (fun h1 => ?_)
  · have H := H.1 h1
    refine xB.run oX9_isThere 1 (s := (29, [some (.ref 3096), some (.int (zI row)), some (.int (zI col))], [.int (zI 0)], [r0, r1, r2, zH s3 zL3 0, r4, r5, r6, r7, r8, r9])) rfl ?_
    obtain rfl := Option.some.inj H
    exact xB.ret oX9_isThere (r1 := some (.int (zI 0))) rfl rfl rfl
  · have H := H.2 h1
    refine xB.run oX9_isThere 3 (s := (9, [some (.ref 3096), some (.int (zI row)), some (.int (zI col))], [.int (zI (s3 24 4)), .int (zI row)], [r0, r1, r2, zH s3 zL3 0, r4, r5, r6, r7, r8, r9])) rfl ?_
    obtain ⟨g7, H⟩ := zgd H
    have H := zif H
    refine xB.brE oX9_isThere (P := (s3 24 4) ≤ row) rfl (zc_ge (a := row) (b := s3 24 4) g7) (fun h2 => ?_) (fun h2 => ?_)
    · have H := H.1 h2
      refine xB.run oX9_isThere 1 (s := (29, [some (.ref 3096), some (.int (zI row)), some (.int (zI col))], [.int (zI 0)], [r0, r1, r2, zH s3 zL3 0, r4, r5, r6, r7, r8, r9])) rfl ?_
      obtain rfl := Option.some.inj H
      exact xB.ret oX9_isThere (r1 := some (.int (zI 0))) rfl rfl rfl
    · have H := H.2 h2
      refine xB.run oX9_isThere 1 (s := (13, [some (.ref 3096), some (.int (zI row)), some (.int (zI col))], [.int (zI col)], [r0, r1, r2, zH s3 zL3 0, r4, r5, r6, r7, r8, r9])) rfl ?_
      obtain ⟨g6, H⟩ := zgd H
      have H := zif H
      refine xB.brE oX9_isThere (P := col < 0) rfl (zc_lt (a := col) (b := 0) ⟨g6, by decide⟩) (fun h3 => ?_) (fun h3 => ?_)
      · have H := H.1 h3
        refine xB.run oX9_isThere 1 (s := (29, [some (.ref 3096), some (.int (zI row)), some (.int (zI col))], [.int (zI 0)], [r0, r1, r2, zH s3 zL3 0, r4, r5, r6, r7, r8, r9])) rfl ?_
        obtain rfl := Option.some.inj H
        exact xB.ret oX9_isThere (r1 := some (.int (zI 0))) rfl rfl rfl
      · have H := H.2 h3
        refine xB.run oX9_isThere 3 (s := (21, [some (.ref 3096), some (.int (zI row)), some (.int (zI col))], [.int (zI (s3 24 5)), .int (zI col)], [r0, r1, r2, zH s3 zL3 0, r4, r5, r6, r7, r8, r9])) rfl ?_
        obtain ⟨g5, H⟩ := zgd H
        have H := zif H
        refine xB.brE oX9_isThere (P := (s3 24 5) ≤ col) rfl (zc_ge (a := col) (b := s3 24 5) g5) (fun h4 => ?_) (fun h4 => ?_)
        · have H := H.1 h4
          refine xB.run oX9_isThere 1 (s := (29, [some (.ref 3096), some (.int (zI row)), some (.int (zI col))], [.int (zI 0)], [r0, r1, r2, zH s3 zL3 0, r4, r5, r6, r7, r8, r9])) rfl ?_
          obtain rfl := Option.some.inj H
          exact xB.ret oX9_isThere (r1 := some (.int (zI 0))) rfl rfl rfl
        · have H := H.2 h4
          refine xB.run oX9_isThere 2 (s := (29, [some (.ref 3096), some (.int (zI row)), some (.int (zI col))], [.int (zI 1)], [r0, r1, r2, zH s3 zL3 0, r4, r5, r6, r7, r8, r9])) rfl ?_
          obtain rfl := Option.some.inj H
          exact xB.ret oX9_isThere (r1 := some (.int (zI 1))) rfl rfl rfl
def d_X9g_add (s3 : zZ) (row : Int) (col : Int) (num : Int) : Option (zZ) := (d_X9g_isThere s3 row col).bind fun y1 => if (zr y1) then (if y1 = 0 then some s3 else (if ((0 ≤ row ∧ row < 16) ∧ 0 ≤ s3 25 row.toNat ∧ s3 25 row.toNat < 16) then (if (((s3 25 row.toNat).toNat < 16) ∧ (0 ≤ col ∧ col < 8)) then (if (((s3 25 row.toNat).toNat < 16) ∧ (0 ≤ col ∧ col < 8)) then some (upz s3 (26 + (s3 25 row.toNat).toNat) col.toNat ((s3 (26 + (s3 25 row.toNat).toNat) col.toNat) + num)) else none) else none) else none)) else none
set_option maxRecDepth 20000 in
theorem t_X9g_add (r0 : List va_E) (r1 : List va_E) (r2 : List va_E) (s3 : zZ) (r4 : List va_E) (r5 : List va_E) (r6 : List va_E) (r7 : List va_E) (r8 : List va_E) (r9 : List va_E) (row : Int) (col : Int) (num : Int) {rr : zZ} (H : d_X9g_add s3 row col num = some rr) : xC MX9_add 1 [.ref 3096, .int (zI row), .int (zI col), .long (zJ num)] ([r0, r1, r2, zH s3 zL3 0, r4, r5, r6, r7, r8, r9]) (none) ([r0, r1, r2, zH rr zL3 0, r4, r5, r6, r7, r8, r9]) := by
  refine ⟨Nat.le_of_ble_eq_true rfl, ?_⟩
  show xBody MX9_add 1 0 [some (.ref 3096), some (.int (zI row)), some (.int (zI col)), some (.long (zJ num)), none] [] ([r0, r1, r2, zH s3 zL3 0, r4, r5, r6, r7, r8, r9]) _ _
  unfold d_X9g_add at H
  refine xB.run oX9_add 3 (s := (3, [some (.ref 3096), some (.int (zI row)), some (.int (zI col)), some (.long (zJ num)), none], [.int (zI col), .int (zI row), .ref 3096], [r0, r1, r2, zH s3 zL3 0, r4, r5, r6, r7, r8, r9])) rfl ?_
  obtain ⟨y1, e2, H⟩ := zbd H
  refine xB.call oX9_add (M2 := MX9_isThere) rfl rfl ((t_X9g_isThere r0 r1 r2 s3 r4 r5 r6 r7 r8 r9 row col e2).deep (by decide : 0 ≤ 0)) ?_
  show xBody MX9_add 1 6 [some (.ref 3096), some (.int (zI row)), some (.int (zI col)), some (.long (zJ num)), none] [.int (zI y1)] ([r0, r1, r2, zH s3 zL3 0, r4, r5, r6, r7, r8, r9]) _ _
  obtain ⟨g7, H⟩ := zgd H
  have H := zif H
  refine xB.brE oX9_add (P := y1 = 0) rfl (zc_eq (a := y1) (b := 0) ⟨g7, by decide⟩) (fun h3 => ?_) (fun h3 => ?_)
  · have H := H.1 h3
    obtain rfl := Option.some.inj H
    exact xB.ret oX9_add (r1 := none) rfl rfl rfl
  · have H := H.2 h3
    refine xB.run oX9_add 3 (s := (14, [some (.ref 3096), some (.int (zI row)), some (.int (zI col)), some (.long (zJ num)), none], [.int (zI row), .ref 3097], [r0, r1, r2, zH s3 zL3 0, r4, r5, r6, r7, r8, r9])) rfl ?_
    obtain ⟨g6, H⟩ := zgd H
    refine zB.aaldP oX9_add (g := 3) (p := 25) (N := 16) (g2 := 3) (p2 := 26) rfl rfl (by decide) rfl rfl (by decide) g6.1 ?_
    refine xB.run oX9_add 2 (s := (17, [some (.ref 3096), some (.int (zI row)), some (.int (zI col)), some (.long (zJ num)), none], [.int (zI col), .ref (1024 * 3 + (26 + ((s3 25 row.toNat).toNat))), .int (zI col), .ref (1024 * 3 + (26 + ((s3 25 row.toNat).toNat)))], [r0, r1, r2, zH s3 zL3 0, r4, r5, r6, r7, r8, r9])) rfl ?_
    obtain ⟨g5, H⟩ := zgd H
    refine zB.lald oX9_add (g := 3) (p := 26 + (s3 25 row.toNat).toNat) (N := 8) (i := col) rfl rfl (by omega) rfl (zg_3_26 _ (by omega)) (by decide) g5.2 ?_
    refine xB.run oX9_add 1 (s := (19, [some (.ref 3096), some (.int (zI row)), some (.int (zI col)), some (.long (zJ num)), none], [.long (zJ num), .long (zJ (s3 (26 + (s3 25 row.toNat).toNat) col.toNat)), .int (zI col), .ref (1024 * 3 + (26 + ((s3 25 row.toNat).toNat)))], [r0, r1, r2, zH s3 zL3 0, r4, r5, r6, r7, r8, r9])) rfl ?_
    refine zB.opl oX9_add rfl (zj_add (s3 (26 + (s3 25 row.toNat).toNat) col.toNat) num) ?_
    obtain ⟨g4, H⟩ := zgd H
    refine zB.last oX9_add (g := 3) (p := 26 + (s3 25 row.toNat).toNat) (N := 8) (i := col) (hp1 := [r0, r1, r2, zH (upz s3 (26 + (s3 25 row.toNat).toNat) col.toNat ((s3 (26 + (s3 25 row.toNat).toNat) col.toNat) + num)) zL3 0, r4, r5, r6, r7, r8, r9]) rfl rfl (by omega) (by decide) rfl (zg_3_26 _ (by omega)) (by decide) g4.2 rfl ?_
    obtain rfl := Option.some.inj H
    exact xB.ret oX9_add (r1 := none) rfl rfl rfl
def d_X9g_number (s3 : zZ) (row : Int) (col : Int) : Option (Int) := (d_X9g_isThere s3 row col).bind fun y1 => if (zr y1) then (if y1 = 0 then some 0 else (if ((0 ≤ row ∧ row < 16) ∧ 0 ≤ s3 25 row.toNat ∧ s3 25 row.toNat < 16) then (if (((s3 25 row.toNat).toNat < 16) ∧ (0 ≤ col ∧ col < 8)) then some (s3 (26 + (s3 25 row.toNat).toNat) col.toNat) else none) else none)) else none
set_option maxRecDepth 20000 in
theorem t_X9g_number (r0 : List va_E) (r1 : List va_E) (r2 : List va_E) (s3 : zZ) (r4 : List va_E) (r5 : List va_E) (r6 : List va_E) (r7 : List va_E) (r8 : List va_E) (r9 : List va_E) (row : Int) (col : Int) {rr : Int} (H : d_X9g_number s3 row col = some rr) : xC MX9_number 1 [.ref 3096, .int (zI row), .int (zI col)] ([r0, r1, r2, zH s3 zL3 0, r4, r5, r6, r7, r8, r9]) (some (.long (zJ rr))) ([r0, r1, r2, zH s3 zL3 0, r4, r5, r6, r7, r8, r9]) := by
  refine ⟨Nat.le_of_ble_eq_true rfl, ?_⟩
  show xBody MX9_number 1 0 [some (.ref 3096), some (.int (zI row)), some (.int (zI col))] [] ([r0, r1, r2, zH s3 zL3 0, r4, r5, r6, r7, r8, r9]) _ _
  unfold d_X9g_number at H
  refine xB.run oX9_number 3 (s := (3, [some (.ref 3096), some (.int (zI row)), some (.int (zI col))], [.int (zI col), .int (zI row), .ref 3096], [r0, r1, r2, zH s3 zL3 0, r4, r5, r6, r7, r8, r9])) rfl ?_
  obtain ⟨y1, e2, H⟩ := zbd H
  refine xB.call oX9_number (M2 := MX9_isThere) rfl rfl ((t_X9g_isThere r0 r1 r2 s3 r4 r5 r6 r7 r8 r9 row col e2).deep (by decide : 0 ≤ 0)) ?_
  show xBody MX9_number 1 6 [some (.ref 3096), some (.int (zI row)), some (.int (zI col))] [.int (zI y1)] ([r0, r1, r2, zH s3 zL3 0, r4, r5, r6, r7, r8, r9]) _ _
  obtain ⟨g6, H⟩ := zgd H
  have H := zif H
  refine xB.brE oX9_number (P := y1 = 0) rfl (zc_eq (a := y1) (b := 0) ⟨g6, by decide⟩) (fun h3 => ?_) (fun h3 => ?_)
  · have H := H.1 h3
    refine xB.run oX9_number 1 (s := (21, [some (.ref 3096), some (.int (zI row)), some (.int (zI col))], [.long (zJ 0)], [r0, r1, r2, zH s3 zL3 0, r4, r5, r6, r7, r8, r9])) rfl ?_
    obtain rfl := Option.some.inj H
    exact xB.ret oX9_number (r1 := some (.long (zJ 0))) rfl rfl rfl
  · have H := H.2 h3
    refine xB.run oX9_number 3 (s := (14, [some (.ref 3096), some (.int (zI row)), some (.int (zI col))], [.int (zI row), .ref 3097], [r0, r1, r2, zH s3 zL3 0, r4, r5, r6, r7, r8, r9])) rfl ?_
    obtain ⟨g5, H⟩ := zgd H
    refine zB.aaldP oX9_number (g := 3) (p := 25) (N := 16) (g2 := 3) (p2 := 26) rfl rfl (by decide) rfl rfl (by decide) g5.1 ?_
    refine xB.run oX9_number 1 (s := (16, [some (.ref 3096), some (.int (zI row)), some (.int (zI col))], [.int (zI col), .ref (1024 * 3 + (26 + ((s3 25 row.toNat).toNat)))], [r0, r1, r2, zH s3 zL3 0, r4, r5, r6, r7, r8, r9])) rfl ?_
    obtain ⟨g4, H⟩ := zgd H
    refine zB.lald oX9_number (g := 3) (p := 26 + (s3 25 row.toNat).toNat) (N := 8) (i := col) rfl rfl (by omega) rfl (zg_3_26 _ (by omega)) (by decide) g4.2 ?_
    refine xB.run oX9_number 1 (s := (21, [some (.ref 3096), some (.int (zI row)), some (.int (zI col))], [.long (zJ (s3 (26 + (s3 25 row.toNat).toNat) col.toNat))], [r0, r1, r2, zH s3 zL3 0, r4, r5, r6, r7, r8, r9])) rfl ?_
    obtain rfl := Option.some.inj H
    exact xB.ret oX9_number (r1 := some (.long (zJ (s3 (26 + (s3 25 row.toNat).toNat) col.toNat)))) rfl rfl rfl
def d_X9g_leads (s3 : zZ) (col : Int) : Option (Int) := if (zr col) then (if col < 0 then some (-1) else (if (zr col ∧ zr (s3 24 5)) then (if (s3 24 5) ≤ col then some (-1) else (if (0 ≤ col ∧ col < 8) then some (s3 42 col.toNat) else none)) else none)) else none
set_option maxRecDepth 20000 in
theorem t_X9g_leads (r0 : List va_E) (r1 : List va_E) (r2 : List va_E) (s3 : zZ) (r4 : List va_E) (r5 : List va_E) (r6 : List va_E) (r7 : List va_E) (r8 : List va_E) (r9 : List va_E) (col : Int) {rr : Int} (H : d_X9g_leads s3 col = some rr) : xC MX9_leads 0 [.ref 3096, .int (zI col)] ([r0, r1, r2, zH s3 zL3 0, r4, r5, r6, r7, r8, r9]) (some (.int (zI rr))) ([r0, r1, r2, zH s3 zL3 0, r4, r5, r6, r7, r8, r9]) := by
  refine ⟨Nat.le_of_ble_eq_true rfl, ?_⟩
  show xBody MX9_leads 0 0 [some (.ref 3096), some (.int (zI col))] [] ([r0, r1, r2, zH s3 zL3 0, r4, r5, r6, r7, r8, r9]) _ _
  unfold d_X9g_leads at H
  refine xB.run oX9_leads 1 (s := (1, [some (.ref 3096), some (.int (zI col))], [.int (zI col)], [r0, r1, r2, zH s3 zL3 0, r4, r5, r6, r7, r8, r9])) rfl ?_
  obtain ⟨g5, H⟩ := zgd H
  have H := zif H
  refine xB.brE oX9_leads (P := col < 0) rfl (zc_lt (a := col) (b := 0) ⟨g5, by decide⟩) (fun h1 => ?_) (fun h1 => ?_)
  · have H := H.1 h1
    refine xB.run oX9_leads 1 (s := (22, [some (.ref 3096), some (.int (zI col))], [.int (zI (-1))], [r0, r1, r2, zH s3 zL3 0, r4, r5, r6, r7, r8, r9])) rfl ?_
    obtain rfl := Option.some.inj H
    exact xB.ret oX9_leads (r1 := some (.int (zI (-1)))) rfl rfl rfl
  · have H := H.2 h1
    refine xB.run oX9_leads 3 (s := (9, [some (.ref 3096), some (.int (zI col))], [.int (zI (s3 24 5)), .int (zI col)], [r0, r1, r2, zH s3 zL3 0, r4, r5, r6, r7, r8, r9])) rfl ?_
    obtain ⟨g4, H⟩ := zgd H
    have H := zif H
    refine xB.brE oX9_leads (P := (s3 24 5) ≤ col) rfl (zc_ge (a := col) (b := s3 24 5) g4) (fun h2 => ?_) (fun h2 => ?_)
    · have H := H.1 h2
      refine xB.run oX9_leads 1 (s := (22, [some (.ref 3096), some (.int (zI col))], [.int (zI (-1))], [r0, r1, r2, zH s3 zL3 0, r4, r5, r6, r7, r8, r9])) rfl ?_
      obtain rfl := Option.some.inj H
      exact xB.ret oX9_leads (r1 := some (.int (zI (-1)))) rfl rfl rfl
    · have H := H.2 h2
      refine xB.run oX9_leads 3 (s := (17, [some (.ref 3096), some (.int (zI col))], [.int (zI col), .ref 3114], [r0, r1, r2, zH s3 zL3 0, r4, r5, r6, r7, r8, r9])) rfl ?_
      obtain ⟨g3, H⟩ := zgd H
      refine zB.iald oX9_leads (g := 3) (p := 42) (N := 8) (i := col) rfl rfl (by decide) rfl rfl (by decide) g3 ?_
      refine xB.run oX9_leads 1 (s := (22, [some (.ref 3096), some (.int (zI col))], [.int (zI (s3 42 col.toNat))], [r0, r1, r2, zH s3 zL3 0, r4, r5, r6, r7, r8, r9])) rfl ?_
      obtain rfl := Option.some.inj H
      exact xB.ret oX9_leads (r1 := some (.int (zI (s3 42 col.toNat)))) rfl rfl rfl
def d_X9g_rowToLead_5 (s3 : zZ) (col : Int) : Nat → Int → Option (Sum (Int) (Int))
  | 0, _ => none
  | uN + 1, row => if (zr row ∧ zr (s3 24 4)) then (if (s3 24 4) ≤ row then some (.inl row) else (if ((0 ≤ row ∧ row < 16) ∧ 0 ≤ s3 25 row.toNat ∧ s3 25 row.toNat < 16) then (if (((s3 25 row.toNat).toNat < 16) ∧ (0 ≤ col ∧ col < 8)) then (if (zrl (s3 (26 + (s3 25 row.toNat).toNat) col.toNat)) then (if (s3 (26 + (s3 25 row.toNat).toNat) col.toNat) = 0 then (d_X9g_rowToLead_5 s3 col uN (row + 1)) else some (.inr row)) else none) else none) else none)) else none
def d_X9g_rowToLead (s3 : zZ) (col : Int) : Option (Int) := (d_X9g_rowToLead_5 s3 col zF (s3 24 6)).bind fun y7 => match y7 with | .inl y9 => some (-1) | .inr y10 => some y10
set_option maxRecDepth 20000 in
theorem l_X9g_rowToLead_5 (r0 : List va_E) (r1 : List va_E) (r2 : List va_E) (s3 : zZ) (r4 : List va_E) (r5 : List va_E) (r6 : List va_E) (r7 : List va_E) (r8 : List va_E) (r9 : List va_E) (col : Int) {r : Option Value} {hp1 : xH} : ∀ (uN : Nat) (row : Int) {uX : Sum (Int) (Int)}, d_X9g_rowToLead_5 s3 col uN row = some uX → ((∀ uY, uX = .inl uY → xBody MX9_rowToLead 0 34 [some (.ref 3096), some (.int (zI col)), some (.int (zI uY))] [] ([r0, r1, r2, zH s3 zL3 0, r4, r5, r6, r7, r8, r9]) r hp1) ∧ (∀ uW, uX = .inr uW → r = some (.int (zI uW)) ∧ hp1 = [r0, r1, r2, zH s3 zL3 0, r4, r5, r6, r7, r8, r9])) → xBody MX9_rowToLead 0 5 [some (.ref 3096), some (.int (zI col)), some (.int (zI row))] [] ([r0, r1, r2, zH s3 zL3 0, r4, r5, r6, r7, r8, r9]) r hp1 := by
  intro uN
  induction uN with
  | zero => intro row uX H K; cases H
  | succ uN ih =>
    intro row uX H K
    unfold d_X9g_rowToLead_5 at H
    refine xB.run oX9_rowToLead 3 (s := (10, [some (.ref 3096), some (.int (zI col)), some (.int (zI row))], [.int (zI (s3 24 4)), .int (zI row)], [r0, r1, r2, zH s3 zL3 0, r4, r5, r6, r7, r8, r9])) rfl ?_
    obtain ⟨g6, H⟩ := zgd H
    have H := zif H
    refine xB.brE oX9_rowToLead (P := (s3 24 4) ≤ row) rfl (zc_ge (a := row) (b := s3 24 4) g6) (fun h1 => ?_) (fun h1 => ?_)
    · have H := H.1 h1
      obtain rfl := Option.some.inj H
      exact K.1 _ rfl
    · have H := H.2 h1
      refine xB.run oX9_rowToLead 3 (s := (18, [some (.ref 3096), some (.int (zI col)), some (.int (zI row))], [.int (zI row), .ref 3097], [r0, r1, r2, zH s3 zL3 0, r4, r5, r6, r7, r8, r9])) rfl ?_
      obtain ⟨g5, H⟩ := zgd H
      refine zB.aaldP oX9_rowToLead (g := 3) (p := 25) (N := 16) (g2 := 3) (p2 := 26) rfl rfl (by decide) rfl rfl (by decide) g5.1 ?_
      refine xB.run oX9_rowToLead 1 (s := (20, [some (.ref 3096), some (.int (zI col)), some (.int (zI row))], [.int (zI col), .ref (1024 * 3 + (26 + ((s3 25 row.toNat).toNat)))], [r0, r1, r2, zH s3 zL3 0, r4, r5, r6, r7, r8, r9])) rfl ?_
      obtain ⟨g4, H⟩ := zgd H
      refine zB.lald oX9_rowToLead (g := 3) (p := 26 + (s3 25 row.toNat).toNat) (N := 8) (i := col) rfl rfl (by omega) rfl (zg_3_26 _ (by omega)) (by decide) g4.2 ?_
      refine xB.run oX9_rowToLead 2 (s := (23, [some (.ref 3096), some (.int (zI col)), some (.int (zI row))], [.int (lg_cmp (zJ (s3 (26 + (s3 25 row.toNat).toNat) col.toNat)) (zJ 0))], [r0, r1, r2, zH s3 zL3 0, r4, r5, r6, r7, r8, r9])) rfl ?_
      obtain ⟨g3, H⟩ := zgd H
      have H := zif H
      refine xB.brE oX9_rowToLead (P := (s3 (26 + (s3 25 row.toNat).toNat) col.toNat) = 0) rfl (zl_eq (a := s3 (26 + (s3 25 row.toNat).toNat) col.toNat) (b := 0) ⟨g3, by decide⟩) (fun h2 => ?_) (fun h2 => ?_)
      · have H := H.1 h2
        refine zB.inc oX9_rowToLead rfl (lv2 := [some (.ref 3096), some (.int (zI col)), some (.int (zI (row + 1)))]) (zi_inc (a := 0) (zi_addp1 row) _ rfl) ?_
        refine xB.run oX9_rowToLead 1 (s := (5, [some (.ref 3096), some (.int (zI col)), some (.int (zI (row + 1)))], [], [r0, r1, r2, zH s3 zL3 0, r4, r5, r6, r7, r8, r9])) rfl ?_
        exact ih (row + 1) H K
      · have H := H.2 h2
        refine xB.run oX9_rowToLead 1 (s := (27, [some (.ref 3096), some (.int (zI col)), some (.int (zI row))], [.int (zI row)], [r0, r1, r2, zH s3 zL3 0, r4, r5, r6, r7, r8, r9])) rfl ?_
        obtain rfl := Option.some.inj H
        obtain ⟨kr, kh⟩ := K.2 _ rfl
        subst kr kh
        exact xB.ret oX9_rowToLead (r1 := some (.int (zI row))) rfl rfl rfl
set_option maxRecDepth 20000 in
theorem t_X9g_rowToLead (r0 : List va_E) (r1 : List va_E) (r2 : List va_E) (s3 : zZ) (r4 : List va_E) (r5 : List va_E) (r6 : List va_E) (r7 : List va_E) (r8 : List va_E) (r9 : List va_E) (col : Int) {rr : Int} (H : d_X9g_rowToLead s3 col = some rr) : xC MX9_rowToLead 0 [.ref 3096, .int (zI col)] ([r0, r1, r2, zH s3 zL3 0, r4, r5, r6, r7, r8, r9]) (some (.int (zI rr))) ([r0, r1, r2, zH s3 zL3 0, r4, r5, r6, r7, r8, r9]) := by
  refine ⟨Nat.le_of_ble_eq_true rfl, ?_⟩
  show xBody MX9_rowToLead 0 0 [some (.ref 3096), some (.int (zI col)), none] [] ([r0, r1, r2, zH s3 zL3 0, r4, r5, r6, r7, r8, r9]) _ _
  unfold d_X9g_rowToLead at H
  refine xB.run oX9_rowToLead 3 (s := (5, [some (.ref 3096), some (.int (zI col)), some (.int (zI (s3 24 6)))], [], [r0, r1, r2, zH s3 zL3 0, r4, r5, r6, r7, r8, r9])) rfl ?_
  obtain ⟨y7, e8, H⟩ := zbd H
  refine l_X9g_rowToLead_5 r0 r1 r2 s3 r4 r5 r6 r7 r8 r9 col _ (s3 24 6) e8 ?_
  refine ⟨fun y9 uQ => ?_, fun y10 uQ => ?_⟩
  · subst uQ
    refine xB.run oX9_rowToLead 1 (s := (35, [some (.ref 3096), some (.int (zI col)), some (.int (zI y9))], [.int (zI (-1))], [r0, r1, r2, zH s3 zL3 0, r4, r5, r6, r7, r8, r9])) rfl ?_
    obtain rfl := Option.some.inj H
    exact xB.ret oX9_rowToLead (r1 := some (.int (zI (-1)))) rfl rfl rfl
  · subst uQ
    obtain rfl := Option.some.inj H
    exact ⟨rfl, rfl⟩
def d_X9g_clearOthers_62 (col : Int) (w2 : Int) (lead : Int) (row : Int) (w6 : Int) (times : Int) : Nat → Int → zZ → Option (Int × zZ)
  | 0, _, _ => none
  | uN + 1, k, s3 => if (zr k ∧ zr (s3 24 5)) then (if (s3 24 5) ≤ k then some (k, s3) else (if ((w6.toNat < 16) ∧ (0 ≤ k ∧ k < 8)) then (if ((w2.toNat < 16) ∧ (0 ≤ k ∧ k < 8)) then (if (zrl ((lead * (s3 (26 + w6.toNat) k.toNat)) - (times * (s3 (26 + w2.toNat) k.toNat))) ∧ (s3 24 7) ≠ 0 ∧ zrl (s3 24 7)) then (if ((w6.toNat < 16) ∧ (0 ≤ k ∧ k < 8)) then (d_X9g_clearOthers_62 col w2 lead row w6 times uN (k + 1) (upz s3 (26 + w6.toNat) k.toNat (((lead * (s3 (26 + w6.toNat) k.toNat)) - (times * (s3 (26 + w2.toNat) k.toNat))).tdiv (s3 24 7)))) else none) else none) else none) else none)) else none
def d_X9g_clearOthers_17 (col : Int) (w2 : Int) (lead : Int) : Nat → Int → zZ → Option (Int × zZ)
  | 0, _, _ => none
  | uN + 1, row, s3 => if (zr row ∧ zr (s3 24 4)) then (if (s3 24 4) ≤ row then some (row, s3) else (if (zr row ∧ zr (s3 24 6)) then (if row = (s3 24 6) then (d_X9g_clearOthers_17 col w2 lead uN (row + 1) s3) else (if (zrl (s3 24 7)) then (if (s3 24 7) = 0 then (d_X9g_clearOthers_17 col w2 lead uN (row + 1) s3) else (if ((0 ≤ row ∧ row < 16) ∧ 0 ≤ s3 25 row.toNat ∧ s3 25 row.toNat < 16) then (if (((s3 25 row.toNat).toNat < 16) ∧ (0 ≤ col ∧ col < 8)) then ((d_X9g_clearOthers_62 col w2 lead row (s3 25 row.toNat) (s3 (26 + (s3 25 row.toNat).toNat) col.toNat) zF 0 s3).bind fun y10 => d_X9g_clearOthers_17 col w2 lead uN (row + 1) y10.2) else none) else none)) else none)) else none)) else none
def d_X9g_clearOthers (s3 : zZ) (col : Int) : Option (zZ) := if ((0 ≤ (s3 24 6) ∧ (s3 24 6) < 16) ∧ 0 ≤ s3 25 (s3 24 6).toNat ∧ s3 25 (s3 24 6).toNat < 16) then (if (((s3 25 (s3 24 6).toNat).toNat < 16) ∧ (0 ≤ col ∧ col < 8)) then ((d_X9g_clearOthers_17 col (s3 25 (s3 24 6).toNat) (s3 (26 + (s3 25 (s3 24 6).toNat).toNat) col.toNat) zF 0 s3).bind fun y17 => some y17.2) else none) else none
set_option maxRecDepth 20000 in
theorem l_X9g_clearOthers_62 (r0 : List va_E) (r1 : List va_E) (r2 : List va_E) (r4 : List va_E) (r5 : List va_E) (r6 : List va_E) (r7 : List va_E) (r8 : List va_E) (r9 : List va_E) (col : Int) (w2 : Int) (lead : Int) (row : Int) (w6 : Int) (times : Int) {r : Option Value} {hp1 : xH} : ∀ (uN : Nat) (k : Int) (s3 : zZ) {uX : Int × zZ}, d_X9g_clearOthers_62 col w2 lead row w6 times uN k s3 = some uX → (xBody MX9_clearOthers 0 102 [some (.ref 3096), some (.int (zI col)), some (.ref (1024 * 3 + (26 + w2.toNat))), some (.long (zJ lead)), none, some (.int (zI row)), some (.ref (1024 * 3 + (26 + w6.toNat))), some (.long (zJ times)), none, some (.int (zI uX.1))] [] ([r0, r1, r2, zH uX.2 zL3 0, r4, r5, r6, r7, r8, r9]) r hp1) → xBody MX9_clearOthers 0 62 [some (.ref 3096), some (.int (zI col)), some (.ref (1024 * 3 + (26 + w2.toNat))), some (.long (zJ lead)), none, some (.int (zI row)), some (.ref (1024 * 3 + (26 + w6.toNat))), some (.long (zJ times)), none, some (.int (zI k))] [] ([r0, r1, r2, zH s3 zL3 0, r4, r5, r6, r7, r8, r9]) r hp1 := by
  intro uN
  induction uN with
  | zero => intro k s3 uX H K; cases H
  | succ uN ih =>
    intro k s3 uX H K
    unfold d_X9g_clearOthers_62 at H
    refine xB.run oX9_clearOthers 3 (s := (68, [some (.ref 3096), some (.int (zI col)), some (.ref (1024 * 3 + (26 + w2.toNat))), some (.long (zJ lead)), none, some (.int (zI row)), some (.ref (1024 * 3 + (26 + w6.toNat))), some (.long (zJ times)), none, some (.int (zI k))], [.int (zI (s3 24 5)), .int (zI k)], [r0, r1, r2, zH s3 zL3 0, r4, r5, r6, r7, r8, r9])) rfl ?_
    obtain ⟨g9, H⟩ := zgd H
    have H := zif H
    refine xB.brE oX9_clearOthers (P := (s3 24 5) ≤ k) rfl (zc_ge (a := k) (b := s3 24 5) g9) (fun h4 => ?_) (fun h4 => ?_)
    · have H := H.1 h4
      obtain rfl := Option.some.inj H
      exact K
    · have H := H.2 h4
      refine xB.run oX9_clearOthers 5 (s := (80, [some (.ref 3096), some (.int (zI col)), some (.ref (1024 * 3 + (26 + w2.toNat))), some (.long (zJ lead)), none, some (.int (zI row)), some (.ref (1024 * 3 + (26 + w6.toNat))), some (.long (zJ times)), none, some (.int (zI k))], [.int (zI k), .ref (1024 * 3 + (26 + w6.toNat)), .long (zJ lead), .int (zI k), .ref (1024 * 3 + (26 + w6.toNat))], [r0, r1, r2, zH s3 zL3 0, r4, r5, r6, r7, r8, r9])) rfl ?_
      obtain ⟨g8, H⟩ := zgd H
      refine zB.lald oX9_clearOthers (g := 3) (p := 26 + w6.toNat) (N := 8) (i := k) rfl rfl (by omega) rfl (zg_3_26 _ (by omega)) (by decide) g8.2 ?_
      refine zB.opl oX9_clearOthers rfl (zj_mul lead (s3 (26 + w6.toNat) k.toNat)) ?_
      refine xB.run oX9_clearOthers 3 (s := (87, [some (.ref 3096), some (.int (zI col)), some (.ref (1024 * 3 + (26 + w2.toNat))), some (.long (zJ lead)), none, some (.int (zI row)), some (.ref (1024 * 3 + (26 + w6.toNat))), some (.long (zJ times)), none, some (.int (zI k))], [.int (zI k), .ref (1024 * 3 + (26 + w2.toNat)), .long (zJ times), .long (zJ (lead * (s3 (26 + w6.toNat) k.toNat))), .int (zI k), .ref (1024 * 3 + (26 + w6.toNat))], [r0, r1, r2, zH s3 zL3 0, r4, r5, r6, r7, r8, r9])) rfl ?_
      obtain ⟨g7, H⟩ := zgd H
      refine zB.lald oX9_clearOthers (g := 3) (p := 26 + w2.toNat) (N := 8) (i := k) rfl rfl (by omega) rfl (zg_3_26 _ (by omega)) (by decide) g7.2 ?_
      refine zB.opl oX9_clearOthers rfl (zj_mul times (s3 (26 + w2.toNat) k.toNat)) ?_
      refine zB.opl oX9_clearOthers rfl (zj_sub (lead * (s3 (26 + w6.toNat) k.toNat)) (times * (s3 (26 + w2.toNat) k.toNat))) ?_
      refine xB.run oX9_clearOthers 2 (s := (94, [some (.ref 3096), some (.int (zI col)), some (.ref (1024 * 3 + (26 + w2.toNat))), some (.long (zJ lead)), none, some (.int (zI row)), some (.ref (1024 * 3 + (26 + w6.toNat))), some (.long (zJ times)), none, some (.int (zI k))], [.long (zJ (s3 24 7)), .long (zJ ((lead * (s3 (26 + w6.toNat) k.toNat)) - (times * (s3 (26 + w2.toNat) k.toNat)))), .int (zI k), .ref (1024 * 3 + (26 + w6.toNat))], [r0, r1, r2, zH s3 zL3 0, r4, r5, r6, r7, r8, r9])) rfl ?_
      obtain ⟨g6, H⟩ := zgd H
      refine zB.divl oX9_clearOthers (b := s3 24 7) rfl (zj_div ⟨g6.1, g6.2.2⟩) rfl g6.2 ?_
      obtain ⟨g5, H⟩ := zgd H
      refine zB.last oX9_clearOthers (g := 3) (p := 26 + w6.toNat) (N := 8) (i := k) (hp1 := [r0, r1, r2, zH (upz s3 (26 + w6.toNat) k.toNat (((lead * (s3 (26 + w6.toNat) k.toNat)) - (times * (s3 (26 + w2.toNat) k.toNat))).tdiv (s3 24 7))) zL3 0, r4, r5, r6, r7, r8, r9]) rfl rfl (by omega) (by decide) rfl (zg_3_26 _ (by omega)) (by decide) g5.2 rfl ?_
      refine zB.inc oX9_clearOthers rfl (lv2 := [some (.ref 3096), some (.int (zI col)), some (.ref (1024 * 3 + (26 + w2.toNat))), some (.long (zJ lead)), none, some (.int (zI row)), some (.ref (1024 * 3 + (26 + w6.toNat))), some (.long (zJ times)), none, some (.int (zI (k + 1)))]) (zi_inc (a := 0) (zi_addp1 k) _ rfl) ?_
      refine xB.run oX9_clearOthers 1 (s := (62, [some (.ref 3096), some (.int (zI col)), some (.ref (1024 * 3 + (26 + w2.toNat))), some (.long (zJ lead)), none, some (.int (zI row)), some (.ref (1024 * 3 + (26 + w6.toNat))), some (.long (zJ times)), none, some (.int (zI (k + 1)))], [], [r0, r1, r2, zH (upz s3 (26 + w6.toNat) k.toNat (((lead * (s3 (26 + w6.toNat) k.toNat)) - (times * (s3 (26 + w2.toNat) k.toNat))).tdiv (s3 24 7))) zL3 0, r4, r5, r6, r7, r8, r9])) rfl ?_
      exact ih (k + 1) (upz s3 (26 + w6.toNat) k.toNat (((lead * (s3 (26 + w6.toNat) k.toNat)) - (times * (s3 (26 + w2.toNat) k.toNat))).tdiv (s3 24 7))) H K
set_option maxRecDepth 20000 in
theorem l_X9g_clearOthers_17 (r0 : List va_E) (r1 : List va_E) (r2 : List va_E) (r4 : List va_E) (r5 : List va_E) (r6 : List va_E) (r7 : List va_E) (r8 : List va_E) (r9 : List va_E) (col : Int) (w2 : Int) (lead : Int) {r : Option Value} {hp1 : xH} : ∀ (uN : Nat) (row : Int) (s3 : zZ) {uX : Int × zZ}, d_X9g_clearOthers_17 col w2 lead uN row s3 = some uX → (xBody MX9_clearOthers 0 108 [some (.ref 3096), some (.int (zI col)), some (.ref (1024 * 3 + (26 + w2.toNat))), some (.long (zJ lead)), none, some (.int (zI uX.1)), none, none, none, none] [] ([r0, r1, r2, zH uX.2 zL3 0, r4, r5, r6, r7, r8, r9]) r hp1) → xBody MX9_clearOthers 0 17 [some (.ref 3096), some (.int (zI col)), some (.ref (1024 * 3 + (26 + w2.toNat))), some (.long (zJ lead)), none, some (.int (zI row)), none, none, none, none] [] ([r0, r1, r2, zH s3 zL3 0, r4, r5, r6, r7, r8, r9]) r hp1 := by
  intro uN
  induction uN with
  | zero => intro row s3 uX H K; cases H
  | succ uN ih =>
    intro row s3 uX H K
    unfold d_X9g_clearOthers_17 at H
    refine xB.run oX9_clearOthers 3 (s := (23, [some (.ref 3096), some (.int (zI col)), some (.ref (1024 * 3 + (26 + w2.toNat))), some (.long (zJ lead)), none, some (.int (zI row)), none, none, none, none], [.int (zI (s3 24 4)), .int (zI row)], [r0, r1, r2, zH s3 zL3 0, r4, r5, r6, r7, r8, r9])) rfl ?_
    obtain ⟨g16, H⟩ := zgd H
    have H := zif H
    refine xB.brE oX9_clearOthers (P := (s3 24 4) ≤ row) rfl (zc_ge (a := row) (b := s3 24 4) g16) (fun h1 => ?_) (fun h1 => ?_)
    · have H := H.1 h1
      obtain rfl := Option.some.inj H
      exact K
    · have H := H.2 h1
      refine xB.run oX9_clearOthers 3 (s := (32, [some (.ref 3096), some (.int (zI col)), some (.ref (1024 * 3 + (26 + w2.toNat))), some (.long (zJ lead)), none, some (.int (zI row)), none, none, none, none], [.int (zI (s3 24 6)), .int (zI row)], [r0, r1, r2, zH s3 zL3 0, r4, r5, r6, r7, r8, r9])) rfl ?_
      obtain ⟨g15, H⟩ := zgd H
      have H := zif H
      refine xB.brE oX9_clearOthers (P := row = (s3 24 6)) rfl (zc_eq (a := row) (b := s3 24 6) g15) (fun h2 => ?_) (fun h2 => ?_)
      · have H := H.1 h2
        refine zB.inc oX9_clearOthers rfl (lv2 := [some (.ref 3096), some (.int (zI col)), some (.ref (1024 * 3 + (26 + w2.toNat))), some (.long (zJ lead)), none, some (.int (zI (row + 1))), none, none, none, none]) (zi_inc (a := 0) (zi_addp1 row) _ rfl) ?_
        refine xB.run oX9_clearOthers 1 (s := (17, [some (.ref 3096), some (.int (zI col)), some (.ref (1024 * 3 + (26 + w2.toNat))), some (.long (zJ lead)), none, some (.int (zI (row + 1))), none, none, none, none], [], [r0, r1, r2, zH s3 zL3 0, r4, r5, r6, r7, r8, r9])) rfl ?_
        exact ih (row + 1) s3 H K
      · have H := H.2 h2
        refine xB.run oX9_clearOthers 4 (s := (41, [some (.ref 3096), some (.int (zI col)), some (.ref (1024 * 3 + (26 + w2.toNat))), some (.long (zJ lead)), none, some (.int (zI row)), none, none, none, none], [.int (lg_cmp (zJ (s3 24 7)) (zJ 0))], [r0, r1, r2, zH s3 zL3 0, r4, r5, r6, r7, r8, r9])) rfl ?_
        obtain ⟨g14, H⟩ := zgd H
        have H := zif H
        refine xB.brE oX9_clearOthers (P := (s3 24 7) = 0) rfl (zl_eq (a := s3 24 7) (b := 0) ⟨g14, by decide⟩) (fun h3 => ?_) (fun h3 => ?_)
        · have H := H.1 h3
          refine zB.inc oX9_clearOthers rfl (lv2 := [some (.ref 3096), some (.int (zI col)), some (.ref (1024 * 3 + (26 + w2.toNat))), some (.long (zJ lead)), none, some (.int (zI (row + 1))), none, none, none, none]) (zi_inc (a := 0) (zi_addp1 row) _ rfl) ?_
          refine xB.run oX9_clearOthers 1 (s := (17, [some (.ref 3096), some (.int (zI col)), some (.ref (1024 * 3 + (26 + w2.toNat))), some (.long (zJ lead)), none, some (.int (zI (row + 1))), none, none, none, none], [], [r0, r1, r2, zH s3 zL3 0, r4, r5, r6, r7, r8, r9])) rfl ?_
          exact ih (row + 1) s3 H K
        · have H := H.2 h3
          refine xB.run oX9_clearOthers 3 (s := (50, [some (.ref 3096), some (.int (zI col)), some (.ref (1024 * 3 + (26 + w2.toNat))), some (.long (zJ lead)), none, some (.int (zI row)), none, none, none, none], [.int (zI row), .ref 3097], [r0, r1, r2, zH s3 zL3 0, r4, r5, r6, r7, r8, r9])) rfl ?_
          obtain ⟨g13, H⟩ := zgd H
          refine zB.aaldP oX9_clearOthers (g := 3) (p := 25) (N := 16) (g2 := 3) (p2 := 26) rfl rfl (by decide) rfl rfl (by decide) g13.1 ?_
          refine xB.run oX9_clearOthers 3 (s := (56, [some (.ref 3096), some (.int (zI col)), some (.ref (1024 * 3 + (26 + w2.toNat))), some (.long (zJ lead)), none, some (.int (zI row)), some (.ref (1024 * 3 + (26 + ((s3 25 row.toNat).toNat)))), none, none, none], [.int (zI col), .ref (1024 * 3 + (26 + ((s3 25 row.toNat).toNat)))], [r0, r1, r2, zH s3 zL3 0, r4, r5, r6, r7, r8, r9])) rfl ?_
          obtain ⟨g12, H⟩ := zgd H
          refine zB.lald oX9_clearOthers (g := 3) (p := 26 + (s3 25 row.toNat).toNat) (N := 8) (i := col) rfl rfl (by omega) rfl (zg_3_26 _ (by omega)) (by decide) g12.2 ?_
          refine xB.run oX9_clearOthers 3 (s := (62, [some (.ref 3096), some (.int (zI col)), some (.ref (1024 * 3 + (26 + w2.toNat))), some (.long (zJ lead)), none, some (.int (zI row)), some (.ref (1024 * 3 + (26 + ((s3 25 row.toNat).toNat)))), some (.long (zJ (s3 (26 + (s3 25 row.toNat).toNat) col.toNat))), none, some (.int (zI 0))], [], [r0, r1, r2, zH s3 zL3 0, r4, r5, r6, r7, r8, r9])) rfl ?_
          obtain ⟨y10, e11, H⟩ := zbd H
          refine l_X9g_clearOthers_62 r0 r1 r2 r4 r5 r6 r7 r8 r9 col w2 lead row (s3 25 row.toNat) (s3 (26 + (s3 25 row.toNat).toNat) col.toNat) _ 0 s3 e11 ?_
          refine zB.inc oX9_clearOthers rfl (lv2 := [some (.ref 3096), some (.int (zI col)), some (.ref (1024 * 3 + (26 + w2.toNat))), some (.long (zJ lead)), none, some (.int (zI (row + 1))), some (.ref (1024 * 3 + (26 + ((s3 25 row.toNat).toNat)))), some (.long (zJ (s3 (26 + (s3 25 row.toNat).toNat) col.toNat))), none, some (.int (zI y10.1))]) (zi_inc (a := 0) (zi_addp1 row) _ rfl) ?_
          refine xB.run oX9_clearOthers 1 (s := (17, [some (.ref 3096), some (.int (zI col)), some (.ref (1024 * 3 + (26 + w2.toNat))), some (.long (zJ lead)), none, some (.int (zI (row + 1))), some (.ref (1024 * 3 + (26 + ((s3 25 row.toNat).toNat)))), some (.long (zJ (s3 (26 + (s3 25 row.toNat).toNat) col.toNat))), none, some (.int (zI y10.1))], [], [r0, r1, r2, zH y10.2 zL3 0, r4, r5, r6, r7, r8, r9])) rfl ?_
          refine xB.forget (lv1 := [some (.ref 3096), some (.int (zI col)), some (.ref (1024 * 3 + (26 + w2.toNat))), some (.long (zJ lead)), none, some (.int (zI (row + 1))), none, none, none, none]) (xle_same (xle_same (xle_same (xle_same (xle_same (xle_same (xle_none (xle_none (xle_same (xle_none (xle_nil))))))))))) ?_
          exact ih (row + 1) y10.2 H K
set_option maxRecDepth 20000 in
theorem t_X9g_clearOthers (r0 : List va_E) (r1 : List va_E) (r2 : List va_E) (s3 : zZ) (r4 : List va_E) (r5 : List va_E) (r6 : List va_E) (r7 : List va_E) (r8 : List va_E) (r9 : List va_E) (col : Int) {rr : zZ} (H : d_X9g_clearOthers s3 col = some rr) : xC MX9_clearOthers 0 [.ref 3096, .int (zI col)] ([r0, r1, r2, zH s3 zL3 0, r4, r5, r6, r7, r8, r9]) (none) ([r0, r1, r2, zH rr zL3 0, r4, r5, r6, r7, r8, r9]) := by
  refine ⟨Nat.le_of_ble_eq_true rfl, ?_⟩
  show xBody MX9_clearOthers 0 0 [some (.ref 3096), some (.int (zI col)), none, none, none, none, none, none, none, none] [] ([r0, r1, r2, zH s3 zL3 0, r4, r5, r6, r7, r8, r9]) _ _
  unfold d_X9g_clearOthers at H
  refine xB.run oX9_clearOthers 4 (s := (8, [some (.ref 3096), some (.int (zI col)), none, none, none, none, none, none, none, none], [.int (zI (s3 24 6)), .ref 3097], [r0, r1, r2, zH s3 zL3 0, r4, r5, r6, r7, r8, r9])) rfl ?_
  obtain ⟨g20, H⟩ := zgd H
  refine zB.aaldP oX9_clearOthers (g := 3) (p := 25) (N := 16) (g2 := 3) (p2 := 26) rfl rfl (by decide) rfl rfl (by decide) g20.1 ?_
  refine xB.run oX9_clearOthers 3 (s := (12, [some (.ref 3096), some (.int (zI col)), some (.ref (1024 * 3 + (26 + ((s3 25 (s3 24 6).toNat).toNat)))), none, none, none, none, none, none, none], [.int (zI col), .ref (1024 * 3 + (26 + ((s3 25 (s3 24 6).toNat).toNat)))], [r0, r1, r2, zH s3 zL3 0, r4, r5, r6, r7, r8, r9])) rfl ?_
  obtain ⟨g19, H⟩ := zgd H
  refine zB.lald oX9_clearOthers (g := 3) (p := 26 + (s3 25 (s3 24 6).toNat).toNat) (N := 8) (i := col) rfl rfl (by omega) rfl (zg_3_26 _ (by omega)) (by decide) g19.2 ?_
  refine xB.run oX9_clearOthers 3 (s := (17, [some (.ref 3096), some (.int (zI col)), some (.ref (1024 * 3 + (26 + ((s3 25 (s3 24 6).toNat).toNat)))), some (.long (zJ (s3 (26 + (s3 25 (s3 24 6).toNat).toNat) col.toNat))), none, some (.int (zI 0)), none, none, none, none], [], [r0, r1, r2, zH s3 zL3 0, r4, r5, r6, r7, r8, r9])) rfl ?_
  obtain ⟨y17, e18, H⟩ := zbd H
  refine l_X9g_clearOthers_17 r0 r1 r2 r4 r5 r6 r7 r8 r9 col (s3 25 (s3 24 6).toNat) (s3 (26 + (s3 25 (s3 24 6).toNat).toNat) col.toNat) _ 0 s3 e18 ?_
  obtain rfl := Option.some.inj H
  exact xB.ret oX9_clearOthers (r1 := none) rfl rfl rfl
def d_X9g_clearColumns_2 (lead : Int) : Nat → Int → zZ → Option (Int × zZ)
  | 0, _, _ => none
  | uN + 1, col, s3 => if (zr col ∧ zr lead) then (if lead ≤ col then some (col, s3) else (if (zr col ∧ zr (s3 24 5)) then (if (s3 24 5) ≤ col then some (col, s3) else (if (zr (s3 24 6) ∧ zr (s3 24 4)) then (if (s3 24 4) ≤ (s3 24 6) then some (col, s3) else ((d_X9g_rowToLead s3 col).bind fun y4 => if (zr y4) then (if y4 < 0 then (d_X9g_clearColumns_2 lead uN (col + 1) s3) else (if ((0 ≤ y4 ∧ y4 < 16) ∧ 0 ≤ s3 25 y4.toNat ∧ s3 25 y4.toNat < 16) then (if ((0 ≤ (s3 24 6) ∧ (s3 24 6) < 16) ∧ 0 ≤ s3 25 (s3 24 6).toNat ∧ s3 25 (s3 24 6).toNat < 16) then (if (((s3 25 (s3 24 6).toNat).toNat < 16) ∧ 0 ≤ y4 ∧ y4 < 16) then (if (((s3 25 y4.toNat).toNat < 16) ∧ 0 ≤ ((upz s3 25 y4.toNat (((s3 25 (s3 24 6).toNat).toNat : Nat) : Int)) 24 6) ∧ ((upz s3 25 y4.toNat (((s3 25 (s3 24 6).toNat).toNat : Nat) : Int)) 24 6) < 16) then ((d_X9g_clearOthers (upz (upz s3 25 y4.toNat (((s3 25 (s3 24 6).toNat).toNat : Nat) : Int)) 25 ((upz s3 25 y4.toNat (((s3 25 (s3 24 6).toNat).toNat : Nat) : Int)) 24 6).toNat (((s3 25 y4.toNat).toNat : Nat) : Int)) col).bind fun y7 => if (((s3 25 y4.toNat).toNat < 16) ∧ (0 ≤ col ∧ col < 8)) then (if (0 ≤ col ∧ col < 8) then (d_X9g_clearColumns_2 lead uN (col + 1) (upz (upz (upz y7 24 7 (y7 (26 + (s3 25 y4.toNat).toNat) col.toNat)) 42 col.toNat ((upz y7 24 7 (y7 (26 + (s3 25 y4.toNat).toNat) col.toNat)) 24 6)) 24 6 (((upz (upz y7 24 7 (y7 (26 + (s3 25 y4.toNat).toNat) col.toNat)) 42 col.toNat ((upz y7 24 7 (y7 (26 + (s3 25 y4.toNat).toNat) col.toNat)) 24 6)) 24 6) + 1))) else none) else none) else none) else none) else none) else none)) else none)) else none)) else none)) else none
def d_X9g_clearColumns (s3 : zZ) (lead : Int) : Option (zZ) := (d_X9g_clearColumns_2 lead zF 0 s3).bind fun y19 => some y19.2
set_option maxRecDepth 20000 in
theorem l_X9g_clearColumns_2 (r0 : List va_E) (r1 : List va_E) (r2 : List va_E) (r4 : List va_E) (r5 : List va_E) (r6 : List va_E) (r7 : List va_E) (r8 : List va_E) (r9 : List va_E) (lead : Int) {r : Option Value} {hp1 : xH} : ∀ (uN : Nat) (col : Int) (s3 : zZ) {uX : Int × zZ}, d_X9g_clearColumns_2 lead uN col s3 = some uX → (xBody MX9_clearColumns 1 109 [some (.ref 3096), some (.int (zI lead)), some (.int (zI uX.1)), none, none] [] ([r0, r1, r2, zH uX.2 zL3 0, r4, r5, r6, r7, r8, r9]) r hp1) → xBody MX9_clearColumns 1 2 [some (.ref 3096), some (.int (zI lead)), some (.int (zI col)), none, none] [] ([r0, r1, r2, zH s3 zL3 0, r4, r5, r6, r7, r8, r9]) r hp1 := by
  intro uN
  induction uN with
  | zero => intro col s3 uX H K; cases H
  | succ uN ih =>
    intro col s3 uX H K
    unfold d_X9g_clearColumns_2 at H
    refine xB.run oX9_clearColumns 2 (s := (4, [some (.ref 3096), some (.int (zI lead)), some (.int (zI col)), none, none], [.int (zI lead), .int (zI col)], [r0, r1, r2, zH s3 zL3 0, r4, r5, r6, r7, r8, r9])) rfl ?_
    obtain ⟨g18, H⟩ := zgd H
    have H := zif H
    refine xB.brE oX9_clearColumns (P := lead ≤ col) rfl (zc_ge (a := col) (b := lead) g18) (fun h1 => ?_) (fun h1 => ?_)
    · have H := H.1 h1
      obtain rfl := Option.some.inj H
      exact K
    · have H := H.2 h1
      refine xB.run oX9_clearColumns 3 (s := (12, [some (.ref 3096), some (.int (zI lead)), some (.int (zI col)), none, none], [.int (zI (s3 24 5)), .int (zI col)], [r0, r1, r2, zH s3 zL3 0, r4, r5, r6, r7, r8, r9])) rfl ?_
      obtain ⟨g17, H⟩ := zgd H
      have H := zif H
      refine xB.brE oX9_clearColumns (P := (s3 24 5) ≤ col) rfl (zc_ge (a := col) (b := s3 24 5) g17) (fun h2 => ?_) (fun h2 => ?_)
      · have H := H.1 h2
        obtain rfl := Option.some.inj H
        exact K
      · have H := H.2 h2
        refine xB.run oX9_clearColumns 4 (s := (23, [some (.ref 3096), some (.int (zI lead)), some (.int (zI col)), none, none], [.int (zI (s3 24 4)), .int (zI (s3 24 6))], [r0, r1, r2, zH s3 zL3 0, r4, r5, r6, r7, r8, r9])) rfl ?_
        obtain ⟨g16, H⟩ := zgd H
        have H := zif H
        refine xB.brE oX9_clearColumns (P := (s3 24 4) ≤ (s3 24 6)) rfl (zc_ge (a := s3 24 6) (b := s3 24 4) g16) (fun h3 => ?_) (fun h3 => ?_)
        · have H := H.1 h3
          obtain rfl := Option.some.inj H
          exact K
        · have H := H.2 h3
          refine xB.run oX9_clearColumns 2 (s := (28, [some (.ref 3096), some (.int (zI lead)), some (.int (zI col)), none, none], [.int (zI col), .ref 3096], [r0, r1, r2, zH s3 zL3 0, r4, r5, r6, r7, r8, r9])) rfl ?_
          obtain ⟨y4, e5, H⟩ := zbd H
          refine xB.call oX9_clearColumns (M2 := MX9_rowToLead) rfl rfl ((t_X9g_rowToLead r0 r1 r2 s3 r4 r5 r6 r7 r8 r9 col e5).deep (by decide : 0 ≤ 0)) ?_
          show xBody MX9_clearColumns 1 31 [some (.ref 3096), some (.int (zI lead)), some (.int (zI col)), none, none] [.int (zI y4)] ([r0, r1, r2, zH s3 zL3 0, r4, r5, r6, r7, r8, r9]) _ _
          refine xB.run oX9_clearColumns 2 (s := (33, [some (.ref 3096), some (.int (zI lead)), some (.int (zI col)), some (.int (zI y4)), none], [.int (zI y4)], [r0, r1, r2, zH s3 zL3 0, r4, r5, r6, r7, r8, r9])) rfl ?_
          obtain ⟨g15, H⟩ := zgd H
          have H := zif H
          refine xB.brE oX9_clearColumns (P := y4 < 0) rfl (zc_lt (a := y4) (b := 0) ⟨g15, by decide⟩) (fun h6 => ?_) (fun h6 => ?_)
          · have H := H.1 h6
            refine zB.inc oX9_clearColumns rfl (lv2 := [some (.ref 3096), some (.int (zI lead)), some (.int (zI (col + 1))), some (.int (zI y4)), none]) (zi_inc (a := 0) (zi_addp1 col) _ rfl) ?_
            refine xB.run oX9_clearColumns 1 (s := (2, [some (.ref 3096), some (.int (zI lead)), some (.int (zI (col + 1))), some (.int (zI y4)), none], [], [r0, r1, r2, zH s3 zL3 0, r4, r5, r6, r7, r8, r9])) rfl ?_
            refine xB.forget (lv1 := [some (.ref 3096), some (.int (zI lead)), some (.int (zI (col + 1))), none, none]) (xle_same (xle_same (xle_same (xle_none (xle_same (xle_nil)))))) ?_
            exact ih (col + 1) s3 H K
          · have H := H.2 h6
            refine xB.run oX9_clearColumns 3 (s := (41, [some (.ref 3096), some (.int (zI lead)), some (.int (zI col)), some (.int (zI y4)), none], [.int (zI y4), .ref 3097], [r0, r1, r2, zH s3 zL3 0, r4, r5, r6, r7, r8, r9])) rfl ?_
            obtain ⟨g14, H⟩ := zgd H
            refine zB.aaldP oX9_clearColumns (g := 3) (p := 25) (N := 16) (g2 := 3) (p2 := 26) rfl rfl (by decide) rfl rfl (by decide) g14.1 ?_
            refine xB.run oX9_clearColumns 8 (s := (57, [some (.ref 3096), some (.int (zI lead)), some (.int (zI col)), some (.int (zI y4)), some (.ref (1024 * 3 + (26 + ((s3 25 y4.toNat).toNat))))], [.int (zI (s3 24 6)), .ref 3097, .int (zI y4), .ref 3097], [r0, r1, r2, zH s3 zL3 0, r4, r5, r6, r7, r8, r9])) rfl ?_
            obtain ⟨g13, H⟩ := zgd H
            refine zB.aaldP oX9_clearColumns (g := 3) (p := 25) (N := 16) (g2 := 3) (p2 := 26) rfl rfl (by decide) rfl rfl (by decide) g13.1 ?_
            obtain ⟨g12, H⟩ := zgd H
            refine zB.aastP oX9_clearColumns (g := 3) (p := 25) (N := 16) (g2 := 3) (p2 := 26) (i := y4) (q := (s3 25 (s3 24 6).toNat).toNat) (hp1 := [r0, r1, r2, zH (upz s3 25 y4.toNat (((s3 25 (s3 24 6).toNat).toNat : Nat) : Int)) zL3 0, r4, r5, r6, r7, r8, r9]) rfl rfl (by decide) (by decide) rfl rfl (by decide) g12.2 (by omega) rfl (zg_3_26 _ g12.1) rfl ?_
            refine xB.run oX9_clearColumns 5 (s := (69, [some (.ref 3096), some (.int (zI lead)), some (.int (zI col)), some (.int (zI y4)), some (.ref (1024 * 3 + (26 + ((s3 25 y4.toNat).toNat))))], [.ref (1024 * 3 + (26 + ((s3 25 y4.toNat).toNat))), .int (zI ((upz s3 25 y4.toNat (((s3 25 (s3 24 6).toNat).toNat : Nat) : Int)) 24 6)), .ref 3097], [r0, r1, r2, zH (upz s3 25 y4.toNat (((s3 25 (s3 24 6).toNat).toNat : Nat) : Int)) zL3 0, r4, r5, r6, r7, r8, r9])) rfl ?_
            obtain ⟨g11, H⟩ := zgd H
            refine zB.aastP oX9_clearColumns (g := 3) (p := 25) (N := 16) (g2 := 3) (p2 := 26) (i := (upz s3 25 y4.toNat (((s3 25 (s3 24 6).toNat).toNat : Nat) : Int)) 24 6) (q := (s3 25 y4.toNat).toNat) (hp1 := [r0, r1, r2, zH (upz (upz s3 25 y4.toNat (((s3 25 (s3 24 6).toNat).toNat : Nat) : Int)) 25 ((upz s3 25 y4.toNat (((s3 25 (s3 24 6).toNat).toNat : Nat) : Int)) 24 6).toNat (((s3 25 y4.toNat).toNat : Nat) : Int)) zL3 0, r4, r5, r6, r7, r8, r9]) rfl rfl (by decide) (by decide) rfl rfl (by decide) g11.2 (by omega) rfl (zg_3_26 _ g11.1) rfl ?_
            refine xB.run oX9_clearColumns 2 (s := (72, [some (.ref 3096), some (.int (zI lead)), some (.int (zI col)), some (.int (zI y4)), some (.ref (1024 * 3 + (26 + ((s3 25 y4.toNat).toNat))))], [.int (zI col), .ref 3096], [r0, r1, r2, zH (upz (upz s3 25 y4.toNat (((s3 25 (s3 24 6).toNat).toNat : Nat) : Int)) 25 ((upz s3 25 y4.toNat (((s3 25 (s3 24 6).toNat).toNat : Nat) : Int)) 24 6).toNat (((s3 25 y4.toNat).toNat : Nat) : Int)) zL3 0, r4, r5, r6, r7, r8, r9])) rfl ?_
            obtain ⟨y7, e8, H⟩ := zbd H
            refine xB.call oX9_clearColumns (M2 := MX9_clearOthers) rfl rfl ((t_X9g_clearOthers r0 r1 r2 (upz (upz s3 25 y4.toNat (((s3 25 (s3 24 6).toNat).toNat : Nat) : Int)) 25 ((upz s3 25 y4.toNat (((s3 25 (s3 24 6).toNat).toNat : Nat) : Int)) 24 6).toNat (((s3 25 y4.toNat).toNat : Nat) : Int)) r4 r5 r6 r7 r8 r9 col e8).deep (by decide : 0 ≤ 0)) ?_
            show xBody MX9_clearColumns 1 75 [some (.ref 3096), some (.int (zI lead)), some (.int (zI col)), some (.int (zI y4)), some (.ref (1024 * 3 + (26 + ((s3 25 y4.toNat).toNat))))] [] ([r0, r1, r2, zH y7 zL3 0, r4, r5, r6, r7, r8, r9]) _ _
            refine xB.run oX9_clearColumns 3 (s := (79, [some (.ref 3096), some (.int (zI lead)), some (.int (zI col)), some (.int (zI y4)), some (.ref (1024 * 3 + (26 + ((s3 25 y4.toNat).toNat))))], [.int (zI col), .ref (1024 * 3 + (26 + ((s3 25 y4.toNat).toNat))), .ref 3096], [r0, r1, r2, zH y7 zL3 0, r4, r5, r6, r7, r8, r9])) rfl ?_
            obtain ⟨g10, H⟩ := zgd H
            refine zB.lald oX9_clearColumns (g := 3) (p := 26 + (s3 25 y4.toNat).toNat) (N := 8) (i := col) rfl rfl (by omega) rfl (zg_3_26 _ (by omega)) (by decide) g10.2 ?_
            refine zB.putL oX9_clearColumns (g := 3) (p := 24) (c := 9) (k := 7) (y := 0) (hp1 := [r0, r1, r2, zH (upz y7 24 7 (y7 (26 + (s3 25 y4.toNat).toNat) col.toNat)) zL3 0, r4, r5, r6, r7, r8, r9]) rfl rfl (by decide) (by decide) rfl rfl rfl rfl rfl rfl ?_
            refine xB.run oX9_clearColumns 5 (s := (92, [some (.ref 3096), some (.int (zI lead)), some (.int (zI col)), some (.int (zI y4)), some (.ref (1024 * 3 + (26 + ((s3 25 y4.toNat).toNat))))], [.int (zI ((upz y7 24 7 (y7 (26 + (s3 25 y4.toNat).toNat) col.toNat)) 24 6)), .int (zI col), .ref 3114], [r0, r1, r2, zH (upz y7 24 7 (y7 (26 + (s3 25 y4.toNat).toNat) col.toNat)) zL3 0, r4, r5, r6, r7, r8, r9])) rfl ?_
            obtain ⟨g9, H⟩ := zgd H
            refine zB.iast oX9_clearColumns (g := 3) (p := 42) (N := 8) (i := col) (hp1 := [r0, r1, r2, zH (upz (upz y7 24 7 (y7 (26 + (s3 25 y4.toNat).toNat) col.toNat)) 42 col.toNat ((upz y7 24 7 (y7 (26 + (s3 25 y4.toNat).toNat) col.toNat)) 24 6)) zL3 0, r4, r5, r6, r7, r8, r9]) rfl rfl (by decide) (by decide) rfl rfl (by decide) g9 rfl ?_
            refine xB.run oX9_clearColumns 4 (s := (99, [some (.ref 3096), some (.int (zI lead)), some (.int (zI col)), some (.int (zI y4)), some (.ref (1024 * 3 + (26 + ((s3 25 y4.toNat).toNat))))], [.int (zI 1), .int (zI ((upz (upz y7 24 7 (y7 (26 + (s3 25 y4.toNat).toNat) col.toNat)) 42 col.toNat ((upz y7 24 7 (y7 (26 + (s3 25 y4.toNat).toNat) col.toNat)) 24 6)) 24 6)), .ref 3096], [r0, r1, r2, zH (upz (upz y7 24 7 (y7 (26 + (s3 25 y4.toNat).toNat) col.toNat)) 42 col.toNat ((upz y7 24 7 (y7 (26 + (s3 25 y4.toNat).toNat) col.toNat)) 24 6)) zL3 0, r4, r5, r6, r7, r8, r9])) rfl ?_
            refine zB.opi oX9_clearColumns rfl (zi_add ((upz (upz y7 24 7 (y7 (26 + (s3 25 y4.toNat).toNat) col.toNat)) 42 col.toNat ((upz y7 24 7 (y7 (26 + (s3 25 y4.toNat).toNat) col.toNat)) 24 6)) 24 6) 1) ?_
            refine zB.putI oX9_clearColumns (g := 3) (p := 24) (c := 9) (k := 6) (y := 0) (hp1 := [r0, r1, r2, zH (upz (upz (upz y7 24 7 (y7 (26 + (s3 25 y4.toNat).toNat) col.toNat)) 42 col.toNat ((upz y7 24 7 (y7 (26 + (s3 25 y4.toNat).toNat) col.toNat)) 24 6)) 24 6 (((upz (upz y7 24 7 (y7 (26 + (s3 25 y4.toNat).toNat) col.toNat)) 42 col.toNat ((upz y7 24 7 (y7 (26 + (s3 25 y4.toNat).toNat) col.toNat)) 24 6)) 24 6) + 1)) zL3 0, r4, r5, r6, r7, r8, r9]) rfl rfl (by decide) (by decide) rfl rfl rfl rfl rfl rfl ?_
            refine zB.inc oX9_clearColumns rfl (lv2 := [some (.ref 3096), some (.int (zI lead)), some (.int (zI (col + 1))), some (.int (zI y4)), some (.ref (1024 * 3 + (26 + ((s3 25 y4.toNat).toNat))))]) (zi_inc (a := 0) (zi_addp1 col) _ rfl) ?_
            refine xB.run oX9_clearColumns 1 (s := (2, [some (.ref 3096), some (.int (zI lead)), some (.int (zI (col + 1))), some (.int (zI y4)), some (.ref (1024 * 3 + (26 + ((s3 25 y4.toNat).toNat))))], [], [r0, r1, r2, zH (upz (upz (upz y7 24 7 (y7 (26 + (s3 25 y4.toNat).toNat) col.toNat)) 42 col.toNat ((upz y7 24 7 (y7 (26 + (s3 25 y4.toNat).toNat) col.toNat)) 24 6)) 24 6 (((upz (upz y7 24 7 (y7 (26 + (s3 25 y4.toNat).toNat) col.toNat)) 42 col.toNat ((upz y7 24 7 (y7 (26 + (s3 25 y4.toNat).toNat) col.toNat)) 24 6)) 24 6) + 1)) zL3 0, r4, r5, r6, r7, r8, r9])) rfl ?_
            refine xB.forget (lv1 := [some (.ref 3096), some (.int (zI lead)), some (.int (zI (col + 1))), none, none]) (xle_same (xle_same (xle_same (xle_none (xle_none (xle_nil)))))) ?_
            exact ih (col + 1) (upz (upz (upz y7 24 7 (y7 (26 + (s3 25 y4.toNat).toNat) col.toNat)) 42 col.toNat ((upz y7 24 7 (y7 (26 + (s3 25 y4.toNat).toNat) col.toNat)) 24 6)) 24 6 (((upz (upz y7 24 7 (y7 (26 + (s3 25 y4.toNat).toNat) col.toNat)) 42 col.toNat ((upz y7 24 7 (y7 (26 + (s3 25 y4.toNat).toNat) col.toNat)) 24 6)) 24 6) + 1)) H K
set_option maxRecDepth 20000 in
theorem t_X9g_clearColumns (r0 : List va_E) (r1 : List va_E) (r2 : List va_E) (s3 : zZ) (r4 : List va_E) (r5 : List va_E) (r6 : List va_E) (r7 : List va_E) (r8 : List va_E) (r9 : List va_E) (lead : Int) {rr : zZ} (H : d_X9g_clearColumns s3 lead = some rr) : xC MX9_clearColumns 1 [.ref 3096, .int (zI lead)] ([r0, r1, r2, zH s3 zL3 0, r4, r5, r6, r7, r8, r9]) (none) ([r0, r1, r2, zH rr zL3 0, r4, r5, r6, r7, r8, r9]) := by
  refine ⟨Nat.le_of_ble_eq_true rfl, ?_⟩
  show xBody MX9_clearColumns 1 0 [some (.ref 3096), some (.int (zI lead)), none, none, none] [] ([r0, r1, r2, zH s3 zL3 0, r4, r5, r6, r7, r8, r9]) _ _
  unfold d_X9g_clearColumns at H
  refine xB.run oX9_clearColumns 2 (s := (2, [some (.ref 3096), some (.int (zI lead)), some (.int (zI 0)), none, none], [], [r0, r1, r2, zH s3 zL3 0, r4, r5, r6, r7, r8, r9])) rfl ?_
  obtain ⟨y19, e20, H⟩ := zbd H
  refine l_X9g_clearColumns_2 r0 r1 r2 r4 r5 r6 r7 r8 r9 lead _ 0 s3 e20 ?_
  obtain rfl := Option.some.inj H
  exact xB.ret oX9_clearColumns (r1 := none) rfl rfl rfl
