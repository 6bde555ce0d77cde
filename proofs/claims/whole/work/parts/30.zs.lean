/-! 30.zs -/
def d_X6_begin (s6 : zZ) (k : Int) (lane : Int) (n : Int) : Option (zZ) := (d_X6_isSheet k).bind fun y1 => if (zr y1) then (if y1 = 0 then some s6 else (if (zr n) then (if n < 0 then some s6 else (if (zr n) then (if (60 : Int) < n then some s6 else (if (0 ≤ k ∧ k < 4) then (if (k.toNat < 4) then (if (0 ≤ k ∧ k < 4) then (if (0 ≤ k ∧ k < 4) then some (upz (upz (zfl s6 (2 + k.toNat) 60 0) 6 k.toNat lane) 7 k.toNat n) else none) else none) else none) else none)) else none)) else none)) else none
set_option maxRecDepth 20000 in
theorem t_X6_begin (r0 : List va_E) (r1 : List va_E) (r2 : List va_E) (r3 : List va_E) (r4 : List va_E) (r5 : List va_E) (s6 : zZ) (r7 : List va_E) (r8 : List va_E) (r9 : List va_E) (k : Int) (lane : Int) (n : Int) {rr : zZ} (H : d_X6_begin s6 k lane n = some rr) : xC MX6_begin 1 [.ref 6144, .int (zI k), .int (zI lane), .int (zI n)] ([r0, r1, r2, r3, r4, r5, zH s6 zL6 0, r7, r8, r9]) (none) ([r0, r1, r2, r3, r4, r5, zH rr zL6 0, r7, r8, r9]) := by
  refine ⟨Nat.le_of_ble_eq_true rfl, ?_⟩
  show xBody MX6_begin 1 0 [some (.ref 6144), some (.int (zI k)), some (.int (zI lane)), some (.int (zI n))] [] ([r0, r1, r2, r3, r4, r5, zH s6 zL6 0, r7, r8, r9]) _ _
  unfold d_X6_begin at H
  refine xB.run oX6_begin 1 (s := (1, [some (.ref 6144), some (.int (zI k)), some (.int (zI lane)), some (.int (zI n))], [.int (zI k)], [r0, r1, r2, r3, r4, r5, zH s6 zL6 0, r7, r8, r9])) rfl ?_
  obtain ⟨y1, e2, H⟩ := zbd H
  refine xB.call oX6_begin (M2 := MX6_isSheet) rfl rfl ((t_X6_isSheet r0 r1 r2 r3 r4 r5 (zH s6 zL6 0) r7 r8 r9 k e2).deep (by decide : 0 ≤ 0)) ?_
  show xBody MX6_begin 1 4 [some (.ref 6144), some (.int (zI k)), some (.int (zI lane)), some (.int (zI n))] [.int (zI y1)] ([r0, r1, r2, r3, r4, r5, zH s6 zL6 0, r7, r8, r9]) _ _
  obtain ⟨g12, H⟩ := zgd H
  have H := zif H
  refine xB.brE oX6_begin (P := y1 = 0) rfl (zc_eq (a := y1) (b := 0) ⟨g12, by decide⟩) (fun h3 => ?_) (fun h3 => ?_)
  · have H := H.1 h3
    obtain rfl := Option.some.inj H
    exact xB.ret oX6_begin (r1 := none) rfl rfl rfl
  · have H := H.2 h3
    refine xB.run oX6_begin 1 (s := (8, [some (.ref 6144), some (.int (zI k)), some (.int (zI lane)), some (.int (zI n))], [.int (zI n)], [r0, r1, r2, r3, r4, r5, zH s6 zL6 0, r7, r8, r9])) rfl ?_
    obtain ⟨g11, H⟩ := zgd H
    have H := zif H
    refine xB.brE oX6_begin (P := n < 0) rfl (zc_lt (a := n) (b := 0) ⟨g11, by decide⟩) (fun h4 => ?_) (fun h4 => ?_)
    · have H := H.1 h4
      obtain rfl := Option.some.inj H
      exact xB.ret oX6_begin (r1 := none) rfl rfl rfl
    · have H := H.2 h4
      refine xB.run oX6_begin 2 (s := (14, [some (.ref 6144), some (.int (zI k)), some (.int (zI lane)), some (.int (zI n))], [.int (zI 60), .int (zI n)], [r0, r1, r2, r3, r4, r5, zH s6 zL6 0, r7, r8, r9])) rfl ?_
      obtain ⟨g10, H⟩ := zgd H
      have H := zif H
      refine xB.brE oX6_begin (P := (60 : Int) < n) rfl (zc_gt (a := n) (b := 60) ⟨g10, by decide⟩) (fun h5 => ?_) (fun h5 => ?_)
      · have H := H.1 h5
        obtain rfl := Option.some.inj H
        exact xB.ret oX6_begin (r1 := none) rfl rfl rfl
      · have H := H.2 h5
        refine xB.run oX6_begin 3 (s := (22, [some (.ref 6144), some (.int (zI k)), some (.int (zI lane)), some (.int (zI n))], [.int (zI k), .ref 6145], [r0, r1, r2, r3, r4, r5, zH s6 zL6 0, r7, r8, r9])) rfl ?_
        obtain ⟨g9, H⟩ := zgd H
        refine zB.aaldG oX6_begin (g := 6) (p := 1) (N := 4) (c := 3) (g2 := 6) (p2 := 2) rfl rfl (by decide) rfl rfl (by decide) (by decide) g9 ?_
        refine xB.run oX6_begin 1 (s := (24, [some (.ref 6144), some (.int (zI k)), some (.int (zI lane)), some (.int (zI n))], [.int (zI 0), .ref (1024 * 6 + (2 + k.toNat))], [r0, r1, r2, r3, r4, r5, zH s6 zL6 0, r7, r8, r9])) rfl ?_
        obtain ⟨g8, H⟩ := zgd H
        refine xB.call oX6_begin (M2 := MJ7_fill_53178) rfl rfl ((zfillI (hp := [r0, r1, r2, r3, r4, r5, zH s6 zL6 0, r7, r8, r9]) (g := 6) (p := 2 + k.toNat) (N := 60) (L := zL6) 0 rfl (by omega) (by decide) rfl (zg_6_2 _ (by omega)) (by decide)).deep (Nat.zero_le 0)) ?_
        show xBody MX6_begin 1 27 [some (.ref 6144), some (.int (zI k)), some (.int (zI lane)), some (.int (zI n))] [] ([r0, r1, r2, r3, r4, r5, zH (zfl s6 (2 + k.toNat) 60 0) zL6 0, r7, r8, r9]) _ _
        refine xB.run oX6_begin 4 (s := (33, [some (.ref 6144), some (.int (zI k)), some (.int (zI lane)), some (.int (zI n))], [.int (zI lane), .int (zI k), .ref 6150], [r0, r1, r2, r3, r4, r5, zH (zfl s6 (2 + k.toNat) 60 0) zL6 0, r7, r8, r9])) rfl ?_
        obtain ⟨g7, H⟩ := zgd H
        refine zB.iast oX6_begin (g := 6) (p := 6) (N := 4) (i := k) (hp1 := [r0, r1, r2, r3, r4, r5, zH (upz (zfl s6 (2 + k.toNat) 60 0) 6 k.toNat lane) zL6 0, r7, r8, r9]) rfl rfl (by decide) (by decide) rfl rfl (by decide) g7 rfl ?_
        refine xB.run oX6_begin 4 (s := (40, [some (.ref 6144), some (.int (zI k)), some (.int (zI lane)), some (.int (zI n))], [.int (zI n), .int (zI k), .ref 6151], [r0, r1, r2, r3, r4, r5, zH (upz (zfl s6 (2 + k.toNat) 60 0) 6 k.toNat lane) zL6 0, r7, r8, r9])) rfl ?_
        obtain ⟨g6, H⟩ := zgd H
        refine zB.iast oX6_begin (g := 6) (p := 7) (N := 4) (i := k) (hp1 := [r0, r1, r2, r3, r4, r5, zH (upz (upz (zfl s6 (2 + k.toNat) 60 0) 6 k.toNat lane) 7 k.toNat n) zL6 0, r7, r8, r9]) rfl rfl (by decide) (by decide) rfl rfl (by decide) g6 rfl ?_
        obtain rfl := Option.some.inj H
        exact xB.ret oX6_begin (r1 := none) rfl rfl rfl
def d_X6_drop (s6 : zZ) (k : Int) : Option (Int × zZ) := (d_X6_isSheet k).bind fun y1 => if (zr y1) then (if y1 = 0 then some (0, s6) else (if (0 ≤ k ∧ k < 4) then (if (zr (s6 7 k.toNat)) then (if (s6 7 k.toNat) ≠ (-1) then (if (0 ≤ k ∧ k < 4) then some (1, upz s6 7 k.toNat (-1)) else none) else some (0, s6)) else none) else none)) else none
set_option maxRecDepth 20000 in
theorem t_X6_drop (r0 : List va_E) (r1 : List va_E) (r2 : List va_E) (r3 : List va_E) (r4 : List va_E) (r5 : List va_E) (s6 : zZ) (r7 : List va_E) (r8 : List va_E) (r9 : List va_E) (k : Int) {rr : Int × zZ} (H : d_X6_drop s6 k = some rr) : xC MX6_drop 1 [.ref 6144, .int (zI k)] ([r0, r1, r2, r3, r4, r5, zH s6 zL6 0, r7, r8, r9]) (some (.int (zI rr.1))) ([r0, r1, r2, r3, r4, r5, zH rr.2 zL6 0, r7, r8, r9]) := by
  refine ⟨Nat.le_of_ble_eq_true rfl, ?_⟩
  show xBody MX6_drop 1 0 [some (.ref 6144), some (.int (zI k))] [] ([r0, r1, r2, r3, r4, r5, zH s6 zL6 0, r7, r8, r9]) _ _
  unfold d_X6_drop at H
  refine xB.run oX6_drop 1 (s := (1, [some (.ref 6144), some (.int (zI k))], [.int (zI k)], [r0, r1, r2, r3, r4, r5, zH s6 zL6 0, r7, r8, r9])) rfl ?_
  obtain ⟨y1, e2, H⟩ := zbd H
  refine xB.call oX6_drop (M2 := MX6_isSheet) rfl rfl ((t_X6_isSheet r0 r1 r2 r3 r4 r5 (zH s6 zL6 0) r7 r8 r9 k e2).deep (by decide : 0 ≤ 0)) ?_
  show xBody MX6_drop 1 4 [some (.ref 6144), some (.int (zI k))] [.int (zI y1)] ([r0, r1, r2, r3, r4, r5, zH s6 zL6 0, r7, r8, r9]) _ _
  obtain ⟨g8, H⟩ := zgd H
  have H := zif H
  refine xB.brE oX6_drop (P := y1 = 0) rfl (zc_eq (a := y1) (b := 0) ⟨g8, by decide⟩) (fun h3 => ?_) (fun h3 => ?_)
  · have H := H.1 h3
    refine xB.run oX6_drop 1 (s := (18, [some (.ref 6144), some (.int (zI k))], [.int (zI 0)], [r0, r1, r2, r3, r4, r5, zH s6 zL6 0, r7, r8, r9])) rfl ?_
    obtain rfl := Option.some.inj H
    exact xB.ret oX6_drop (r1 := some (.int (zI 0))) rfl rfl rfl
  · have H := H.2 h3
    refine xB.run oX6_drop 3 (s := (12, [some (.ref 6144), some (.int (zI k))], [.int (zI k), .ref 6151], [r0, r1, r2, r3, r4, r5, zH s6 zL6 0, r7, r8, r9])) rfl ?_
    obtain ⟨g7, H⟩ := zgd H
    refine zB.iald oX6_drop (g := 6) (p := 7) (N := 4) (i := k) rfl rfl (by decide) rfl rfl (by decide) g7 ?_
    refine xB.run oX6_drop 1 (s := (14, [some (.ref 6144), some (.int (zI k))], [.int (zI (-1)), .int (zI (s6 7 k.toNat))], [r0, r1, r2, r3, r4, r5, zH s6 zL6 0, r7, r8, r9])) rfl ?_
    obtain ⟨g6, H⟩ := zgd H
    have H := zif H
    refine xB.brE oX6_drop (P := (s6 7 k.toNat) ≠ (-1)) rfl (zc_ne (a := s6 7 k.toNat) (b := (-1)) ⟨g6, by decide⟩) (fun h4 => ?_) (fun h4 => ?_)
    · have H := H.1 h4
      refine xB.run oX6_drop 4 (s := (25, [some (.ref 6144), some (.int (zI k))], [.int (zI (-1)), .int (zI k), .ref 6151], [r0, r1, r2, r3, r4, r5, zH s6 zL6 0, r7, r8, r9])) rfl ?_
      obtain ⟨g5, H⟩ := zgd H
      refine zB.iast oX6_drop (g := 6) (p := 7) (N := 4) (i := k) (hp1 := [r0, r1, r2, r3, r4, r5, zH (upz s6 7 k.toNat (-1)) zL6 0, r7, r8, r9]) rfl rfl (by decide) (by decide) rfl rfl (by decide) g5 rfl ?_
      refine xB.run oX6_drop 1 (s := (27, [some (.ref 6144), some (.int (zI k))], [.int (zI 1)], [r0, r1, r2, r3, r4, r5, zH (upz s6 7 k.toNat (-1)) zL6 0, r7, r8, r9])) rfl ?_
      obtain rfl := Option.some.inj H
      exact xB.ret oX6_drop (r1 := some (.int (zI 1))) rfl rfl rfl
    · have H := H.2 h4
      refine xB.run oX6_drop 1 (s := (18, [some (.ref 6144), some (.int (zI k))], [.int (zI 0)], [r0, r1, r2, r3, r4, r5, zH s6 zL6 0, r7, r8, r9])) rfl ?_
      obtain rfl := Option.some.inj H
      exact xB.ret oX6_drop (r1 := some (.int (zI 0))) rfl rfl rfl
def d_X6_isOtherLane (s6 : zZ) (k : Int) (lane : Int) : Option (Int) := (d_X6_isSheet k).bind fun y1 => if (zr y1) then (if y1 = 0 then some 0 else (if (0 ≤ k ∧ k < 4) then (if (zr (s6 7 k.toNat)) then (if (s6 7 k.toNat) = (-1) then some 0 else (if (0 ≤ k ∧ k < 4) then (if (zr (s6 6 k.toNat) ∧ zr lane) then (if (s6 6 k.toNat) = lane then some 0 else some 1) else none) else none)) else none) else none)) else none
set_option maxRecDepth 20000 in
theorem t_X6_isOtherLane (r0 : List va_E) (r1 : List va_E) (r2 : List va_E) (r3 : List va_E) (r4 : List va_E) (r5 : List va_E) (s6 : zZ) (r7 : List va_E) (r8 : List va_E) (r9 : List va_E) (k : Int) (lane : Int) {rr : Int} (H : d_X6_isOtherLane s6 k lane = some rr) : xC MX6_isOtherLane 1 [.ref 6144, .int (zI k), .int (zI lane)] ([r0, r1, r2, r3, r4, r5, zH s6 zL6 0, r7, r8, r9]) (some (.int (zI rr))) ([r0, r1, r2, r3, r4, r5, zH s6 zL6 0, r7, r8, r9]) := by
  refine ⟨Nat.le_of_ble_eq_true rfl, ?_⟩
  show xBody MX6_isOtherLane 1 0 [some (.ref 6144), some (.int (zI k)), some (.int (zI lane))] [] ([r0, r1, r2, r3, r4, r5, zH s6 zL6 0, r7, r8, r9]) _ _
  unfold d_X6_isOtherLane at H
  refine xB.run oX6_isOtherLane 1 (s := (1, [some (.ref 6144), some (.int (zI k)), some (.int (zI lane))], [.int (zI k)], [r0, r1, r2, r3, r4, r5, zH s6 zL6 0, r7, r8, r9])) rfl ?_
  obtain ⟨y1, e2, H⟩ := zbd H
  refine xB.call oX6_isOtherLane (M2 := MX6_isSheet) rfl rfl ((t_X6_isSheet r0 r1 r2 r3 r4 r5 (zH s6 zL6 0) r7 r8 r9 k e2).deep (by decide : 0 ≤ 0)) ?_
  show xBody MX6_isOtherLane 1 4 [some (.ref 6144), some (.int (zI k)), some (.int (zI lane))] [.int (zI y1)] ([r0, r1, r2, r3, r4, r5, zH s6 zL6 0, r7, r8, r9]) _ _
  obtain ⟨g10, H⟩ := zgd H
  have H := zif H
  refine xB.brE oX6_isOtherLane (P := y1 = 0) rfl (zc_eq (a := y1) (b := 0) ⟨g10, by decide⟩) (fun h3 => ?_) (fun h3 => ?_)
  · have H := H.1 h3
    refine xB.run oX6_isOtherLane 1 (s := (32, [some (.ref 6144), some (.int (zI k)), some (.int (zI lane))], [.int (zI 0)], [r0, r1, r2, r3, r4, r5, zH s6 zL6 0, r7, r8, r9])) rfl ?_
    obtain rfl := Option.some.inj H
    exact xB.ret oX6_isOtherLane (r1 := some (.int (zI 0))) rfl rfl rfl
  · have H := H.2 h3
    refine xB.run oX6_isOtherLane 3 (s := (12, [some (.ref 6144), some (.int (zI k)), some (.int (zI lane))], [.int (zI k), .ref 6151], [r0, r1, r2, r3, r4, r5, zH s6 zL6 0, r7, r8, r9])) rfl ?_
    obtain ⟨g9, H⟩ := zgd H
    refine zB.iald oX6_isOtherLane (g := 6) (p := 7) (N := 4) (i := k) rfl rfl (by decide) rfl rfl (by decide) g9 ?_
    refine xB.run oX6_isOtherLane 1 (s := (14, [some (.ref 6144), some (.int (zI k)), some (.int (zI lane))], [.int (zI (-1)), .int (zI (s6 7 k.toNat))], [r0, r1, r2, r3, r4, r5, zH s6 zL6 0, r7, r8, r9])) rfl ?_
    obtain ⟨g8, H⟩ := zgd H
    have H := zif H
    refine xB.brE oX6_isOtherLane (P := (s6 7 k.toNat) = (-1)) rfl (zc_eq (a := s6 7 k.toNat) (b := (-1)) ⟨g8, by decide⟩) (fun h4 => ?_) (fun h4 => ?_)
    · have H := H.1 h4
      refine xB.run oX6_isOtherLane 1 (s := (32, [some (.ref 6144), some (.int (zI k)), some (.int (zI lane))], [.int (zI 0)], [r0, r1, r2, r3, r4, r5, zH s6 zL6 0, r7, r8, r9])) rfl ?_
      obtain rfl := Option.some.inj H
      exact xB.ret oX6_isOtherLane (r1 := some (.int (zI 0))) rfl rfl rfl
    · have H := H.2 h4
      refine xB.run oX6_isOtherLane 3 (s := (22, [some (.ref 6144), some (.int (zI k)), some (.int (zI lane))], [.int (zI k), .ref 6150], [r0, r1, r2, r3, r4, r5, zH s6 zL6 0, r7, r8, r9])) rfl ?_
      obtain ⟨g7, H⟩ := zgd H
      refine zB.iald oX6_isOtherLane (g := 6) (p := 6) (N := 4) (i := k) rfl rfl (by decide) rfl rfl (by decide) g7 ?_
      refine xB.run oX6_isOtherLane 1 (s := (24, [some (.ref 6144), some (.int (zI k)), some (.int (zI lane))], [.int (zI lane), .int (zI (s6 6 k.toNat))], [r0, r1, r2, r3, r4, r5, zH s6 zL6 0, r7, r8, r9])) rfl ?_
      obtain ⟨g6, H⟩ := zgd H
      have H := zif H
      refine xB.brE oX6_isOtherLane (P := (s6 6 k.toNat) = lane) rfl (zc_eq (a := s6 6 k.toNat) (b := lane) g6) (fun h5 => ?_) (fun h5 => ?_)
      · have H := H.1 h5
        refine xB.run oX6_isOtherLane 1 (s := (32, [some (.ref 6144), some (.int (zI k)), some (.int (zI lane))], [.int (zI 0)], [r0, r1, r2, r3, r4, r5, zH s6 zL6 0, r7, r8, r9])) rfl ?_
        obtain rfl := Option.some.inj H
        exact xB.ret oX6_isOtherLane (r1 := some (.int (zI 0))) rfl rfl rfl
      · have H := H.2 h5
        refine xB.run oX6_isOtherLane 2 (s := (32, [some (.ref 6144), some (.int (zI k)), some (.int (zI lane))], [.int (zI 1)], [r0, r1, r2, r3, r4, r5, zH s6 zL6 0, r7, r8, r9])) rfl ?_
        obtain rfl := Option.some.inj H
        exact xB.ret oX6_isOtherLane (r1 := some (.int (zI 1))) rfl rfl rfl
def d_X6_faultOfCell (s6 : zZ) (k : Int) (i : Int) : Option (Int) := (d_X6_isSheet k).bind fun y1 => if (zr y1) then (if y1 = 0 then some 1 else (if (0 ≤ k ∧ k < 4) then (if (zr (s6 7 k.toNat)) then (if (s6 7 k.toNat) ≠ (-1) then (if (zr i) then (if i < 0 then some 3 else (if (0 ≤ k ∧ k < 4) then (if (zr i ∧ zr (s6 7 k.toNat)) then (if i < (s6 7 k.toNat) then some 0 else some 3) else none) else none)) else none) else some 1) else none) else none)) else none
set_option maxRecDepth 20000 in
theorem t_X6_faultOfCell (r0 : List va_E) (r1 : List va_E) (r2 : List va_E) (r3 : List va_E) (r4 : List va_E) (r5 : List va_E) (s6 : zZ) (r7 : List va_E) (r8 : List va_E) (r9 : List va_E) (k : Int) (i : Int) {rr : Int} (H : d_X6_faultOfCell s6 k i = some rr) : xC MX6_faultOfCell 1 [.ref 6144, .int (zI k), .int (zI i)] ([r0, r1, r2, r3, r4, r5, zH s6 zL6 0, r7, r8, r9]) (some (.int (zI rr))) ([r0, r1, r2, r3, r4, r5, zH s6 zL6 0, r7, r8, r9]) := by
  refine ⟨Nat.le_of_ble_eq_true rfl, ?_⟩
  show xBody MX6_faultOfCell 1 0 [some (.ref 6144), some (.int (zI k)), some (.int (zI i))] [] ([r0, r1, r2, r3, r4, r5, zH s6 zL6 0, r7, r8, r9]) _ _
  unfold d_X6_faultOfCell at H
  refine xB.run oX6_faultOfCell 1 (s := (1, [some (.ref 6144), some (.int (zI k)), some (.int (zI i))], [.int (zI k)], [r0, r1, r2, r3, r4, r5, zH s6 zL6 0, r7, r8, r9])) rfl ?_
  obtain ⟨y1, e2, H⟩ := zbd H
  refine xB.call oX6_faultOfCell (M2 := MX6_isSheet) rfl rfl ((t_X6_isSheet r0 r1 r2 r3 r4 r5 (zH s6 zL6 0) r7 r8 r9 k e2).deep (by decide : 0 ≤ 0)) ?_
  show xBody MX6_faultOfCell 1 4 [some (.ref 6144), some (.int (zI k)), some (.int (zI i))] [.int (zI y1)] ([r0, r1, r2, r3, r4, r5, zH s6 zL6 0, r7, r8, r9]) _ _
  obtain ⟨g12, H⟩ := zgd H
  have H := zif H
  refine xB.brE oX6_faultOfCell (P := y1 = 0) rfl (zc_eq (a := y1) (b := 0) ⟨g12, by decide⟩) (fun h3 => ?_) (fun h3 => ?_)
  · have H := H.1 h3
    refine xB.run oX6_faultOfCell 1 (s := (18, [some (.ref 6144), some (.int (zI k)), some (.int (zI i))], [.int (zI 1)], [r0, r1, r2, r3, r4, r5, zH s6 zL6 0, r7, r8, r9])) rfl ?_
    obtain rfl := Option.some.inj H
    exact xB.ret oX6_faultOfCell (r1 := some (.int (zI 1))) rfl rfl rfl
  · have H := H.2 h3
    refine xB.run oX6_faultOfCell 3 (s := (12, [some (.ref 6144), some (.int (zI k)), some (.int (zI i))], [.int (zI k), .ref 6151], [r0, r1, r2, r3, r4, r5, zH s6 zL6 0, r7, r8, r9])) rfl ?_
    obtain ⟨g11, H⟩ := zgd H
    refine zB.iald oX6_faultOfCell (g := 6) (p := 7) (N := 4) (i := k) rfl rfl (by decide) rfl rfl (by decide) g11 ?_
    refine xB.run oX6_faultOfCell 1 (s := (14, [some (.ref 6144), some (.int (zI k)), some (.int (zI i))], [.int (zI (-1)), .int (zI (s6 7 k.toNat))], [r0, r1, r2, r3, r4, r5, zH s6 zL6 0, r7, r8, r9])) rfl ?_
    obtain ⟨g10, H⟩ := zgd H
    have H := zif H
    refine xB.brE oX6_faultOfCell (P := (s6 7 k.toNat) ≠ (-1)) rfl (zc_ne (a := s6 7 k.toNat) (b := (-1)) ⟨g10, by decide⟩) (fun h4 => ?_) (fun h4 => ?_)
    · have H := H.1 h4
      refine xB.run oX6_faultOfCell 1 (s := (20, [some (.ref 6144), some (.int (zI k)), some (.int (zI i))], [.int (zI i)], [r0, r1, r2, r3, r4, r5, zH s6 zL6 0, r7, r8, r9])) rfl ?_
      obtain ⟨g9, H⟩ := zgd H
      have H := zif H
      refine xB.brE oX6_faultOfCell (P := i < 0) rfl (zc_lt (a := i) (b := 0) ⟨g9, by decide⟩) (fun h5 => ?_) (fun h5 => ?_)
      · have H := H.1 h5
        refine xB.run oX6_faultOfCell 2 (s := (38, [some (.ref 6144), some (.int (zI k)), some (.int (zI i))], [.int (zI 3)], [r0, r1, r2, r3, r4, r5, zH s6 zL6 0, r7, r8, r9])) rfl ?_
        obtain rfl := Option.some.inj H
        exact xB.ret oX6_faultOfCell (r1 := some (.int (zI 3))) rfl rfl rfl
      · have H := H.2 h5
        refine xB.run oX6_faultOfCell 4 (s := (29, [some (.ref 6144), some (.int (zI k)), some (.int (zI i))], [.int (zI k), .ref 6151, .int (zI i)], [r0, r1, r2, r3, r4, r5, zH s6 zL6 0, r7, r8, r9])) rfl ?_
        obtain ⟨g8, H⟩ := zgd H
        refine zB.iald oX6_faultOfCell (g := 6) (p := 7) (N := 4) (i := k) rfl rfl (by decide) rfl rfl (by decide) g8 ?_
        obtain ⟨g7, H⟩ := zgd H
        have H := zif H
        refine xB.brE oX6_faultOfCell (P := i < (s6 7 k.toNat)) rfl (zc_lt (a := i) (b := s6 7 k.toNat) g7) (fun h6 => ?_) (fun h6 => ?_)
        · have H := H.1 h6
          refine xB.run oX6_faultOfCell 1 (s := (38, [some (.ref 6144), some (.int (zI k)), some (.int (zI i))], [.int (zI 0)], [r0, r1, r2, r3, r4, r5, zH s6 zL6 0, r7, r8, r9])) rfl ?_
          obtain rfl := Option.some.inj H
          exact xB.ret oX6_faultOfCell (r1 := some (.int (zI 0))) rfl rfl rfl
        · have H := H.2 h6
          refine xB.run oX6_faultOfCell 2 (s := (38, [some (.ref 6144), some (.int (zI k)), some (.int (zI i))], [.int (zI 3)], [r0, r1, r2, r3, r4, r5, zH s6 zL6 0, r7, r8, r9])) rfl ?_
          obtain rfl := Option.some.inj H
          exact xB.ret oX6_faultOfCell (r1 := some (.int (zI 3))) rfl rfl rfl
    · have H := H.2 h4
      refine xB.run oX6_faultOfCell 1 (s := (18, [some (.ref 6144), some (.int (zI k)), some (.int (zI i))], [.int (zI 1)], [r0, r1, r2, r3, r4, r5, zH s6 zL6 0, r7, r8, r9])) rfl ?_
      obtain rfl := Option.some.inj H
      exact xB.ret oX6_faultOfCell (r1 := some (.int (zI 1))) rfl rfl rfl
def d_X6_faultOfCells (s6 : zZ) (k : Int) (lane : Int) (i : Int) (n : Int) : Option (Int) := (d_X6_isOtherLane s6 k lane).bind fun y1 => if (zr y1) then (if y1 = 0 then ((d_X6_isSheet k).bind fun y4 => if (zr y4) then (if y4 = 0 then some 1 else (if (0 ≤ k ∧ k < 4) then (if (zr (s6 7 k.toNat)) then (if (s6 7 k.toNat) ≠ (-1) then (if (zr n) then (if (0 : Int) ≤ n then (if (zr i) then (if i < 0 then some 3 else (if (0 ≤ k ∧ k < 4) then (if (zr i ∧ zr (s6 7 k.toNat)) then (if (s6 7 k.toNat) < i then some 3 else (if (0 ≤ k ∧ k < 4) then (if (zr n ∧ zr ((s6 7 k.toNat) - i)) then (if n ≤ ((s6 7 k.toNat) - i) then some 0 else some 3) else none) else none)) else none) else none)) else none) else some 4) else none) else some 1) else none) else none)) else none) else some 2) else none
set_option maxRecDepth 20000 in
theorem t_X6_faultOfCells (r0 : List va_E) (r1 : List va_E) (r2 : List va_E) (r3 : List va_E) (r4 : List va_E) (r5 : List va_E) (s6 : zZ) (r7 : List va_E) (r8 : List va_E) (r9 : List va_E) (k : Int) (lane : Int) (i : Int) (n : Int) {rr : Int} (H : d_X6_faultOfCells s6 k lane i n = some rr) : xC MX6_faultOfCells 2 [.ref 6144, .int (zI k), .int (zI lane), .int (zI i), .int (zI n)] ([r0, r1, r2, r3, r4, r5, zH s6 zL6 0, r7, r8, r9]) (some (.int (zI rr))) ([r0, r1, r2, r3, r4, r5, zH s6 zL6 0, r7, r8, r9]) := by
  refine ⟨Nat.le_of_ble_eq_true rfl, ?_⟩
  show xBody MX6_faultOfCells 2 0 [some (.ref 6144), some (.int (zI k)), some (.int (zI lane)), some (.int (zI i)), some (.int (zI n))] [] ([r0, r1, r2, r3, r4, r5, zH s6 zL6 0, r7, r8, r9]) _ _
  unfold d_X6_faultOfCells at H
  refine xB.run oX6_faultOfCells 3 (s := (3, [some (.ref 6144), some (.int (zI k)), some (.int (zI lane)), some (.int (zI i)), some (.int (zI n))], [.int (zI lane), .int (zI k), .ref 6144], [r0, r1, r2, r3, r4, r5, zH s6 zL6 0, r7, r8, r9])) rfl ?_
  obtain ⟨y1, e2, H⟩ := zbd H
  refine xB.call oX6_faultOfCells (M2 := MX6_isOtherLane) rfl rfl ((t_X6_isOtherLane r0 r1 r2 r3 r4 r5 s6 r7 r8 r9 k lane e2).deep (by decide : 1 ≤ 1)) ?_
  show xBody MX6_faultOfCells 2 6 [some (.ref 6144), some (.int (zI k)), some (.int (zI lane)), some (.int (zI i)), some (.int (zI n))] [.int (zI y1)] ([r0, r1, r2, r3, r4, r5, zH s6 zL6 0, r7, r8, r9]) _ _
  obtain ⟨g21, H⟩ := zgd H
  have H := zif H
  refine xB.brE oX6_faultOfCells (P := y1 = 0) rfl (zc_eq (a := y1) (b := 0) ⟨g21, by decide⟩) (fun h3 => ?_) (fun h3 => ?_)
  · have H := H.1 h3
    refine xB.run oX6_faultOfCells 1 (s := (12, [some (.ref 6144), some (.int (zI k)), some (.int (zI lane)), some (.int (zI i)), some (.int (zI n))], [.int (zI k)], [r0, r1, r2, r3, r4, r5, zH s6 zL6 0, r7, r8, r9])) rfl ?_
    obtain ⟨y4, e5, H⟩ := zbd H
    refine xB.call oX6_faultOfCells (M2 := MX6_isSheet) rfl rfl ((t_X6_isSheet r0 r1 r2 r3 r4 r5 (zH s6 zL6 0) r7 r8 r9 k e5).deep (by decide : 0 ≤ 1)) ?_
    show xBody MX6_faultOfCells 2 15 [some (.ref 6144), some (.int (zI k)), some (.int (zI lane)), some (.int (zI i)), some (.int (zI n))] [.int (zI y4)] ([r0, r1, r2, r3, r4, r5, zH s6 zL6 0, r7, r8, r9]) _ _
    obtain ⟨g20, H⟩ := zgd H
    have H := zif H
    refine xB.brE oX6_faultOfCells (P := y4 = 0) rfl (zc_eq (a := y4) (b := 0) ⟨g20, by decide⟩) (fun h6 => ?_) (fun h6 => ?_)
    · have H := H.1 h6
      refine xB.run oX6_faultOfCells 1 (s := (29, [some (.ref 6144), some (.int (zI k)), some (.int (zI lane)), some (.int (zI i)), some (.int (zI n))], [.int (zI 1)], [r0, r1, r2, r3, r4, r5, zH s6 zL6 0, r7, r8, r9])) rfl ?_
      obtain rfl := Option.some.inj H
      exact xB.ret oX6_faultOfCells (r1 := some (.int (zI 1))) rfl rfl rfl
    · have H := H.2 h6
      refine xB.run oX6_faultOfCells 3 (s := (23, [some (.ref 6144), some (.int (zI k)), some (.int (zI lane)), some (.int (zI i)), some (.int (zI n))], [.int (zI k), .ref 6151], [r0, r1, r2, r3, r4, r5, zH s6 zL6 0, r7, r8, r9])) rfl ?_
      obtain ⟨g19, H⟩ := zgd H
      refine zB.iald oX6_faultOfCells (g := 6) (p := 7) (N := 4) (i := k) rfl rfl (by decide) rfl rfl (by decide) g19 ?_
      refine xB.run oX6_faultOfCells 1 (s := (25, [some (.ref 6144), some (.int (zI k)), some (.int (zI lane)), some (.int (zI i)), some (.int (zI n))], [.int (zI (-1)), .int (zI (s6 7 k.toNat))], [r0, r1, r2, r3, r4, r5, zH s6 zL6 0, r7, r8, r9])) rfl ?_
      obtain ⟨g18, H⟩ := zgd H
      have H := zif H
      refine xB.brE oX6_faultOfCells (P := (s6 7 k.toNat) ≠ (-1)) rfl (zc_ne (a := s6 7 k.toNat) (b := (-1)) ⟨g18, by decide⟩) (fun h7 => ?_) (fun h7 => ?_)
      · have H := H.1 h7
        refine xB.run oX6_faultOfCells 1 (s := (32, [some (.ref 6144), some (.int (zI k)), some (.int (zI lane)), some (.int (zI i)), some (.int (zI n))], [.int (zI n)], [r0, r1, r2, r3, r4, r5, zH s6 zL6 0, r7, r8, r9])) rfl ?_
        obtain ⟨g17, H⟩ := zgd H
        have H := zif H
        refine xB.brE oX6_faultOfCells (P := (0 : Int) ≤ n) rfl (zc_ge (a := n) (b := 0) ⟨g17, by decide⟩) (fun h8 => ?_) (fun h8 => ?_)
        · have H := H.1 h8
          refine xB.run oX6_faultOfCells 1 (s := (38, [some (.ref 6144), some (.int (zI k)), some (.int (zI lane)), some (.int (zI i)), some (.int (zI n))], [.int (zI i)], [r0, r1, r2, r3, r4, r5, zH s6 zL6 0, r7, r8, r9])) rfl ?_
          obtain ⟨g16, H⟩ := zgd H
          have H := zif H
          refine xB.brE oX6_faultOfCells (P := i < 0) rfl (zc_lt (a := i) (b := 0) ⟨g16, by decide⟩) (fun h9 => ?_) (fun h9 => ?_)
          · have H := H.1 h9
            refine xB.run oX6_faultOfCells 2 (s := (69, [some (.ref 6144), some (.int (zI k)), some (.int (zI lane)), some (.int (zI i)), some (.int (zI n))], [.int (zI 3)], [r0, r1, r2, r3, r4, r5, zH s6 zL6 0, r7, r8, r9])) rfl ?_
            obtain rfl := Option.some.inj H
            exact xB.ret oX6_faultOfCells (r1 := some (.int (zI 3))) rfl rfl rfl
          · have H := H.2 h9
            refine xB.run oX6_faultOfCells 4 (s := (47, [some (.ref 6144), some (.int (zI k)), some (.int (zI lane)), some (.int (zI i)), some (.int (zI n))], [.int (zI k), .ref 6151, .int (zI i)], [r0, r1, r2, r3, r4, r5, zH s6 zL6 0, r7, r8, r9])) rfl ?_
            obtain ⟨g15, H⟩ := zgd H
            refine zB.iald oX6_faultOfCells (g := 6) (p := 7) (N := 4) (i := k) rfl rfl (by decide) rfl rfl (by decide) g15 ?_
            obtain ⟨g14, H⟩ := zgd H
            have H := zif H
            refine xB.brE oX6_faultOfCells (P := (s6 7 k.toNat) < i) rfl (zc_gt (a := i) (b := s6 7 k.toNat) g14) (fun h10 => ?_) (fun h10 => ?_)
            · have H := H.1 h10
              refine xB.run oX6_faultOfCells 2 (s := (69, [some (.ref 6144), some (.int (zI k)), some (.int (zI lane)), some (.int (zI i)), some (.int (zI n))], [.int (zI 3)], [r0, r1, r2, r3, r4, r5, zH s6 zL6 0, r7, r8, r9])) rfl ?_
              obtain rfl := Option.some.inj H
              exact xB.ret oX6_faultOfCells (r1 := some (.int (zI 3))) rfl rfl rfl
            · have H := H.2 h10
              refine xB.run oX6_faultOfCells 4 (s := (58, [some (.ref 6144), some (.int (zI k)), some (.int (zI lane)), some (.int (zI i)), some (.int (zI n))], [.int (zI k), .ref 6151, .int (zI n)], [r0, r1, r2, r3, r4, r5, zH s6 zL6 0, r7, r8, r9])) rfl ?_
              obtain ⟨g13, H⟩ := zgd H
              refine zB.iald oX6_faultOfCells (g := 6) (p := 7) (N := 4) (i := k) rfl rfl (by decide) rfl rfl (by decide) g13 ?_
              refine xB.run oX6_faultOfCells 1 (s := (60, [some (.ref 6144), some (.int (zI k)), some (.int (zI lane)), some (.int (zI i)), some (.int (zI n))], [.int (zI i), .int (zI (s6 7 k.toNat)), .int (zI n)], [r0, r1, r2, r3, r4, r5, zH s6 zL6 0, r7, r8, r9])) rfl ?_
              refine zB.opi oX6_faultOfCells rfl (zi_sub (s6 7 k.toNat) i) ?_
              obtain ⟨g12, H⟩ := zgd H
              have H := zif H
              refine xB.brE oX6_faultOfCells (P := n ≤ ((s6 7 k.toNat) - i)) rfl (zc_le (a := n) (b := (s6 7 k.toNat) - i) g12) (fun h11 => ?_) (fun h11 => ?_)
              · have H := H.1 h11
                refine xB.run oX6_faultOfCells 1 (s := (69, [some (.ref 6144), some (.int (zI k)), some (.int (zI lane)), some (.int (zI i)), some (.int (zI n))], [.int (zI 0)], [r0, r1, r2, r3, r4, r5, zH s6 zL6 0, r7, r8, r9])) rfl ?_
                obtain rfl := Option.some.inj H
                exact xB.ret oX6_faultOfCells (r1 := some (.int (zI 0))) rfl rfl rfl
              · have H := H.2 h11
                refine xB.run oX6_faultOfCells 2 (s := (69, [some (.ref 6144), some (.int (zI k)), some (.int (zI lane)), some (.int (zI i)), some (.int (zI n))], [.int (zI 3)], [r0, r1, r2, r3, r4, r5, zH s6 zL6 0, r7, r8, r9])) rfl ?_
                obtain rfl := Option.some.inj H
                exact xB.ret oX6_faultOfCells (r1 := some (.int (zI 3))) rfl rfl rfl
        · have H := H.2 h8
          refine xB.run oX6_faultOfCells 1 (s := (36, [some (.ref 6144), some (.int (zI k)), some (.int (zI lane)), some (.int (zI i)), some (.int (zI n))], [.int (zI 4)], [r0, r1, r2, r3, r4, r5, zH s6 zL6 0, r7, r8, r9])) rfl ?_
          obtain rfl := Option.some.inj H
          exact xB.ret oX6_faultOfCells (r1 := some (.int (zI 4))) rfl rfl rfl
      · have H := H.2 h7
        refine xB.run oX6_faultOfCells 1 (s := (29, [some (.ref 6144), some (.int (zI k)), some (.int (zI lane)), some (.int (zI i)), some (.int (zI n))], [.int (zI 1)], [r0, r1, r2, r3, r4, r5, zH s6 zL6 0, r7, r8, r9])) rfl ?_
        obtain rfl := Option.some.inj H
        exact xB.ret oX6_faultOfCells (r1 := some (.int (zI 1))) rfl rfl rfl
  · have H := H.2 h3
    refine xB.run oX6_faultOfCells 1 (s := (10, [some (.ref 6144), some (.int (zI k)), some (.int (zI lane)), some (.int (zI i)), some (.int (zI n))], [.int (zI 2)], [r0, r1, r2, r3, r4, r5, zH s6 zL6 0, r7, r8, r9])) rfl ?_
    obtain rfl := Option.some.inj H
    exact xB.ret oX6_faultOfCells (r1 := some (.int (zI 2))) rfl rfl rfl
def d_X6_write (s6 : zZ) (k : Int) (i : Int) (v : Int) : Option (zZ) := (d_X6_faultOfCell s6 k i).bind fun y1 => if (zr y1) then (if y1 ≠ 0 then some s6 else (if (0 ≤ k ∧ k < 4) then (if (0 ≤ k ∧ k < 4) then ((d_X6_cutToLane (s6 6 k.toNat) v).bind fun y4 => if ((k.toNat < 4) ∧ (0 ≤ i ∧ i < 60)) then some (upz s6 (2 + k.toNat) i.toNat y4) else none) else none) else none)) else none
set_option maxRecDepth 20000 in
theorem t_X6_write (r0 : List va_E) (r1 : List va_E) (r2 : List va_E) (r3 : List va_E) (r4 : List va_E) (r5 : List va_E) (s6 : zZ) (r7 : List va_E) (r8 : List va_E) (r9 : List va_E) (k : Int) (i : Int) (v : Int) {rr : zZ} (H : d_X6_write s6 k i v = some rr) : xC MX6_write 2 [.ref 6144, .int (zI k), .int (zI i), .int (zI v)] ([r0, r1, r2, r3, r4, r5, zH s6 zL6 0, r7, r8, r9]) (none) ([r0, r1, r2, r3, r4, r5, zH rr zL6 0, r7, r8, r9]) := by
  refine ⟨Nat.le_of_ble_eq_true rfl, ?_⟩
  show xBody MX6_write 2 0 [some (.ref 6144), some (.int (zI k)), some (.int (zI i)), some (.int (zI v))] [] ([r0, r1, r2, r3, r4, r5, zH s6 zL6 0, r7, r8, r9]) _ _
  unfold d_X6_write at H
  refine xB.run oX6_write 3 (s := (3, [some (.ref 6144), some (.int (zI k)), some (.int (zI i)), some (.int (zI v))], [.int (zI i), .int (zI k), .ref 6144], [r0, r1, r2, r3, r4, r5, zH s6 zL6 0, r7, r8, r9])) rfl ?_
  obtain ⟨y1, e2, H⟩ := zbd H
  refine xB.call oX6_write (M2 := MX6_faultOfCell) rfl rfl ((t_X6_faultOfCell r0 r1 r2 r3 r4 r5 s6 r7 r8 r9 k i e2).deep (by decide : 1 ≤ 1)) ?_
  show xBody MX6_write 2 6 [some (.ref 6144), some (.int (zI k)), some (.int (zI i)), some (.int (zI v))] [.int (zI y1)] ([r0, r1, r2, r3, r4, r5, zH s6 zL6 0, r7, r8, r9]) _ _
  obtain ⟨g9, H⟩ := zgd H
  have H := zif H
  refine xB.brE oX6_write (P := y1 ≠ 0) rfl (zc_ne (a := y1) (b := 0) ⟨g9, by decide⟩) (fun h3 => ?_) (fun h3 => ?_)
  · have H := H.1 h3
    obtain rfl := Option.some.inj H
    exact xB.ret oX6_write (r1 := none) rfl rfl rfl
  · have H := H.2 h3
    refine xB.run oX6_write 3 (s := (14, [some (.ref 6144), some (.int (zI k)), some (.int (zI i)), some (.int (zI v))], [.int (zI k), .ref 6145], [r0, r1, r2, r3, r4, r5, zH s6 zL6 0, r7, r8, r9])) rfl ?_
    obtain ⟨g8, H⟩ := zgd H
    refine zB.aaldG oX6_write (g := 6) (p := 1) (N := 4) (c := 3) (g2 := 6) (p2 := 2) rfl rfl (by decide) rfl rfl (by decide) (by decide) g8 ?_
    refine xB.run oX6_write 4 (s := (21, [some (.ref 6144), some (.int (zI k)), some (.int (zI i)), some (.int (zI v))], [.int (zI k), .ref 6150, .int (zI i), .ref (1024 * 6 + (2 + k.toNat))], [r0, r1, r2, r3, r4, r5, zH s6 zL6 0, r7, r8, r9])) rfl ?_
    obtain ⟨g7, H⟩ := zgd H
    refine zB.iald oX6_write (g := 6) (p := 6) (N := 4) (i := k) rfl rfl (by decide) rfl rfl (by decide) g7 ?_
    refine xB.run oX6_write 1 (s := (23, [some (.ref 6144), some (.int (zI k)), some (.int (zI i)), some (.int (zI v))], [.int (zI v), .int (zI (s6 6 k.toNat)), .int (zI i), .ref (1024 * 6 + (2 + k.toNat))], [r0, r1, r2, r3, r4, r5, zH s6 zL6 0, r7, r8, r9])) rfl ?_
    obtain ⟨y4, e5, H⟩ := zbd H
    refine xB.call oX6_write (M2 := MX6_cutToLane) rfl rfl ((t_X6_cutToLane r0 r1 r2 r3 r4 r5 (zH s6 zL6 0) r7 r8 r9 (s6 6 k.toNat) v e5).deep (by decide : 0 ≤ 1)) ?_
    show xBody MX6_write 2 26 [some (.ref 6144), some (.int (zI k)), some (.int (zI i)), some (.int (zI v))] [.int (zI y4), .int (zI i), .ref (1024 * 6 + (2 + k.toNat))] ([r0, r1, r2, r3, r4, r5, zH s6 zL6 0, r7, r8, r9]) _ _
    obtain ⟨g6, H⟩ := zgd H
    refine zB.iast oX6_write (g := 6) (p := 2 + k.toNat) (N := 60) (i := i) (hp1 := [r0, r1, r2, r3, r4, r5, zH (upz s6 (2 + k.toNat) i.toNat y4) zL6 0, r7, r8, r9]) rfl rfl (by omega) (by decide) rfl (zg_6_2 _ (by omega)) (by decide) g6.2 rfl ?_
    obtain rfl := Option.some.inj H
    exact xB.ret oX6_write (r1 := none) rfl rfl rfl
def d_X6_number (s6 : zZ) (k : Int) (i : Int) : Option (Int) := (d_X6_faultOfCell s6 k i).bind fun y1 => if (zr y1) then (if y1 ≠ 0 then some 0 else (if (0 ≤ k ∧ k < 4) then (if ((k.toNat < 4) ∧ (0 ≤ i ∧ i < 60)) then some (s6 (2 + k.toNat) i.toNat) else none) else none)) else none
set_option maxRecDepth 20000 in
theorem t_X6_number (r0 : List va_E) (r1 : List va_E) (r2 : List va_E) (r3 : List va_E) (r4 : List va_E) (r5 : List va_E) (s6 : zZ) (r7 : List va_E) (r8 : List va_E) (r9 : List va_E) (k : Int) (i : Int) {rr : Int} (H : d_X6_number s6 k i = some rr) : xC MX6_number 2 [.ref 6144, .int (zI k), .int (zI i)] ([r0, r1, r2, r3, r4, r5, zH s6 zL6 0, r7, r8, r9]) (some (.int (zI rr))) ([r0, r1, r2, r3, r4, r5, zH s6 zL6 0, r7, r8, r9]) := by
  refine ⟨Nat.le_of_ble_eq_true rfl, ?_⟩
  show xBody MX6_number 2 0 [some (.ref 6144), some (.int (zI k)), some (.int (zI i))] [] ([r0, r1, r2, r3, r4, r5, zH s6 zL6 0, r7, r8, r9]) _ _
  unfold d_X6_number at H
  refine xB.run oX6_number 3 (s := (3, [some (.ref 6144), some (.int (zI k)), some (.int (zI i))], [.int (zI i), .int (zI k), .ref 6144], [r0, r1, r2, r3, r4, r5, zH s6 zL6 0, r7, r8, r9])) rfl ?_
  obtain ⟨y1, e2, H⟩ := zbd H
  refine xB.call oX6_number (M2 := MX6_faultOfCell) rfl rfl ((t_X6_faultOfCell r0 r1 r2 r3 r4 r5 s6 r7 r8 r9 k i e2).deep (by decide : 1 ≤ 1)) ?_
  show xBody MX6_number 2 6 [some (.ref 6144), some (.int (zI k)), some (.int (zI i))] [.int (zI y1)] ([r0, r1, r2, r3, r4, r5, zH s6 zL6 0, r7, r8, r9]) _ _
  obtain ⟨g6, H⟩ := zgd H
  have H := zif H
  refine xB.brE oX6_number (P := y1 ≠ 0) rfl (zc_ne (a := y1) (b := 0) ⟨g6, by decide⟩) (fun h3 => ?_) (fun h3 => ?_)
  · have H := H.1 h3
    refine xB.run oX6_number 1 (s := (21, [some (.ref 6144), some (.int (zI k)), some (.int (zI i))], [.int (zI 0)], [r0, r1, r2, r3, r4, r5, zH s6 zL6 0, r7, r8, r9])) rfl ?_
    obtain rfl := Option.some.inj H
    exact xB.ret oX6_number (r1 := some (.int (zI 0))) rfl rfl rfl
  · have H := H.2 h3
    refine xB.run oX6_number 3 (s := (14, [some (.ref 6144), some (.int (zI k)), some (.int (zI i))], [.int (zI k), .ref 6145], [r0, r1, r2, r3, r4, r5, zH s6 zL6 0, r7, r8, r9])) rfl ?_
    obtain ⟨g5, H⟩ := zgd H
    refine zB.aaldG oX6_number (g := 6) (p := 1) (N := 4) (c := 3) (g2 := 6) (p2 := 2) rfl rfl (by decide) rfl rfl (by decide) (by decide) g5 ?_
    refine xB.run oX6_number 1 (s := (16, [some (.ref 6144), some (.int (zI k)), some (.int (zI i))], [.int (zI i), .ref (1024 * 6 + (2 + k.toNat))], [r0, r1, r2, r3, r4, r5, zH s6 zL6 0, r7, r8, r9])) rfl ?_
    obtain ⟨g4, H⟩ := zgd H
    refine zB.iald oX6_number (g := 6) (p := 2 + k.toNat) (N := 60) (i := i) rfl rfl (by omega) rfl (zg_6_2 _ (by omega)) (by decide) g4.2 ?_
    refine xB.run oX6_number 1 (s := (21, [some (.ref 6144), some (.int (zI k)), some (.int (zI i))], [.int (zI (s6 (2 + k.toNat) i.toNat))], [r0, r1, r2, r3, r4, r5, zH s6 zL6 0, r7, r8, r9])) rfl ?_
    obtain rfl := Option.some.inj H
    exact xB.ret oX6_number (r1 := some (.int (zI (s6 (2 + k.toNat) i.toNat)))) rfl rfl rfl
def d_X7_howMany (s5 : zZ) : Option (Int) := some (s5 0 3)
set_option maxRecDepth 20000 in
theorem t_X7_howMany (r0 : List va_E) (r1 : List va_E) (r2 : List va_E) (r3 : List va_E) (r4 : List va_E) (s5 : zZ) (r6 : List va_E) (r7 : List va_E) (r8 : List va_E) (r9 : List va_E) {rr : Int} (H : d_X7_howMany s5 = some rr) : xC MX7_howMany 0 [.ref 5120] ([r0, r1, r2, r3, r4, zH s5 zL5 0, r6, r7, r8, r9]) (some (.int (zI rr))) ([r0, r1, r2, r3, r4, zH s5 zL5 0, r6, r7, r8, r9]) := by
  refine ⟨Nat.le_of_ble_eq_true rfl, ?_⟩
  show xBody MX7_howMany 0 0 [some (.ref 5120)] [] ([r0, r1, r2, r3, r4, zH s5 zL5 0, r6, r7, r8, r9]) _ _
  unfold d_X7_howMany at H
  refine xB.run oX7_howMany 2 (s := (4, [some (.ref 5120)], [.int (zI (s5 0 3))], [r0, r1, r2, r3, r4, zH s5 zL5 0, r6, r7, r8, r9])) rfl ?_
  obtain rfl := Option.some.inj H
  exact xB.ret oX7_howMany (r1 := some (.int (zI (s5 0 3)))) rfl rfl rfl
def d_X7_isFull (s5 : zZ) : Option (Int) := if (zr (s5 0 3)) then (if (s5 0 3) < 12 then some 0 else some 1) else none
set_option maxRecDepth 20000 in
theorem t_X7_isFull (r0 : List va_E) (r1 : List va_E) (r2 : List va_E) (r3 : List va_E) (r4 : List va_E) (s5 : zZ) (r6 : List va_E) (r7 : List va_E) (r8 : List va_E) (r9 : List va_E) {rr : Int} (H : d_X7_isFull s5 = some rr) : xC MX7_isFull 0 [.ref 5120] ([r0, r1, r2, r3, r4, zH s5 zL5 0, r6, r7, r8, r9]) (some (.int (zI rr))) ([r0, r1, r2, r3, r4, zH s5 zL5 0, r6, r7, r8, r9]) := by
  refine ⟨Nat.le_of_ble_eq_true rfl, ?_⟩
  show xBody MX7_isFull 0 0 [some (.ref 5120)] [] ([r0, r1, r2, r3, r4, zH s5 zL5 0, r6, r7, r8, r9]) _ _
  unfold d_X7_isFull at H
  refine xB.run oX7_isFull 3 (s := (6, [some (.ref 5120)], [.int (zI 12), .int (zI (s5 0 3))], [r0, r1, r2, r3, r4, zH s5 zL5 0, r6, r7, r8, r9])) rfl ?_
  obtain ⟨g2, H⟩ := zgd H
  have H := zif H
  refine xB.brE oX7_isFull (P := (s5 0 3) < 12) rfl (zc_lt (a := s5 0 3) (b := 12) ⟨g2, by decide⟩) (fun h1 => ?_) (fun h1 => ?_)
  · have H := H.1 h1
    refine xB.run oX7_isFull 1 (s := (14, [some (.ref 5120)], [.int (zI 0)], [r0, r1, r2, r3, r4, zH s5 zL5 0, r6, r7, r8, r9])) rfl ?_
    obtain rfl := Option.some.inj H
    exact xB.ret oX7_isFull (r1 := some (.int (zI 0))) rfl rfl rfl
  · have H := H.2 h1
    refine xB.run oX7_isFull 2 (s := (14, [some (.ref 5120)], [.int (zI 1)], [r0, r1, r2, r3, r4, zH s5 zL5 0, r6, r7, r8, r9])) rfl ?_
    obtain rfl := Option.some.inj H
    exact xB.ret oX7_isFull (r1 := some (.int (zI 1))) rfl rfl rfl
def d_X7_isSight (s5 : zZ) (a : Int) : Option (Int) := if (zr a) then (if a < 0 then some 0 else (if (zr a ∧ zr (s5 0 3)) then (if (s5 0 3) ≤ a then some 0 else some 1) else none)) else none
set_option maxRecDepth 20000 in
theorem t_X7_isSight (r0 : List va_E) (r1 : List va_E) (r2 : List va_E) (r3 : List va_E) (r4 : List va_E) (s5 : zZ) (r6 : List va_E) (r7 : List va_E) (r8 : List va_E) (r9 : List va_E) (a : Int) {rr : Int} (H : d_X7_isSight s5 a = some rr) : xC MX7_isSight 0 [.ref 5120, .int (zI a)] ([r0, r1, r2, r3, r4, zH s5 zL5 0, r6, r7, r8, r9]) (some (.int (zI rr))) ([r0, r1, r2, r3, r4, zH s5 zL5 0, r6, r7, r8, r9]) := by
  refine ⟨Nat.le_of_ble_eq_true rfl, ?_⟩
  show xBody MX7_isSight 0 0 [some (.ref 5120), some (.int (zI a))] [] ([r0, r1, r2, r3, r4, zH s5 zL5 0, r6, r7, r8, r9]) _ _
  unfold d_X7_isSight at H
  refine xB.run oX7_isSight 1 (s := (1, [some (.ref 5120), some (.int (zI a))], [.int (zI a)], [r0, r1, r2, r3, r4, zH s5 zL5 0, r6, r7, r8, r9])) rfl ?_
  obtain ⟨g4, H⟩ := zgd H
  have H := zif H
  refine xB.brE oX7_isSight (P := a < 0) rfl (zc_lt (a := a) (b := 0) ⟨g4, by decide⟩) (fun h1 => ?_) (fun h1 => ?_)
  · have H := H.1 h1
    refine xB.run oX7_isSight 1 (s := (17, [some (.ref 5120), some (.int (zI a))], [.int (zI 0)], [r0, r1, r2, r3, r4, zH s5 zL5 0, r6, r7, r8, r9])) rfl ?_
    obtain rfl := Option.some.inj H
    exact xB.ret oX7_isSight (r1 := some (.int (zI 0))) rfl rfl rfl
  · have H := H.2 h1
    refine xB.run oX7_isSight 3 (s := (9, [some (.ref 5120), some (.int (zI a))], [.int (zI (s5 0 3)), .int (zI a)], [r0, r1, r2, r3, r4, zH s5 zL5 0, r6, r7, r8, r9])) rfl ?_
    obtain ⟨g3, H⟩ := zgd H
    have H := zif H
    refine xB.brE oX7_isSight (P := (s5 0 3) ≤ a) rfl (zc_ge (a := a) (b := s5 0 3) g3) (fun h2 => ?_) (fun h2 => ?_)
    · have H := H.1 h2
      refine xB.run oX7_isSight 1 (s := (17, [some (.ref 5120), some (.int (zI a))], [.int (zI 0)], [r0, r1, r2, r3, r4, zH s5 zL5 0, r6, r7, r8, r9])) rfl ?_
      obtain rfl := Option.some.inj H
      exact xB.ret oX7_isSight (r1 := some (.int (zI 0))) rfl rfl rfl
    · have H := H.2 h2
      refine xB.run oX7_isSight 2 (s := (17, [some (.ref 5120), some (.int (zI a))], [.int (zI 1)], [r0, r1, r2, r3, r4, zH s5 zL5 0, r6, r7, r8, r9])) rfl ?_
      obtain rfl := Option.some.inj H
      exact xB.ret oX7_isSight (r1 := some (.int (zI 1))) rfl rfl rfl
def d_X7_isSet (s5 : zZ) (set : Int) : Option (Int) := if (zr set) then (if set ≤ 0 then some 0 else (if (0 ≤ (s5 0 3) ∧ (s5 0 3) < 32) then (if (zr set ∧ zr ((2 : Int) ^ (s5 0 3).toNat)) then (if ((2 : Int) ^ (s5 0 3).toNat) ≤ set then some 0 else some 1) else none) else none)) else none
set_option maxRecDepth 20000 in
theorem t_X7_isSet (r0 : List va_E) (r1 : List va_E) (r2 : List va_E) (r3 : List va_E) (r4 : List va_E) (s5 : zZ) (r6 : List va_E) (r7 : List va_E) (r8 : List va_E) (r9 : List va_E) (set : Int) {rr : Int} (H : d_X7_isSet s5 set = some rr) : xC MX7_isSet 0 [.ref 5120, .int (zI set)] ([r0, r1, r2, r3, r4, zH s5 zL5 0, r6, r7, r8, r9]) (some (.int (zI rr))) ([r0, r1, r2, r3, r4, zH s5 zL5 0, r6, r7, r8, r9]) := by
  refine ⟨Nat.le_of_ble_eq_true rfl, ?_⟩
  show xBody MX7_isSet 0 0 [some (.ref 5120), some (.int (zI set))] [] ([r0, r1, r2, r3, r4, zH s5 zL5 0, r6, r7, r8, r9]) _ _
  unfold d_X7_isSet at H
  refine xB.run oX7_isSet 1 (s := (1, [some (.ref 5120), some (.int (zI set))], [.int (zI set)], [r0, r1, r2, r3, r4, zH s5 zL5 0, r6, r7, r8, r9])) rfl ?_
  obtain ⟨g5, H⟩ := zgd H
  have H := zif H
  refine xB.brE oX7_isSet (P := set ≤ 0) rfl (zc_le (a := set) (b := 0) ⟨g5, by decide⟩) (fun h1 => ?_) (fun h1 => ?_)
  · have H := H.1 h1
    refine xB.run oX7_isSet 1 (s := (19, [some (.ref 5120), some (.int (zI set))], [.int (zI 0)], [r0, r1, r2, r3, r4, zH s5 zL5 0, r6, r7, r8, r9])) rfl ?_
    obtain rfl := Option.some.inj H
    exact xB.ret oX7_isSet (r1 := some (.int (zI 0))) rfl rfl rfl
  · have H := H.2 h1
    refine xB.run oX7_isSet 4 (s := (10, [some (.ref 5120), some (.int (zI set))], [.int (zI (s5 0 3)), .int (zI 1), .int (zI set)], [r0, r1, r2, r3, r4, zH s5 zL5 0, r6, r7, r8, r9])) rfl ?_
    obtain ⟨g4, H⟩ := zgd H
    refine zB.opi oX7_isSet (y := (2 : Int) ^ (s5 0 3).toNat) rfl (zi_shl1 (c := s5 0 3) g4) ?_
    obtain ⟨g3, H⟩ := zgd H
    have H := zif H
    refine xB.brE oX7_isSet (P := ((2 : Int) ^ (s5 0 3).toNat) ≤ set) rfl (zc_ge (a := set) (b := (2 : Int) ^ (s5 0 3).toNat) g3) (fun h2 => ?_) (fun h2 => ?_)
    · have H := H.1 h2
      refine xB.run oX7_isSet 1 (s := (19, [some (.ref 5120), some (.int (zI set))], [.int (zI 0)], [r0, r1, r2, r3, r4, zH s5 zL5 0, r6, r7, r8, r9])) rfl ?_
      obtain rfl := Option.some.inj H
      exact xB.ret oX7_isSet (r1 := some (.int (zI 0))) rfl rfl rfl
    · have H := H.2 h2
      refine xB.run oX7_isSet 2 (s := (19, [some (.ref 5120), some (.int (zI set))], [.int (zI 1)], [r0, r1, r2, r3, r4, zH s5 zL5 0, r6, r7, r8, r9])) rfl ?_
      obtain rfl := Option.some.inj H
      exact xB.ret oX7_isSet (r1 := some (.int (zI 1))) rfl rfl rfl
def d_X7_addSight (s5 : zZ) (m : Int) (lo : Int) (hi : Int) : Option (Int × zZ) := (d_X7_isFull s5).bind fun y1 => if (zr y1) then (if y1 = 0 then (if (0 ≤ (s5 0 3) ∧ (s5 0 3) < 12) then (if (0 ≤ ((upz s5 1 (s5 0 3).toNat m) 0 3) ∧ ((upz s5 1 (s5 0 3).toNat m) 0 3) < 12) then (if (0 ≤ ((upz (upz s5 1 (s5 0 3).toNat m) 2 ((upz s5 1 (s5 0 3).toNat m) 0 3).toNat lo) 0 3) ∧ ((upz (upz s5 1 (s5 0 3).toNat m) 2 ((upz s5 1 (s5 0 3).toNat m) 0 3).toNat lo) 0 3) < 12) then some (((upz (upz (upz (upz s5 1 (s5 0 3).toNat m) 2 ((upz s5 1 (s5 0 3).toNat m) 0 3).toNat lo) 3 ((upz (upz s5 1 (s5 0 3).toNat m) 2 ((upz s5 1 (s5 0 3).toNat m) 0 3).toNat lo) 0 3).toNat hi) 0 3 (((upz (upz (upz s5 1 (s5 0 3).toNat m) 2 ((upz s5 1 (s5 0 3).toNat m) 0 3).toNat lo) 3 ((upz (upz s5 1 (s5 0 3).toNat m) 2 ((upz s5 1 (s5 0 3).toNat m) 0 3).toNat lo) 0 3).toNat hi) 0 3) + 1)) 0 3) - 1, upz (upz (upz (upz s5 1 (s5 0 3).toNat m) 2 ((upz s5 1 (s5 0 3).toNat m) 0 3).toNat lo) 3 ((upz (upz s5 1 (s5 0 3).toNat m) 2 ((upz s5 1 (s5 0 3).toNat m) 0 3).toNat lo) 0 3).toNat hi) 0 3 (((upz (upz (upz s5 1 (s5 0 3).toNat m) 2 ((upz s5 1 (s5 0 3).toNat m) 0 3).toNat lo) 3 ((upz (upz s5 1 (s5 0 3).toNat m) 2 ((upz s5 1 (s5 0 3).toNat m) 0 3).toNat lo) 0 3).toNat hi) 0 3) + 1)) else none) else none) else none) else some ((-4), s5)) else none
set_option maxRecDepth 20000 in
theorem t_X7_addSight (r0 : List va_E) (r1 : List va_E) (r2 : List va_E) (r3 : List va_E) (r4 : List va_E) (s5 : zZ) (r6 : List va_E) (r7 : List va_E) (r8 : List va_E) (r9 : List va_E) (m : Int) (lo : Int) (hi : Int) {rr : Int × zZ} (H : d_X7_addSight s5 m lo hi = some rr) : xC MX7_addSight 1 [.ref 5120, .int (zI m), .int (zI lo), .int (zI hi)] ([r0, r1, r2, r3, r4, zH s5 zL5 0, r6, r7, r8, r9]) (some (.int (zI rr.1))) ([r0, r1, r2, r3, r4, zH rr.2 zL5 0, r6, r7, r8, r9]) := by
  refine ⟨Nat.le_of_ble_eq_true rfl, ?_⟩
  show xBody MX7_addSight 1 0 [some (.ref 5120), some (.int (zI m)), some (.int (zI lo)), some (.int (zI hi))] [] ([r0, r1, r2, r3, r4, zH s5 zL5 0, r6, r7, r8, r9]) _ _
  unfold d_X7_addSight at H
  refine xB.run oX7_addSight 1 (s := (1, [some (.ref 5120), some (.int (zI m)), some (.int (zI lo)), some (.int (zI hi))], [.ref 5120], [r0, r1, r2, r3, r4, zH s5 zL5 0, r6, r7, r8, r9])) rfl ?_
  obtain ⟨y1, e2, H⟩ := zbd H
  refine xB.call oX7_addSight (M2 := MX7_isFull) rfl rfl ((t_X7_isFull r0 r1 r2 r3 r4 s5 r6 r7 r8 r9  e2).deep (by decide : 0 ≤ 0)) ?_
  show xBody MX7_addSight 1 4 [some (.ref 5120), some (.int (zI m)), some (.int (zI lo)), some (.int (zI hi))] [.int (zI y1)] ([r0, r1, r2, r3, r4, zH s5 zL5 0, r6, r7, r8, r9]) _ _
  obtain ⟨g7, H⟩ := zgd H
  have H := zif H
  refine xB.brE oX7_addSight (P := y1 = 0) rfl (zc_eq (a := y1) (b := 0) ⟨g7, by decide⟩) (fun h3 => ?_) (fun h3 => ?_)
  · have H := H.1 h3
    refine xB.run oX7_addSight 5 (s := (19, [some (.ref 5120), some (.int (zI m)), some (.int (zI lo)), some (.int (zI hi))], [.int (zI m), .int (zI (s5 0 3)), .ref 5121], [r0, r1, r2, r3, r4, zH s5 zL5 0, r6, r7, r8, r9])) rfl ?_
    obtain ⟨g6, H⟩ := zgd H
    refine zB.iast oX7_addSight (g := 5) (p := 1) (N := 12) (i := s5 0 3) (hp1 := [r0, r1, r2, r3, r4, zH (upz s5 1 (s5 0 3).toNat m) zL5 0, r6, r7, r8, r9]) rfl rfl (by decide) (by decide) rfl rfl (by decide) g6 rfl ?_
    refine xB.run oX7_addSight 5 (s := (29, [some (.ref 5120), some (.int (zI m)), some (.int (zI lo)), some (.int (zI hi))], [.int (zI lo), .int (zI ((upz s5 1 (s5 0 3).toNat m) 0 3)), .ref 5122], [r0, r1, r2, r3, r4, zH (upz s5 1 (s5 0 3).toNat m) zL5 0, r6, r7, r8, r9])) rfl ?_
    obtain ⟨g5, H⟩ := zgd H
    refine zB.iast oX7_addSight (g := 5) (p := 2) (N := 12) (i := (upz s5 1 (s5 0 3).toNat m) 0 3) (hp1 := [r0, r1, r2, r3, r4, zH (upz (upz s5 1 (s5 0 3).toNat m) 2 ((upz s5 1 (s5 0 3).toNat m) 0 3).toNat lo) zL5 0, r6, r7, r8, r9]) rfl rfl (by decide) (by decide) rfl rfl (by decide) g5 rfl ?_
    refine xB.run oX7_addSight 5 (s := (39, [some (.ref 5120), some (.int (zI m)), some (.int (zI lo)), some (.int (zI hi))], [.int (zI hi), .int (zI ((upz (upz s5 1 (s5 0 3).toNat m) 2 ((upz s5 1 (s5 0 3).toNat m) 0 3).toNat lo) 0 3)), .ref 5123], [r0, r1, r2, r3, r4, zH (upz (upz s5 1 (s5 0 3).toNat m) 2 ((upz s5 1 (s5 0 3).toNat m) 0 3).toNat lo) zL5 0, r6, r7, r8, r9])) rfl ?_
    obtain ⟨g4, H⟩ := zgd H
    refine zB.iast oX7_addSight (g := 5) (p := 3) (N := 12) (i := (upz (upz s5 1 (s5 0 3).toNat m) 2 ((upz s5 1 (s5 0 3).toNat m) 0 3).toNat lo) 0 3) (hp1 := [r0, r1, r2, r3, r4, zH (upz (upz (upz s5 1 (s5 0 3).toNat m) 2 ((upz s5 1 (s5 0 3).toNat m) 0 3).toNat lo) 3 ((upz (upz s5 1 (s5 0 3).toNat m) 2 ((upz s5 1 (s5 0 3).toNat m) 0 3).toNat lo) 0 3).toNat hi) zL5 0, r6, r7, r8, r9]) rfl rfl (by decide) (by decide) rfl rfl (by decide) g4 rfl ?_
    refine xB.run oX7_addSight 4 (s := (46, [some (.ref 5120), some (.int (zI m)), some (.int (zI lo)), some (.int (zI hi))], [.int (zI 1), .int (zI ((upz (upz (upz s5 1 (s5 0 3).toNat m) 2 ((upz s5 1 (s5 0 3).toNat m) 0 3).toNat lo) 3 ((upz (upz s5 1 (s5 0 3).toNat m) 2 ((upz s5 1 (s5 0 3).toNat m) 0 3).toNat lo) 0 3).toNat hi) 0 3)), .ref 5120], [r0, r1, r2, r3, r4, zH (upz (upz (upz s5 1 (s5 0 3).toNat m) 2 ((upz s5 1 (s5 0 3).toNat m) 0 3).toNat lo) 3 ((upz (upz s5 1 (s5 0 3).toNat m) 2 ((upz s5 1 (s5 0 3).toNat m) 0 3).toNat lo) 0 3).toNat hi) zL5 0, r6, r7, r8, r9])) rfl ?_
    refine zB.opi oX7_addSight rfl (zi_add ((upz (upz (upz s5 1 (s5 0 3).toNat m) 2 ((upz s5 1 (s5 0 3).toNat m) 0 3).toNat lo) 3 ((upz (upz s5 1 (s5 0 3).toNat m) 2 ((upz s5 1 (s5 0 3).toNat m) 0 3).toNat lo) 0 3).toNat hi) 0 3) 1) ?_
    refine zB.putI oX7_addSight (g := 5) (p := 0) (c := 7) (k := 3) (y := 0) (hp1 := [r0, r1, r2, r3, r4, zH (upz (upz (upz (upz s5 1 (s5 0 3).toNat m) 2 ((upz s5 1 (s5 0 3).toNat m) 0 3).toNat lo) 3 ((upz (upz s5 1 (s5 0 3).toNat m) 2 ((upz s5 1 (s5 0 3).toNat m) 0 3).toNat lo) 0 3).toNat hi) 0 3 (((upz (upz (upz s5 1 (s5 0 3).toNat m) 2 ((upz s5 1 (s5 0 3).toNat m) 0 3).toNat lo) 3 ((upz (upz s5 1 (s5 0 3).toNat m) 2 ((upz s5 1 (s5 0 3).toNat m) 0 3).toNat lo) 0 3).toNat hi) 0 3) + 1)) zL5 0, r6, r7, r8, r9]) rfl rfl (by decide) (by decide) rfl rfl rfl rfl rfl rfl ?_
    refine xB.run oX7_addSight 3 (s := (55, [some (.ref 5120), some (.int (zI m)), some (.int (zI lo)), some (.int (zI hi))], [.int (zI 1), .int (zI ((upz (upz (upz (upz s5 1 (s5 0 3).toNat m) 2 ((upz s5 1 (s5 0 3).toNat m) 0 3).toNat lo) 3 ((upz (upz s5 1 (s5 0 3).toNat m) 2 ((upz s5 1 (s5 0 3).toNat m) 0 3).toNat lo) 0 3).toNat hi) 0 3 (((upz (upz (upz s5 1 (s5 0 3).toNat m) 2 ((upz s5 1 (s5 0 3).toNat m) 0 3).toNat lo) 3 ((upz (upz s5 1 (s5 0 3).toNat m) 2 ((upz s5 1 (s5 0 3).toNat m) 0 3).toNat lo) 0 3).toNat hi) 0 3) + 1)) 0 3))], [r0, r1, r2, r3, r4, zH (upz (upz (upz (upz s5 1 (s5 0 3).toNat m) 2 ((upz s5 1 (s5 0 3).toNat m) 0 3).toNat lo) 3 ((upz (upz s5 1 (s5 0 3).toNat m) 2 ((upz s5 1 (s5 0 3).toNat m) 0 3).toNat lo) 0 3).toNat hi) 0 3 (((upz (upz (upz s5 1 (s5 0 3).toNat m) 2 ((upz s5 1 (s5 0 3).toNat m) 0 3).toNat lo) 3 ((upz (upz s5 1 (s5 0 3).toNat m) 2 ((upz s5 1 (s5 0 3).toNat m) 0 3).toNat lo) 0 3).toNat hi) 0 3) + 1)) zL5 0, r6, r7, r8, r9])) rfl ?_
    refine zB.opi oX7_addSight rfl (zi_sub ((upz (upz (upz (upz s5 1 (s5 0 3).toNat m) 2 ((upz s5 1 (s5 0 3).toNat m) 0 3).toNat lo) 3 ((upz (upz s5 1 (s5 0 3).toNat m) 2 ((upz s5 1 (s5 0 3).toNat m) 0 3).toNat lo) 0 3).toNat hi) 0 3 (((upz (upz (upz s5 1 (s5 0 3).toNat m) 2 ((upz s5 1 (s5 0 3).toNat m) 0 3).toNat lo) 3 ((upz (upz s5 1 (s5 0 3).toNat m) 2 ((upz s5 1 (s5 0 3).toNat m) 0 3).toNat lo) 0 3).toNat hi) 0 3) + 1)) 0 3) 1) ?_
    obtain rfl := Option.some.inj H
    exact xB.ret oX7_addSight (r1 := some (.int (zI (((upz (upz (upz (upz s5 1 (s5 0 3).toNat m) 2 ((upz s5 1 (s5 0 3).toNat m) 0 3).toNat lo) 3 ((upz (upz s5 1 (s5 0 3).toNat m) 2 ((upz s5 1 (s5 0 3).toNat m) 0 3).toNat lo) 0 3).toNat hi) 0 3 (((upz (upz (upz s5 1 (s5 0 3).toNat m) 2 ((upz s5 1 (s5 0 3).toNat m) 0 3).toNat lo) 3 ((upz (upz s5 1 (s5 0 3).toNat m) 2 ((upz s5 1 (s5 0 3).toNat m) 0 3).toNat lo) 0 3).toNat hi) 0 3) + 1)) 0 3) - 1)))) rfl rfl rfl
  · have H := H.2 h3
    refine xB.run oX7_addSight 1 (s := (9, [some (.ref 5120), some (.int (zI m)), some (.int (zI lo)), some (.int (zI hi))], [.int (zI (-4))], [r0, r1, r2, r3, r4, zH s5 zL5 0, r6, r7, r8, r9])) rfl ?_
    obtain rfl := Option.some.inj H
    exact xB.ret oX7_addSight (r1 := some (.int (zI (-4)))) rfl rfl rfl
def d_X7_greatestLow_4 (s5 : zZ) (set : Int) : Nat → Int → Int → Option (Int × Int)
  | 0, _, _ => none
  | uN + 1, best, a => if (zr a ∧ zr (s5 0 3)) then (if (s5 0 3) ≤ a then some (best, a) else (if (zr set ∧ (0 ≤ a ∧ a < 32)) then (if (zr ((set / (2 : Int) ^ a.toNat) % 2)) then (if ((set / (2 : Int) ^ a.toNat) % 2) ≠ 1 then (d_X7_greatestLow_4 s5 set uN best (a + 1)) else (if (zr best) then (if best < 0 then (d_X7_greatestLow_4 s5 set uN a (a + 1)) else (if (0 ≤ a ∧ a < 12) then (if (0 ≤ best ∧ best < 12) then (if (0 ≤ best ∧ best < 12) then (if (0 ≤ a ∧ a < 12) then (if (zr ((s5 2 a.toNat) * (s5 1 best.toNat)) ∧ zr ((s5 2 best.toNat) * (s5 1 a.toNat))) then (if ((s5 2 a.toNat) * (s5 1 best.toNat)) ≤ ((s5 2 best.toNat) * (s5 1 a.toNat)) then (d_X7_greatestLow_4 s5 set uN best (a + 1)) else (d_X7_greatestLow_4 s5 set uN a (a + 1))) else none) else none) else none) else none) else none)) else none)) else none) else none)) else none
def d_X7_greatestLow (s5 : zZ) (set : Int) : Option (Int) := (d_X7_greatestLow_4 s5 set zF (-1) 0).bind fun y14 => some y14.1
set_option maxRecDepth 20000 in
theorem l_X7_greatestLow_4 (r0 : List va_E) (r1 : List va_E) (r2 : List va_E) (r3 : List va_E) (r4 : List va_E) (s5 : zZ) (r6 : List va_E) (r7 : List va_E) (r8 : List va_E) (r9 : List va_E) (set : Int) {r : Option Value} {hp1 : xH} : ∀ (uN : Nat) (best : Int) (a : Int) {uX : Int × Int}, d_X7_greatestLow_4 s5 set uN best a = some uX → (xBody MX7_greatestLow 0 62 [some (.ref 5120), some (.int (zI set)), some (.int (zI uX.1)), some (.int (zI uX.2))] [] ([r0, r1, r2, r3, r4, zH s5 zL5 0, r6, r7, r8, r9]) r hp1) → xBody MX7_greatestLow 0 4 [some (.ref 5120), some (.int (zI set)), some (.int (zI best)), some (.int (zI a))] [] ([r0, r1, r2, r3, r4, zH s5 zL5 0, r6, r7, r8, r9]) r hp1 := by
  intro uN
  induction uN with
  | zero => intro best a uX H K; cases H
  | succ uN ih =>
    intro best a uX H K
    unfold d_X7_greatestLow_4 at H
    refine xB.run oX7_greatestLow 3 (s := (9, [some (.ref 5120), some (.int (zI set)), some (.int (zI best)), some (.int (zI a))], [.int (zI (s5 0 3)), .int (zI a)], [r0, r1, r2, r3, r4, zH s5 zL5 0, r6, r7, r8, r9])) rfl ?_
    obtain ⟨g13, H⟩ := zgd H
    have H := zif H
    refine xB.brE oX7_greatestLow (P := (s5 0 3) ≤ a) rfl (zc_ge (a := a) (b := s5 0 3) g13) (fun h1 => ?_) (fun h1 => ?_)
    · have H := H.1 h1
      obtain rfl := Option.some.inj H
      exact K
    · have H := H.2 h1
      refine xB.run oX7_greatestLow 2 (s := (14, [some (.ref 5120), some (.int (zI set)), some (.int (zI best)), some (.int (zI a))], [.int (zI a), .int (zI set)], [r0, r1, r2, r3, r4, zH s5 zL5 0, r6, r7, r8, r9])) rfl ?_
      obtain ⟨g12, H⟩ := zgd H
      refine zB.opi oX7_greatestLow rfl (zi_shr (c := a) g12.1 g12.2) ?_
      refine xB.run oX7_greatestLow 1 (s := (16, [some (.ref 5120), some (.int (zI set)), some (.int (zI best)), some (.int (zI a))], [.int (zI 1), .int (zI (set / (2 : Int) ^ a.toNat))], [r0, r1, r2, r3, r4, zH s5 zL5 0, r6, r7, r8, r9])) rfl ?_
      refine zB.opi oX7_greatestLow rfl (zi_and1 (set / (2 : Int) ^ a.toNat)) ?_
      refine xB.run oX7_greatestLow 1 (s := (18, [some (.ref 5120), some (.int (zI set)), some (.int (zI best)), some (.int (zI a))], [.int (zI 1), .int (zI ((set / (2 : Int) ^ a.toNat) % 2))], [r0, r1, r2, r3, r4, zH s5 zL5 0, r6, r7, r8, r9])) rfl ?_
      obtain ⟨g11, H⟩ := zgd H
      have H := zif H
      refine xB.brE oX7_greatestLow (P := ((set / (2 : Int) ^ a.toNat) % 2) ≠ 1) rfl (zc_ne (a := (set / (2 : Int) ^ a.toNat) % 2) (b := 1) ⟨g11, by decide⟩) (fun h2 => ?_) (fun h2 => ?_)
      · have H := H.1 h2
        refine zB.inc oX7_greatestLow rfl (lv2 := [some (.ref 5120), some (.int (zI set)), some (.int (zI best)), some (.int (zI (a + 1)))]) (zi_inc (a := 0) (zi_addp1 a) _ rfl) ?_
        refine xB.run oX7_greatestLow 1 (s := (4, [some (.ref 5120), some (.int (zI set)), some (.int (zI best)), some (.int (zI (a + 1)))], [], [r0, r1, r2, r3, r4, zH s5 zL5 0, r6, r7, r8, r9])) rfl ?_
        exact ih best (a + 1) H K
      · have H := H.2 h2
        refine xB.run oX7_greatestLow 1 (s := (22, [some (.ref 5120), some (.int (zI set)), some (.int (zI best)), some (.int (zI a))], [.int (zI best)], [r0, r1, r2, r3, r4, zH s5 zL5 0, r6, r7, r8, r9])) rfl ?_
        obtain ⟨g10, H⟩ := zgd H
        have H := zif H
        refine xB.brE oX7_greatestLow (P := best < 0) rfl (zc_lt (a := best) (b := 0) ⟨g10, by decide⟩) (fun h3 => ?_) (fun h3 => ?_)
        · have H := H.1 h3
          refine xB.run oX7_greatestLow 2 (s := (56, [some (.ref 5120), some (.int (zI set)), some (.int (zI a)), some (.int (zI a))], [], [r0, r1, r2, r3, r4, zH s5 zL5 0, r6, r7, r8, r9])) rfl ?_
          refine zB.inc oX7_greatestLow rfl (lv2 := [some (.ref 5120), some (.int (zI set)), some (.int (zI a)), some (.int (zI (a + 1)))]) (zi_inc (a := 0) (zi_addp1 a) _ rfl) ?_
          refine xB.run oX7_greatestLow 1 (s := (4, [some (.ref 5120), some (.int (zI set)), some (.int (zI a)), some (.int (zI (a + 1)))], [], [r0, r1, r2, r3, r4, zH s5 zL5 0, r6, r7, r8, r9])) rfl ?_
          exact ih a (a + 1) H K
        · have H := H.2 h3
          refine xB.run oX7_greatestLow 3 (s := (30, [some (.ref 5120), some (.int (zI set)), some (.int (zI best)), some (.int (zI a))], [.int (zI a), .ref 5122], [r0, r1, r2, r3, r4, zH s5 zL5 0, r6, r7, r8, r9])) rfl ?_
          obtain ⟨g9, H⟩ := zgd H
          refine zB.iald oX7_greatestLow (g := 5) (p := 2) (N := 12) (i := a) rfl rfl (by decide) rfl rfl (by decide) g9 ?_
          refine xB.run oX7_greatestLow 3 (s := (36, [some (.ref 5120), some (.int (zI set)), some (.int (zI best)), some (.int (zI a))], [.int (zI best), .ref 5121, .int (zI (s5 2 a.toNat))], [r0, r1, r2, r3, r4, zH s5 zL5 0, r6, r7, r8, r9])) rfl ?_
          obtain ⟨g8, H⟩ := zgd H
          refine zB.iald oX7_greatestLow (g := 5) (p := 1) (N := 12) (i := best) rfl rfl (by decide) rfl rfl (by decide) g8 ?_
          refine zB.opi oX7_greatestLow rfl (zi_mul (s5 2 a.toNat) (s5 1 best.toNat)) ?_
          refine xB.run oX7_greatestLow 3 (s := (43, [some (.ref 5120), some (.int (zI set)), some (.int (zI best)), some (.int (zI a))], [.int (zI best), .ref 5122, .int (zI ((s5 2 a.toNat) * (s5 1 best.toNat)))], [r0, r1, r2, r3, r4, zH s5 zL5 0, r6, r7, r8, r9])) rfl ?_
          obtain ⟨g7, H⟩ := zgd H
          refine zB.iald oX7_greatestLow (g := 5) (p := 2) (N := 12) (i := best) rfl rfl (by decide) rfl rfl (by decide) g7 ?_
          refine xB.run oX7_greatestLow 3 (s := (49, [some (.ref 5120), some (.int (zI set)), some (.int (zI best)), some (.int (zI a))], [.int (zI a), .ref 5121, .int (zI (s5 2 best.toNat)), .int (zI ((s5 2 a.toNat) * (s5 1 best.toNat)))], [r0, r1, r2, r3, r4, zH s5 zL5 0, r6, r7, r8, r9])) rfl ?_
          obtain ⟨g6, H⟩ := zgd H
          refine zB.iald oX7_greatestLow (g := 5) (p := 1) (N := 12) (i := a) rfl rfl (by decide) rfl rfl (by decide) g6 ?_
          refine zB.opi oX7_greatestLow rfl (zi_mul (s5 2 best.toNat) (s5 1 a.toNat)) ?_
          obtain ⟨g5, H⟩ := zgd H
          have H := zif H
          refine xB.brE oX7_greatestLow (P := ((s5 2 a.toNat) * (s5 1 best.toNat)) ≤ ((s5 2 best.toNat) * (s5 1 a.toNat))) rfl (zc_le (a := (s5 2 a.toNat) * (s5 1 best.toNat)) (b := (s5 2 best.toNat) * (s5 1 a.toNat)) g5) (fun h4 => ?_) (fun h4 => ?_)
          · have H := H.1 h4
            refine zB.inc oX7_greatestLow rfl (lv2 := [some (.ref 5120), some (.int (zI set)), some (.int (zI best)), some (.int (zI (a + 1)))]) (zi_inc (a := 0) (zi_addp1 a) _ rfl) ?_
            refine xB.run oX7_greatestLow 1 (s := (4, [some (.ref 5120), some (.int (zI set)), some (.int (zI best)), some (.int (zI (a + 1)))], [], [r0, r1, r2, r3, r4, zH s5 zL5 0, r6, r7, r8, r9])) rfl ?_
            exact ih best (a + 1) H K
          · have H := H.2 h4
            refine xB.run oX7_greatestLow 2 (s := (56, [some (.ref 5120), some (.int (zI set)), some (.int (zI a)), some (.int (zI a))], [], [r0, r1, r2, r3, r4, zH s5 zL5 0, r6, r7, r8, r9])) rfl ?_
            refine zB.inc oX7_greatestLow rfl (lv2 := [some (.ref 5120), some (.int (zI set)), some (.int (zI a)), some (.int (zI (a + 1)))]) (zi_inc (a := 0) (zi_addp1 a) _ rfl) ?_
            refine xB.run oX7_greatestLow 1 (s := (4, [some (.ref 5120), some (.int (zI set)), some (.int (zI a)), some (.int (zI (a + 1)))], [], [r0, r1, r2, r3, r4, zH s5 zL5 0, r6, r7, r8, r9])) rfl ?_
            exact ih a (a + 1) H K
set_option maxRecDepth 20000 in
theorem t_X7_greatestLow (r0 : List va_E) (r1 : List va_E) (r2 : List va_E) (r3 : List va_E) (r4 : List va_E) (s5 : zZ) (r6 : List va_E) (r7 : List va_E) (r8 : List va_E) (r9 : List va_E) (set : Int) {rr : Int} (H : d_X7_greatestLow s5 set = some rr) : xC MX7_greatestLow 0 [.ref 5120, .int (zI set)] ([r0, r1, r2, r3, r4, zH s5 zL5 0, r6, r7, r8, r9]) (some (.int (zI rr))) ([r0, r1, r2, r3, r4, zH s5 zL5 0, r6, r7, r8, r9]) := by
  refine ⟨Nat.le_of_ble_eq_true rfl, ?_⟩
  show xBody MX7_greatestLow 0 0 [some (.ref 5120), some (.int (zI set)), none, none] [] ([r0, r1, r2, r3, r4, zH s5 zL5 0, r6, r7, r8, r9]) _ _
  unfold d_X7_greatestLow at H
  refine xB.run oX7_greatestLow 4 (s := (4, [some (.ref 5120), some (.int (zI set)), some (.int (zI (-1))), some (.int (zI 0))], [], [r0, r1, r2, r3, r4, zH s5 zL5 0, r6, r7, r8, r9])) rfl ?_
  obtain ⟨y14, e15, H⟩ := zbd H
  refine l_X7_greatestLow_4 r0 r1 r2 r3 r4 s5 r6 r7 r8 r9 set _ (-1) 0 e15 ?_
  refine xB.run oX7_greatestLow 1 (s := (63, [some (.ref 5120), some (.int (zI set)), some (.int (zI y14.1)), some (.int (zI y14.2))], [.int (zI y14.1)], [r0, r1, r2, r3, r4, zH s5 zL5 0, r6, r7, r8, r9])) rfl ?_
  obtain rfl := Option.some.inj H
  exact xB.ret oX7_greatestLow (r1 := some (.int (zI y14.1))) rfl rfl rfl
def d_X7_leastHigh_4 (s5 : zZ) (set : Int) : Nat → Int → Int → Option (Int × Int)
  | 0, _, _ => none
  | uN + 1, best, a => if (zr a ∧ zr (s5 0 3)) then (if (s5 0 3) ≤ a then some (best, a) else (if (zr set ∧ (0 ≤ a ∧ a < 32)) then (if (zr ((set / (2 : Int) ^ a.toNat) % 2)) then (if ((set / (2 : Int) ^ a.toNat) % 2) ≠ 1 then (d_X7_leastHigh_4 s5 set uN best (a + 1)) else (if (zr best) then (if best < 0 then (d_X7_leastHigh_4 s5 set uN a (a + 1)) else (if (0 ≤ a ∧ a < 12) then (if (0 ≤ best ∧ best < 12) then (if (0 ≤ best ∧ best < 12) then (if (0 ≤ a ∧ a < 12) then (if (zr ((s5 3 a.toNat) * (s5 1 best.toNat)) ∧ zr ((s5 3 best.toNat) * (s5 1 a.toNat))) then (if ((s5 3 best.toNat) * (s5 1 a.toNat)) ≤ ((s5 3 a.toNat) * (s5 1 best.toNat)) then (d_X7_leastHigh_4 s5 set uN best (a + 1)) else (d_X7_leastHigh_4 s5 set uN a (a + 1))) else none) else none) else none) else none) else none)) else none)) else none) else none)) else none
def d_X7_leastHigh (s5 : zZ) (set : Int) : Option (Int) := (d_X7_leastHigh_4 s5 set zF (-1) 0).bind fun y14 => some y14.1
set_option maxRecDepth 20000 in
theorem l_X7_leastHigh_4 (r0 : List va_E) (r1 : List va_E) (r2 : List va_E) (r3 : List va_E) (r4 : List va_E) (s5 : zZ) (r6 : List va_E) (r7 : List va_E) (r8 : List va_E) (r9 : List va_E) (set : Int) {r : Option Value} {hp1 : xH} : ∀ (uN : Nat) (best : Int) (a : Int) {uX : Int × Int}, d_X7_leastHigh_4 s5 set uN best a = some uX → (xBody MX7_leastHigh 0 62 [some (.ref 5120), some (.int (zI set)), some (.int (zI uX.1)), some (.int (zI uX.2))] [] ([r0, r1, r2, r3, r4, zH s5 zL5 0, r6, r7, r8, r9]) r hp1) → xBody MX7_leastHigh 0 4 [some (.ref 5120), some (.int (zI set)), some (.int (zI best)), some (.int (zI a))] [] ([r0, r1, r2, r3, r4, zH s5 zL5 0, r6, r7, r8, r9]) r hp1 := by
  intro uN
  induction uN with
  | zero => intro best a uX H K; cases H
  | succ uN ih =>
    intro best a uX H K
    unfold d_X7_leastHigh_4 at H
    refine xB.run oX7_leastHigh 3 (s := (9, [some (.ref 5120), some (.int (zI set)), some (.int (zI best)), some (.int (zI a))], [.int (zI (s5 0 3)), .int (zI a)], [r0, r1, r2, r3, r4, zH s5 zL5 0, r6, r7, r8, r9])) rfl ?_
    obtain ⟨g13, H⟩ := zgd H
    have H := zif H
    refine xB.brE oX7_leastHigh (P := (s5 0 3) ≤ a) rfl (zc_ge (a := a) (b := s5 0 3) g13) (fun h1 => ?_) (fun h1 => ?_)
    · have H := H.1 h1
      obtain rfl := Option.some.inj H
      exact K
    · have H := H.2 h1
      refine xB.run oX7_leastHigh 2 (s := (14, [some (.ref 5120), some (.int (zI set)), some (.int (zI best)), some (.int (zI a))], [.int (zI a), .int (zI set)], [r0, r1, r2, r3, r4, zH s5 zL5 0, r6, r7, r8, r9])) rfl ?_
      obtain ⟨g12, H⟩ := zgd H
      refine zB.opi oX7_leastHigh rfl (zi_shr (c := a) g12.1 g12.2) ?_
      refine xB.run oX7_leastHigh 1 (s := (16, [some (.ref 5120), some (.int (zI set)), some (.int (zI best)), some (.int (zI a))], [.int (zI 1), .int (zI (set / (2 : Int) ^ a.toNat))], [r0, r1, r2, r3, r4, zH s5 zL5 0, r6, r7, r8, r9])) rfl ?_
      refine zB.opi oX7_leastHigh rfl (zi_and1 (set / (2 : Int) ^ a.toNat)) ?_
      refine xB.run oX7_leastHigh 1 (s := (18, [some (.ref 5120), some (.int (zI set)), some (.int (zI best)), some (.int (zI a))], [.int (zI 1), .int (zI ((set / (2 : Int) ^ a.toNat) % 2))], [r0, r1, r2, r3, r4, zH s5 zL5 0, r6, r7, r8, r9])) rfl ?_
      obtain ⟨g11, H⟩ := zgd H
      have H := zif H
      refine xB.brE oX7_leastHigh (P := ((set / (2 : Int) ^ a.toNat) % 2) ≠ 1) rfl (zc_ne (a := (set / (2 : Int) ^ a.toNat) % 2) (b := 1) ⟨g11, by decide⟩) (fun h2 => ?_) (fun h2 => ?_)
      · have H := H.1 h2
        refine zB.inc oX7_leastHigh rfl (lv2 := [some (.ref 5120), some (.int (zI set)), some (.int (zI best)), some (.int (zI (a + 1)))]) (zi_inc (a := 0) (zi_addp1 a) _ rfl) ?_
        refine xB.run oX7_leastHigh 1 (s := (4, [some (.ref 5120), some (.int (zI set)), some (.int (zI best)), some (.int (zI (a + 1)))], [], [r0, r1, r2, r3, r4, zH s5 zL5 0, r6, r7, r8, r9])) rfl ?_
        exact ih best (a + 1) H K
      · have H := H.2 h2
        refine xB.run oX7_leastHigh 1 (s := (22, [some (.ref 5120), some (.int (zI set)), some (.int (zI best)), some (.int (zI a))], [.int (zI best)], [r0, r1, r2, r3, r4, zH s5 zL5 0, r6, r7, r8, r9])) rfl ?_
        obtain ⟨g10, H⟩ := zgd H
        have H := zif H
        refine xB.brE oX7_leastHigh (P := best < 0) rfl (zc_lt (a := best) (b := 0) ⟨g10, by decide⟩) (fun h3 => ?_) (fun h3 => ?_)
        · have H := H.1 h3
          refine xB.run oX7_leastHigh 2 (s := (56, [some (.ref 5120), some (.int (zI set)), some (.int (zI a)), some (.int (zI a))], [], [r0, r1, r2, r3, r4, zH s5 zL5 0, r6, r7, r8, r9])) rfl ?_
          refine zB.inc oX7_leastHigh rfl (lv2 := [some (.ref 5120), some (.int (zI set)), some (.int (zI a)), some (.int (zI (a + 1)))]) (zi_inc (a := 0) (zi_addp1 a) _ rfl) ?_
          refine xB.run oX7_leastHigh 1 (s := (4, [some (.ref 5120), some (.int (zI set)), some (.int (zI a)), some (.int (zI (a + 1)))], [], [r0, r1, r2, r3, r4, zH s5 zL5 0, r6, r7, r8, r9])) rfl ?_
          exact ih a (a + 1) H K
        · have H := H.2 h3
          refine xB.run oX7_leastHigh 3 (s := (30, [some (.ref 5120), some (.int (zI set)), some (.int (zI best)), some (.int (zI a))], [.int (zI a), .ref 5123], [r0, r1, r2, r3, r4, zH s5 zL5 0, r6, r7, r8, r9])) rfl ?_
          obtain ⟨g9, H⟩ := zgd H
          refine zB.iald oX7_leastHigh (g := 5) (p := 3) (N := 12) (i := a) rfl rfl (by decide) rfl rfl (by decide) g9 ?_
          refine xB.run oX7_leastHigh 3 (s := (36, [some (.ref 5120), some (.int (zI set)), some (.int (zI best)), some (.int (zI a))], [.int (zI best), .ref 5121, .int (zI (s5 3 a.toNat))], [r0, r1, r2, r3, r4, zH s5 zL5 0, r6, r7, r8, r9])) rfl ?_
          obtain ⟨g8, H⟩ := zgd H
          refine zB.iald oX7_leastHigh (g := 5) (p := 1) (N := 12) (i := best) rfl rfl (by decide) rfl rfl (by decide) g8 ?_
          refine zB.opi oX7_leastHigh rfl (zi_mul (s5 3 a.toNat) (s5 1 best.toNat)) ?_
          refine xB.run oX7_leastHigh 3 (s := (43, [some (.ref 5120), some (.int (zI set)), some (.int (zI best)), some (.int (zI a))], [.int (zI best), .ref 5123, .int (zI ((s5 3 a.toNat) * (s5 1 best.toNat)))], [r0, r1, r2, r3, r4, zH s5 zL5 0, r6, r7, r8, r9])) rfl ?_
          obtain ⟨g7, H⟩ := zgd H
          refine zB.iald oX7_leastHigh (g := 5) (p := 3) (N := 12) (i := best) rfl rfl (by decide) rfl rfl (by decide) g7 ?_
          refine xB.run oX7_leastHigh 3 (s := (49, [some (.ref 5120), some (.int (zI set)), some (.int (zI best)), some (.int (zI a))], [.int (zI a), .ref 5121, .int (zI (s5 3 best.toNat)), .int (zI ((s5 3 a.toNat) * (s5 1 best.toNat)))], [r0, r1, r2, r3, r4, zH s5 zL5 0, r6, r7, r8, r9])) rfl ?_
          obtain ⟨g6, H⟩ := zgd H
          refine zB.iald oX7_leastHigh (g := 5) (p := 1) (N := 12) (i := a) rfl rfl (by decide) rfl rfl (by decide) g6 ?_
          refine zB.opi oX7_leastHigh rfl (zi_mul (s5 3 best.toNat) (s5 1 a.toNat)) ?_
          obtain ⟨g5, H⟩ := zgd H
          have H := zif H
          refine xB.brE oX7_leastHigh (P := ((s5 3 best.toNat) * (s5 1 a.toNat)) ≤ ((s5 3 a.toNat) * (s5 1 best.toNat))) rfl (zc_ge (a := (s5 3 a.toNat) * (s5 1 best.toNat)) (b := (s5 3 best.toNat) * (s5 1 a.toNat)) g5) (fun h4 => ?_) (fun h4 => ?_)
          · have H := H.1 h4
            refine zB.inc oX7_leastHigh rfl (lv2 := [some (.ref 5120), some (.int (zI set)), some (.int (zI best)), some (.int (zI (a + 1)))]) (zi_inc (a := 0) (zi_addp1 a) _ rfl) ?_
            refine xB.run oX7_leastHigh 1 (s := (4, [some (.ref 5120), some (.int (zI set)), some (.int (zI best)), some (.int (zI (a + 1)))], [], [r0, r1, r2, r3, r4, zH s5 zL5 0, r6, r7, r8, r9])) rfl ?_
            exact ih best (a + 1) H K
          · have H := H.2 h4
            refine xB.run oX7_leastHigh 2 (s := (56, [some (.ref 5120), some (.int (zI set)), some (.int (zI a)), some (.int (zI a))], [], [r0, r1, r2, r3, r4, zH s5 zL5 0, r6, r7, r8, r9])) rfl ?_
            refine zB.inc oX7_leastHigh rfl (lv2 := [some (.ref 5120), some (.int (zI set)), some (.int (zI a)), some (.int (zI (a + 1)))]) (zi_inc (a := 0) (zi_addp1 a) _ rfl) ?_
            refine xB.run oX7_leastHigh 1 (s := (4, [some (.ref 5120), some (.int (zI set)), some (.int (zI a)), some (.int (zI (a + 1)))], [], [r0, r1, r2, r3, r4, zH s5 zL5 0, r6, r7, r8, r9])) rfl ?_
            exact ih a (a + 1) H K
set_option maxRecDepth 20000 in
theorem t_X7_leastHigh (r0 : List va_E) (r1 : List va_E) (r2 : List va_E) (r3 : List va_E) (r4 : List va_E) (s5 : zZ) (r6 : List va_E) (r7 : List va_E) (r8 : List va_E) (r9 : List va_E) (set : Int) {rr : Int} (H : d_X7_leastHigh s5 set = some rr) : xC MX7_leastHigh 0 [.ref 5120, .int (zI set)] ([r0, r1, r2, r3, r4, zH s5 zL5 0, r6, r7, r8, r9]) (some (.int (zI rr))) ([r0, r1, r2, r3, r4, zH s5 zL5 0, r6, r7, r8, r9]) := by
  refine ⟨Nat.le_of_ble_eq_true rfl, ?_⟩
  show xBody MX7_leastHigh 0 0 [some (.ref 5120), some (.int (zI set)), none, none] [] ([r0, r1, r2, r3, r4, zH s5 zL5 0, r6, r7, r8, r9]) _ _
  unfold d_X7_leastHigh at H
  refine xB.run oX7_leastHigh 4 (s := (4, [some (.ref 5120), some (.int (zI set)), some (.int (zI (-1))), some (.int (zI 0))], [], [r0, r1, r2, r3, r4, zH s5 zL5 0, r6, r7, r8, r9])) rfl ?_
  obtain ⟨y14, e15, H⟩ := zbd H
  refine l_X7_leastHigh_4 r0 r1 r2 r3 r4 s5 r6 r7 r8 r9 set _ (-1) 0 e15 ?_
  refine xB.run oX7_leastHigh 1 (s := (63, [some (.ref 5120), some (.int (zI set)), some (.int (zI y14.1)), some (.int (zI y14.2))], [.int (zI y14.1)], [r0, r1, r2, r3, r4, zH s5 zL5 0, r6, r7, r8, r9])) rfl ?_
  obtain rfl := Option.some.inj H
  exact xB.ret oX7_leastHigh (r1 := some (.int (zI y14.1))) rfl rfl rfl
def d_X7_agree (s5 : zZ) (set : Int) : Option (Int) := (d_X7_greatestLow s5 set).bind fun y1 => (d_X7_leastHigh s5 set).bind fun y3 => if (zr y1) then (if y1 < 0 then some 1 else (if (zr y3) then (if y3 < 0 then some 1 else (if (0 ≤ y1 ∧ y1 < 12) then (if (0 ≤ y3 ∧ y3 < 12) then (if (0 ≤ y3 ∧ y3 < 12) then (if (0 ≤ y1 ∧ y1 < 12) then (if (zr ((s5 2 y1.toNat) * (s5 1 y3.toNat)) ∧ zr ((s5 3 y3.toNat) * (s5 1 y1.toNat))) then (if ((s5 3 y3.toNat) * (s5 1 y1.toNat)) < ((s5 2 y1.toNat) * (s5 1 y3.toNat)) then some 0 else some 1) else none) else none) else none) else none) else none)) else none)) else none
set_option maxRecDepth 20000 in
theorem t_X7_agree (r0 : List va_E) (r1 : List va_E) (r2 : List va_E) (r3 : List va_E) (r4 : List va_E) (s5 : zZ) (r6 : List va_E) (r7 : List va_E) (r8 : List va_E) (r9 : List va_E) (set : Int) {rr : Int} (H : d_X7_agree s5 set = some rr) : xC MX7_agree 1 [.ref 5120, .int (zI set)] ([r0, r1, r2, r3, r4, zH s5 zL5 0, r6, r7, r8, r9]) (some (.int (zI rr))) ([r0, r1, r2, r3, r4, zH s5 zL5 0, r6, r7, r8, r9]) := by
  refine ⟨Nat.le_of_ble_eq_true rfl, ?_⟩
  show xBody MX7_agree 1 0 [some (.ref 5120), some (.int (zI set)), none, none] [] ([r0, r1, r2, r3, r4, zH s5 zL5 0, r6, r7, r8, r9]) _ _
  unfold d_X7_agree at H
  refine xB.run oX7_agree 2 (s := (2, [some (.ref 5120), some (.int (zI set)), none, none], [.int (zI set), .ref 5120], [r0, r1, r2, r3, r4, zH s5 zL5 0, r6, r7, r8, r9])) rfl ?_
  obtain ⟨y1, e2, H⟩ := zbd H
  refine xB.call oX7_agree (M2 := MX7_greatestLow) rfl rfl ((t_X7_greatestLow r0 r1 r2 r3 r4 s5 r6 r7 r8 r9 set e2).deep (by decide : 0 ≤ 0)) ?_
  show xBody MX7_agree 1 5 [some (.ref 5120), some (.int (zI set)), none, none] [.int (zI y1)] ([r0, r1, r2, r3, r4, zH s5 zL5 0, r6, r7, r8, r9]) _ _
  refine xB.run oX7_agree 3 (s := (8, [some (.ref 5120), some (.int (zI set)), some (.int (zI y1)), none], [.int (zI set), .ref 5120], [r0, r1, r2, r3, r4, zH s5 zL5 0, r6, r7, r8, r9])) rfl ?_
  obtain ⟨y3, e4, H⟩ := zbd H
  refine xB.call oX7_agree (M2 := MX7_leastHigh) rfl rfl ((t_X7_leastHigh r0 r1 r2 r3 r4 s5 r6 r7 r8 r9 set e4).deep (by decide : 0 ≤ 0)) ?_
  show xBody MX7_agree 1 11 [some (.ref 5120), some (.int (zI set)), some (.int (zI y1)), none] [.int (zI y3)] ([r0, r1, r2, r3, r4, zH s5 zL5 0, r6, r7, r8, r9]) _ _
  refine xB.run oX7_agree 2 (s := (13, [some (.ref 5120), some (.int (zI set)), some (.int (zI y1)), some (.int (zI y3))], [.int (zI y1)], [r0, r1, r2, r3, r4, zH s5 zL5 0, r6, r7, r8, r9])) rfl ?_
  obtain ⟨g14, H⟩ := zgd H
  have H := zif H
  refine xB.brE oX7_agree (P := y1 < 0) rfl (zc_lt (a := y1) (b := 0) ⟨g14, by decide⟩) (fun h5 => ?_) (fun h5 => ?_)
  · have H := H.1 h5
    refine xB.run oX7_agree 2 (s := (54, [some (.ref 5120), some (.int (zI set)), some (.int (zI y1)), some (.int (zI y3))], [.int (zI 1)], [r0, r1, r2, r3, r4, zH s5 zL5 0, r6, r7, r8, r9])) rfl ?_
    obtain rfl := Option.some.inj H
    exact xB.ret oX7_agree (r1 := some (.int (zI 1))) rfl rfl rfl
  · have H := H.2 h5
    refine xB.run oX7_agree 1 (s := (17, [some (.ref 5120), some (.int (zI set)), some (.int (zI y1)), some (.int (zI y3))], [.int (zI y3)], [r0, r1, r2, r3, r4, zH s5 zL5 0, r6, r7, r8, r9])) rfl ?_
    obtain ⟨g13, H⟩ := zgd H
    have H := zif H
    refine xB.brE oX7_agree (P := y3 < 0) rfl (zc_lt (a := y3) (b := 0) ⟨g13, by decide⟩) (fun h6 => ?_) (fun h6 => ?_)
    · have H := H.1 h6
      refine xB.run oX7_agree 2 (s := (54, [some (.ref 5120), some (.int (zI set)), some (.int (zI y1)), some (.int (zI y3))], [.int (zI 1)], [r0, r1, r2, r3, r4, zH s5 zL5 0, r6, r7, r8, r9])) rfl ?_
      obtain rfl := Option.some.inj H
      exact xB.ret oX7_agree (r1 := some (.int (zI 1))) rfl rfl rfl
    · have H := H.2 h6
      refine xB.run oX7_agree 3 (s := (25, [some (.ref 5120), some (.int (zI set)), some (.int (zI y1)), some (.int (zI y3))], [.int (zI y1), .ref 5122], [r0, r1, r2, r3, r4, zH s5 zL5 0, r6, r7, r8, r9])) rfl ?_
      obtain ⟨g12, H⟩ := zgd H
      refine zB.iald oX7_agree (g := 5) (p := 2) (N := 12) (i := y1) rfl rfl (by decide) rfl rfl (by decide) g12 ?_
      refine xB.run oX7_agree 3 (s := (31, [some (.ref 5120), some (.int (zI set)), some (.int (zI y1)), some (.int (zI y3))], [.int (zI y3), .ref 5121, .int (zI (s5 2 y1.toNat))], [r0, r1, r2, r3, r4, zH s5 zL5 0, r6, r7, r8, r9])) rfl ?_
      obtain ⟨g11, H⟩ := zgd H
      refine zB.iald oX7_agree (g := 5) (p := 1) (N := 12) (i := y3) rfl rfl (by decide) rfl rfl (by decide) g11 ?_
      refine zB.opi oX7_agree rfl (zi_mul (s5 2 y1.toNat) (s5 1 y3.toNat)) ?_
      refine xB.run oX7_agree 3 (s := (38, [some (.ref 5120), some (.int (zI set)), some (.int (zI y1)), some (.int (zI y3))], [.int (zI y3), .ref 5123, .int (zI ((s5 2 y1.toNat) * (s5 1 y3.toNat)))], [r0, r1, r2, r3, r4, zH s5 zL5 0, r6, r7, r8, r9])) rfl ?_
      obtain ⟨g10, H⟩ := zgd H
      refine zB.iald oX7_agree (g := 5) (p := 3) (N := 12) (i := y3) rfl rfl (by decide) rfl rfl (by decide) g10 ?_
      refine xB.run oX7_agree 3 (s := (44, [some (.ref 5120), some (.int (zI set)), some (.int (zI y1)), some (.int (zI y3))], [.int (zI y1), .ref 5121, .int (zI (s5 3 y3.toNat)), .int (zI ((s5 2 y1.toNat) * (s5 1 y3.toNat)))], [r0, r1, r2, r3, r4, zH s5 zL5 0, r6, r7, r8, r9])) rfl ?_
      obtain ⟨g9, H⟩ := zgd H
      refine zB.iald oX7_agree (g := 5) (p := 1) (N := 12) (i := y1) rfl rfl (by decide) rfl rfl (by decide) g9 ?_
      refine zB.opi oX7_agree rfl (zi_mul (s5 3 y3.toNat) (s5 1 y1.toNat)) ?_
      obtain ⟨g8, H⟩ := zgd H
      have H := zif H
      refine xB.brE oX7_agree (P := ((s5 3 y3.toNat) * (s5 1 y1.toNat)) < ((s5 2 y1.toNat) * (s5 1 y3.toNat))) rfl (zc_gt (a := (s5 2 y1.toNat) * (s5 1 y3.toNat)) (b := (s5 3 y3.toNat) * (s5 1 y1.toNat)) g8) (fun h7 => ?_) (fun h7 => ?_)
      · have H := H.1 h7
        refine xB.run oX7_agree 1 (s := (54, [some (.ref 5120), some (.int (zI set)), some (.int (zI y1)), some (.int (zI y3))], [.int (zI 0)], [r0, r1, r2, r3, r4, zH s5 zL5 0, r6, r7, r8, r9])) rfl ?_
        obtain rfl := Option.some.inj H
        exact xB.ret oX7_agree (r1 := some (.int (zI 0))) rfl rfl rfl
      · have H := H.2 h7
        refine xB.run oX7_agree 2 (s := (54, [some (.ref 5120), some (.int (zI set)), some (.int (zI y1)), some (.int (zI y3))], [.int (zI 1)], [r0, r1, r2, r3, r4, zH s5 zL5 0, r6, r7, r8, r9])) rfl ?_
        obtain rfl := Option.some.inj H
        exact xB.ret oX7_agree (r1 := some (.int (zI 1))) rfl rfl rfl
def d_X7_holdLowOf_4 (s5 : zZ) (a : Int) : Nat → Int → Int → Option (Int × Int)
  | 0, _, _ => none
  | uN + 1, set, b => if (zr b ∧ zr (s5 0 3)) then (if (s5 0 3) ≤ b then some (set, b) else (if (0 ≤ a ∧ a < 12) then (if (0 ≤ b ∧ b < 12) then (if (0 ≤ b ∧ b < 12) then (if (0 ≤ a ∧ a < 12) then (if (zr ((s5 2 b.toNat) * (s5 1 a.toNat)) ∧ zr ((s5 2 a.toNat) * (s5 1 b.toNat))) then (if ((s5 2 a.toNat) * (s5 1 b.toNat)) < ((s5 2 b.toNat) * (s5 1 a.toNat)) then (d_X7_holdLowOf_4 s5 a uN set (b + 1)) else (if (0 ≤ b ∧ b < 12) then (if (0 ≤ a ∧ a < 12) then (if (zr ((s5 2 a.toNat) * (s5 1 b.toNat)) ∧ zr ((s5 3 b.toNat) * (s5 1 a.toNat))) then (if ((s5 3 b.toNat) * (s5 1 a.toNat)) < ((s5 2 a.toNat) * (s5 1 b.toNat)) then (d_X7_holdLowOf_4 s5 a uN set (b + 1)) else (if (0 ≤ b ∧ b < 32) then (if ((0 ≤ set ∧ zr set) ∧ (0 ≤ ((2 : Int) ^ b.toNat) ∧ zr ((2 : Int) ^ b.toNat))) then (d_X7_holdLowOf_4 s5 a uN ((set.toNat ||| ((2 : Int) ^ b.toNat).toNat : Nat) : Int) (b + 1)) else none) else none)) else none) else none) else none)) else none) else none) else none) else none) else none)) else none
def d_X7_holdLowOf (s5 : zZ) (a : Int) : Option (Int) := (d_X7_holdLowOf_4 s5 a zF 0 0).bind fun y15 => some y15.1
set_option maxRecDepth 20000 in
theorem l_X7_holdLowOf_4 (r0 : List va_E) (r1 : List va_E) (r2 : List va_E) (r3 : List va_E) (r4 : List va_E) (s5 : zZ) (r6 : List va_E) (r7 : List va_E) (r8 : List va_E) (r9 : List va_E) (a : Int) {r : Option Value} {hp1 : xH} : ∀ (uN : Nat) (set : Int) (b : Int) {uX : Int × Int}, d_X7_holdLowOf_4 s5 a uN set b = some uX → (xBody MX7_holdLowOf 0 75 [some (.ref 5120), some (.int (zI a)), some (.int (zI uX.1)), some (.int (zI uX.2)), none] [] ([r0, r1, r2, r3, r4, zH s5 zL5 0, r6, r7, r8, r9]) r hp1) → xBody MX7_holdLowOf 0 4 [some (.ref 5120), some (.int (zI a)), some (.int (zI set)), some (.int (zI b)), none] [] ([r0, r1, r2, r3, r4, zH s5 zL5 0, r6, r7, r8, r9]) r hp1 := by
  intro uN
  induction uN with
  | zero => intro set b uX H K; cases H
  | succ uN ih =>
    intro set b uX H K
    unfold d_X7_holdLowOf_4 at H
    refine xB.run oX7_holdLowOf 3 (s := (9, [some (.ref 5120), some (.int (zI a)), some (.int (zI set)), some (.int (zI b)), none], [.int (zI (s5 0 3)), .int (zI b)], [r0, r1, r2, r3, r4, zH s5 zL5 0, r6, r7, r8, r9])) rfl ?_
    obtain ⟨g14, H⟩ := zgd H
    have H := zif H
    refine xB.brE oX7_holdLowOf (P := (s5 0 3) ≤ b) rfl (zc_ge (a := b) (b := s5 0 3) g14) (fun h1 => ?_) (fun h1 => ?_)
    · have H := H.1 h1
      obtain rfl := Option.some.inj H
      exact K
    · have H := H.2 h1
      refine xB.run oX7_holdLowOf 3 (s := (17, [some (.ref 5120), some (.int (zI a)), some (.int (zI set)), some (.int (zI b)), none], [.int (zI a), .ref 5122], [r0, r1, r2, r3, r4, zH s5 zL5 0, r6, r7, r8, r9])) rfl ?_
      obtain ⟨g13, H⟩ := zgd H
      refine zB.iald oX7_holdLowOf (g := 5) (p := 2) (N := 12) (i := a) rfl rfl (by decide) rfl rfl (by decide) g13 ?_
      refine xB.run oX7_holdLowOf 3 (s := (23, [some (.ref 5120), some (.int (zI a)), some (.int (zI set)), some (.int (zI b)), none], [.int (zI b), .ref 5121, .int (zI (s5 2 a.toNat))], [r0, r1, r2, r3, r4, zH s5 zL5 0, r6, r7, r8, r9])) rfl ?_
      obtain ⟨g12, H⟩ := zgd H
      refine zB.iald oX7_holdLowOf (g := 5) (p := 1) (N := 12) (i := b) rfl rfl (by decide) rfl rfl (by decide) g12 ?_
      refine zB.opi oX7_holdLowOf rfl (zi_mul (s5 2 a.toNat) (s5 1 b.toNat)) ?_
      refine xB.run oX7_holdLowOf 4 (s := (32, [some (.ref 5120), some (.int (zI a)), some (.int (zI set)), some (.int (zI b)), some (.int (zI ((s5 2 a.toNat) * (s5 1 b.toNat))))], [.int (zI b), .ref 5122], [r0, r1, r2, r3, r4, zH s5 zL5 0, r6, r7, r8, r9])) rfl ?_
      obtain ⟨g11, H⟩ := zgd H
      refine zB.iald oX7_holdLowOf (g := 5) (p := 2) (N := 12) (i := b) rfl rfl (by decide) rfl rfl (by decide) g11 ?_
      refine xB.run oX7_holdLowOf 3 (s := (38, [some (.ref 5120), some (.int (zI a)), some (.int (zI set)), some (.int (zI b)), some (.int (zI ((s5 2 a.toNat) * (s5 1 b.toNat))))], [.int (zI a), .ref 5121, .int (zI (s5 2 b.toNat))], [r0, r1, r2, r3, r4, zH s5 zL5 0, r6, r7, r8, r9])) rfl ?_
      obtain ⟨g10, H⟩ := zgd H
      refine zB.iald oX7_holdLowOf (g := 5) (p := 1) (N := 12) (i := a) rfl rfl (by decide) rfl rfl (by decide) g10 ?_
      refine zB.opi oX7_holdLowOf rfl (zi_mul (s5 2 b.toNat) (s5 1 a.toNat)) ?_
      refine xB.run oX7_holdLowOf 1 (s := (42, [some (.ref 5120), some (.int (zI a)), some (.int (zI set)), some (.int (zI b)), some (.int (zI ((s5 2 a.toNat) * (s5 1 b.toNat))))], [.int (zI ((s5 2 a.toNat) * (s5 1 b.toNat))), .int (zI ((s5 2 b.toNat) * (s5 1 a.toNat)))], [r0, r1, r2, r3, r4, zH s5 zL5 0, r6, r7, r8, r9])) rfl ?_
      obtain ⟨g9, H⟩ := zgd H
      have H := zif H
      refine xB.brE oX7_holdLowOf (P := ((s5 2 a.toNat) * (s5 1 b.toNat)) < ((s5 2 b.toNat) * (s5 1 a.toNat))) rfl (zc_gt (a := (s5 2 b.toNat) * (s5 1 a.toNat)) (b := (s5 2 a.toNat) * (s5 1 b.toNat)) g9) (fun h2 => ?_) (fun h2 => ?_)
      · have H := H.1 h2
        refine zB.inc oX7_holdLowOf rfl (lv2 := [some (.ref 5120), some (.int (zI a)), some (.int (zI set)), some (.int (zI (b + 1))), some (.int (zI ((s5 2 a.toNat) * (s5 1 b.toNat))))]) (zi_inc (a := 0) (zi_addp1 b) _ rfl) ?_
        refine xB.run oX7_holdLowOf 1 (s := (4, [some (.ref 5120), some (.int (zI a)), some (.int (zI set)), some (.int (zI (b + 1))), some (.int (zI ((s5 2 a.toNat) * (s5 1 b.toNat))))], [], [r0, r1, r2, r3, r4, zH s5 zL5 0, r6, r7, r8, r9])) rfl ?_
        refine xB.forget (lv1 := [some (.ref 5120), some (.int (zI a)), some (.int (zI set)), some (.int (zI (b + 1))), none]) (xle_same (xle_same (xle_same (xle_same (xle_none (xle_nil)))))) ?_
        exact ih set (b + 1) H K
      · have H := H.2 h2
        refine xB.run oX7_holdLowOf 4 (s := (52, [some (.ref 5120), some (.int (zI a)), some (.int (zI set)), some (.int (zI b)), some (.int (zI ((s5 2 a.toNat) * (s5 1 b.toNat))))], [.int (zI b), .ref 5123, .int (zI ((s5 2 a.toNat) * (s5 1 b.toNat)))], [r0, r1, r2, r3, r4, zH s5 zL5 0, r6, r7, r8, r9])) rfl ?_
        obtain ⟨g8, H⟩ := zgd H
        refine zB.iald oX7_holdLowOf (g := 5) (p := 3) (N := 12) (i := b) rfl rfl (by decide) rfl rfl (by decide) g8 ?_
        refine xB.run oX7_holdLowOf 3 (s := (58, [some (.ref 5120), some (.int (zI a)), some (.int (zI set)), some (.int (zI b)), some (.int (zI ((s5 2 a.toNat) * (s5 1 b.toNat))))], [.int (zI a), .ref 5121, .int (zI (s5 3 b.toNat)), .int (zI ((s5 2 a.toNat) * (s5 1 b.toNat)))], [r0, r1, r2, r3, r4, zH s5 zL5 0, r6, r7, r8, r9])) rfl ?_
        obtain ⟨g7, H⟩ := zgd H
        refine zB.iald oX7_holdLowOf (g := 5) (p := 1) (N := 12) (i := a) rfl rfl (by decide) rfl rfl (by decide) g7 ?_
        refine zB.opi oX7_holdLowOf rfl (zi_mul (s5 3 b.toNat) (s5 1 a.toNat)) ?_
        obtain ⟨g6, H⟩ := zgd H
        have H := zif H
        refine xB.brE oX7_holdLowOf (P := ((s5 3 b.toNat) * (s5 1 a.toNat)) < ((s5 2 a.toNat) * (s5 1 b.toNat))) rfl (zc_gt (a := (s5 2 a.toNat) * (s5 1 b.toNat)) (b := (s5 3 b.toNat) * (s5 1 a.toNat)) g6) (fun h3 => ?_) (fun h3 => ?_)
        · have H := H.1 h3
          refine zB.inc oX7_holdLowOf rfl (lv2 := [some (.ref 5120), some (.int (zI a)), some (.int (zI set)), some (.int (zI (b + 1))), some (.int (zI ((s5 2 a.toNat) * (s5 1 b.toNat))))]) (zi_inc (a := 0) (zi_addp1 b) _ rfl) ?_
          refine xB.run oX7_holdLowOf 1 (s := (4, [some (.ref 5120), some (.int (zI a)), some (.int (zI set)), some (.int (zI (b + 1))), some (.int (zI ((s5 2 a.toNat) * (s5 1 b.toNat))))], [], [r0, r1, r2, r3, r4, zH s5 zL5 0, r6, r7, r8, r9])) rfl ?_
          refine xB.forget (lv1 := [some (.ref 5120), some (.int (zI a)), some (.int (zI set)), some (.int (zI (b + 1))), none]) (xle_same (xle_same (xle_same (xle_same (xle_none (xle_nil)))))) ?_
          exact ih set (b + 1) H K
        · have H := H.2 h3
          refine xB.run oX7_holdLowOf 3 (s := (66, [some (.ref 5120), some (.int (zI a)), some (.int (zI set)), some (.int (zI b)), some (.int (zI ((s5 2 a.toNat) * (s5 1 b.toNat))))], [.int (zI b), .int (zI 1), .int (zI set)], [r0, r1, r2, r3, r4, zH s5 zL5 0, r6, r7, r8, r9])) rfl ?_
          obtain ⟨g5, H⟩ := zgd H
          refine zB.opi oX7_holdLowOf (y := (2 : Int) ^ b.toNat) rfl (zi_shl1 (c := b) g5) ?_
          obtain ⟨g4, H⟩ := zgd H
          refine zB.opi oX7_holdLowOf rfl (zi_or (a := set) (b := (2 : Int) ^ b.toNat) g4.1 g4.2) ?_
          refine xB.run oX7_holdLowOf 1 (s := (69, [some (.ref 5120), some (.int (zI a)), some (.int (zI ((set.toNat ||| ((2 : Int) ^ b.toNat).toNat : Nat) : Int))), some (.int (zI b)), some (.int (zI ((s5 2 a.toNat) * (s5 1 b.toNat))))], [], [r0, r1, r2, r3, r4, zH s5 zL5 0, r6, r7, r8, r9])) rfl ?_
          refine zB.inc oX7_holdLowOf rfl (lv2 := [some (.ref 5120), some (.int (zI a)), some (.int (zI ((set.toNat ||| ((2 : Int) ^ b.toNat).toNat : Nat) : Int))), some (.int (zI (b + 1))), some (.int (zI ((s5 2 a.toNat) * (s5 1 b.toNat))))]) (zi_inc (a := 0) (zi_addp1 b) _ rfl) ?_
          refine xB.run oX7_holdLowOf 1 (s := (4, [some (.ref 5120), some (.int (zI a)), some (.int (zI ((set.toNat ||| ((2 : Int) ^ b.toNat).toNat : Nat) : Int))), some (.int (zI (b + 1))), some (.int (zI ((s5 2 a.toNat) * (s5 1 b.toNat))))], [], [r0, r1, r2, r3, r4, zH s5 zL5 0, r6, r7, r8, r9])) rfl ?_
          refine xB.forget (lv1 := [some (.ref 5120), some (.int (zI a)), some (.int (zI ((set.toNat ||| ((2 : Int) ^ b.toNat).toNat : Nat) : Int))), some (.int (zI (b + 1))), none]) (xle_same (xle_same (xle_same (xle_same (xle_none (xle_nil)))))) ?_
          exact ih ((set.toNat ||| ((2 : Int) ^ b.toNat).toNat : Nat) : Int) (b + 1) H K
set_option maxRecDepth 20000 in
theorem t_X7_holdLowOf (r0 : List va_E) (r1 : List va_E) (r2 : List va_E) (r3 : List va_E) (r4 : List va_E) (s5 : zZ) (r6 : List va_E) (r7 : List va_E) (r8 : List va_E) (r9 : List va_E) (a : Int) {rr : Int} (H : d_X7_holdLowOf s5 a = some rr) : xC MX7_holdLowOf 0 [.ref 5120, .int (zI a)] ([r0, r1, r2, r3, r4, zH s5 zL5 0, r6, r7, r8, r9]) (some (.int (zI rr))) ([r0, r1, r2, r3, r4, zH s5 zL5 0, r6, r7, r8, r9]) := by
  refine ⟨Nat.le_of_ble_eq_true rfl, ?_⟩
  show xBody MX7_holdLowOf 0 0 [some (.ref 5120), some (.int (zI a)), none, none, none] [] ([r0, r1, r2, r3, r4, zH s5 zL5 0, r6, r7, r8, r9]) _ _
  unfold d_X7_holdLowOf at H
  refine xB.run oX7_holdLowOf 4 (s := (4, [some (.ref 5120), some (.int (zI a)), some (.int (zI 0)), some (.int (zI 0)), none], [], [r0, r1, r2, r3, r4, zH s5 zL5 0, r6, r7, r8, r9])) rfl ?_
  obtain ⟨y15, e16, H⟩ := zbd H
  refine l_X7_holdLowOf_4 r0 r1 r2 r3 r4 s5 r6 r7 r8 r9 a _ 0 0 e16 ?_
  refine xB.run oX7_holdLowOf 1 (s := (76, [some (.ref 5120), some (.int (zI a)), some (.int (zI y15.1)), some (.int (zI y15.2)), none], [.int (zI y15.1)], [r0, r1, r2, r3, r4, zH s5 zL5 0, r6, r7, r8, r9])) rfl ?_
  obtain rfl := Option.some.inj H
  exact xB.ret oX7_holdLowOf (r1 := some (.int (zI y15.1))) rfl rfl rfl
def d_X7_greatestAgreeing_4 (s5 : zZ) : Nat → Int → Int → Option (Int × Int)
  | 0, _, _ => none
  | uN + 1, best, a => if (zr a ∧ zr (s5 0 3)) then (if (s5 0 3) ≤ a then some (best, a) else ((d_X7_holdLowOf s5 a).bind fun y2 => (d_J6_bitCount y2).bind fun y4 => (d_J6_bitCount best).bind fun y6 => if (zr (y4 - y6)) then (if (0 : Int) < (y4 - y6) then (d_X7_greatestAgreeing_4 s5 uN y2 (a + 1)) else (if (zr (y4 - y6)) then (if (y4 - y6) ≠ 0 then (d_X7_greatestAgreeing_4 s5 uN best (a + 1)) else (if (zr y2 ∧ zr best) then (if best ≤ y2 then (d_X7_greatestAgreeing_4 s5 uN best (a + 1)) else (d_X7_greatestAgreeing_4 s5 uN y2 (a + 1))) else none)) else none)) else none)) else none
def d_X7_greatestAgreeing (s5 : zZ) : Option (Int) := (d_X7_greatestAgreeing_4 s5 zF 0 0).bind fun y15 => some y15.1
set_option maxRecDepth 20000 in
theorem l_X7_greatestAgreeing_4 (r0 : List va_E) (r1 : List va_E) (r2 : List va_E) (r3 : List va_E) (r4 : List va_E) (s5 : zZ) (r6 : List va_E) (r7 : List va_E) (r8 : List va_E) (r9 : List va_E) {r : Option Value} {hp1 : xH} : ∀ (uN : Nat) (best : Int) (a : Int) {uX : Int × Int}, d_X7_greatestAgreeing_4 s5 uN best a = some uX → (xBody MX7_greatestAgreeing 1 52 [some (.ref 5120), some (.int (zI uX.1)), some (.int (zI uX.2)), none, none] [] ([r0, r1, r2, r3, r4, zH s5 zL5 0, r6, r7, r8, r9]) r hp1) → xBody MX7_greatestAgreeing 1 4 [some (.ref 5120), some (.int (zI best)), some (.int (zI a)), none, none] [] ([r0, r1, r2, r3, r4, zH s5 zL5 0, r6, r7, r8, r9]) r hp1 := by
  intro uN
  induction uN with
  | zero => intro best a uX H K; cases H
  | succ uN ih =>
    intro best a uX H K
    unfold d_X7_greatestAgreeing_4 at H
    refine xB.run oX7_greatestAgreeing 3 (s := (9, [some (.ref 5120), some (.int (zI best)), some (.int (zI a)), none, none], [.int (zI (s5 0 3)), .int (zI a)], [r0, r1, r2, r3, r4, zH s5 zL5 0, r6, r7, r8, r9])) rfl ?_
    obtain ⟨g14, H⟩ := zgd H
    have H := zif H
    refine xB.brE oX7_greatestAgreeing (P := (s5 0 3) ≤ a) rfl (zc_ge (a := a) (b := s5 0 3) g14) (fun h1 => ?_) (fun h1 => ?_)
    · have H := H.1 h1
      obtain rfl := Option.some.inj H
      exact K
    · have H := H.2 h1
      refine xB.run oX7_greatestAgreeing 2 (s := (14, [some (.ref 5120), some (.int (zI best)), some (.int (zI a)), none, none], [.int (zI a), .ref 5120], [r0, r1, r2, r3, r4, zH s5 zL5 0, r6, r7, r8, r9])) rfl ?_
      obtain ⟨y2, e3, H⟩ := zbd H
      refine xB.call oX7_greatestAgreeing (M2 := MX7_holdLowOf) rfl rfl ((t_X7_holdLowOf r0 r1 r2 r3 r4 s5 r6 r7 r8 r9 a e3).deep (by decide : 0 ≤ 0)) ?_
      show xBody MX7_greatestAgreeing 1 17 [some (.ref 5120), some (.int (zI best)), some (.int (zI a)), none, none] [.int (zI y2)] ([r0, r1, r2, r3, r4, zH s5 zL5 0, r6, r7, r8, r9]) _ _
      refine xB.run oX7_greatestAgreeing 2 (s := (19, [some (.ref 5120), some (.int (zI best)), some (.int (zI a)), some (.int (zI y2)), none], [.int (zI y2)], [r0, r1, r2, r3, r4, zH s5 zL5 0, r6, r7, r8, r9])) rfl ?_
      obtain ⟨y4, e5, H⟩ := zbd H
      refine xB.call oX7_greatestAgreeing (M2 := MJ6_bitCount_0f7a4) rfl rfl ((t_J6_bitCount r0 r1 r2 r3 r4 (zH s5 zL5 0) r6 r7 r8 r9 y2 e5).deep (by decide : 0 ≤ 0)) ?_
      show xBody MX7_greatestAgreeing 1 22 [some (.ref 5120), some (.int (zI best)), some (.int (zI a)), some (.int (zI y2)), none] [.int (zI y4)] ([r0, r1, r2, r3, r4, zH s5 zL5 0, r6, r7, r8, r9]) _ _
      refine xB.run oX7_greatestAgreeing 1 (s := (23, [some (.ref 5120), some (.int (zI best)), some (.int (zI a)), some (.int (zI y2)), none], [.int (zI best), .int (zI y4)], [r0, r1, r2, r3, r4, zH s5 zL5 0, r6, r7, r8, r9])) rfl ?_
      obtain ⟨y6, e7, H⟩ := zbd H
      refine xB.call oX7_greatestAgreeing (M2 := MJ6_bitCount_0f7a4) rfl rfl ((t_J6_bitCount r0 r1 r2 r3 r4 (zH s5 zL5 0) r6 r7 r8 r9 best e7).deep (by decide : 0 ≤ 0)) ?_
      show xBody MX7_greatestAgreeing 1 26 [some (.ref 5120), some (.int (zI best)), some (.int (zI a)), some (.int (zI y2)), none] [.int (zI y6), .int (zI y4)] ([r0, r1, r2, r3, r4, zH s5 zL5 0, r6, r7, r8, r9]) _ _
      refine zB.opi oX7_greatestAgreeing rfl (zi_sub y4 y6) ?_
      refine xB.run oX7_greatestAgreeing 2 (s := (31, [some (.ref 5120), some (.int (zI best)), some (.int (zI a)), some (.int (zI y2)), some (.int (zI (y4 - y6)))], [.int (zI (y4 - y6))], [r0, r1, r2, r3, r4, zH s5 zL5 0, r6, r7, r8, r9])) rfl ?_
      obtain ⟨g13, H⟩ := zgd H
      have H := zif H
      refine xB.brE oX7_greatestAgreeing (P := (0 : Int) < (y4 - y6)) rfl (zc_gt (a := y4 - y6) (b := 0) ⟨g13, by decide⟩) (fun h8 => ?_) (fun h8 => ?_)
      · have H := H.1 h8
        refine xB.run oX7_greatestAgreeing 2 (s := (46, [some (.ref 5120), some (.int (zI y2)), some (.int (zI a)), some (.int (zI y2)), some (.int (zI (y4 - y6)))], [], [r0, r1, r2, r3, r4, zH s5 zL5 0, r6, r7, r8, r9])) rfl ?_
        refine zB.inc oX7_greatestAgreeing rfl (lv2 := [some (.ref 5120), some (.int (zI y2)), some (.int (zI (a + 1))), some (.int (zI y2)), some (.int (zI (y4 - y6)))]) (zi_inc (a := 0) (zi_addp1 a) _ rfl) ?_
        refine xB.run oX7_greatestAgreeing 1 (s := (4, [some (.ref 5120), some (.int (zI y2)), some (.int (zI (a + 1))), some (.int (zI y2)), some (.int (zI (y4 - y6)))], [], [r0, r1, r2, r3, r4, zH s5 zL5 0, r6, r7, r8, r9])) rfl ?_
        refine xB.forget (lv1 := [some (.ref 5120), some (.int (zI y2)), some (.int (zI (a + 1))), none, none]) (xle_same (xle_same (xle_same (xle_none (xle_none (xle_nil)))))) ?_
        exact ih y2 (a + 1) H K
      · have H := H.2 h8
        refine xB.run oX7_greatestAgreeing 1 (s := (36, [some (.ref 5120), some (.int (zI best)), some (.int (zI a)), some (.int (zI y2)), some (.int (zI (y4 - y6)))], [.int (zI (y4 - y6))], [r0, r1, r2, r3, r4, zH s5 zL5 0, r6, r7, r8, r9])) rfl ?_
        obtain ⟨g12, H⟩ := zgd H
        have H := zif H
        refine xB.brE oX7_greatestAgreeing (P := (y4 - y6) ≠ 0) rfl (zc_ne (a := y4 - y6) (b := 0) ⟨g12, by decide⟩) (fun h9 => ?_) (fun h9 => ?_)
        · have H := H.1 h9
          refine zB.inc oX7_greatestAgreeing rfl (lv2 := [some (.ref 5120), some (.int (zI best)), some (.int (zI (a + 1))), some (.int (zI y2)), some (.int (zI (y4 - y6)))]) (zi_inc (a := 0) (zi_addp1 a) _ rfl) ?_
          refine xB.run oX7_greatestAgreeing 1 (s := (4, [some (.ref 5120), some (.int (zI best)), some (.int (zI (a + 1))), some (.int (zI y2)), some (.int (zI (y4 - y6)))], [], [r0, r1, r2, r3, r4, zH s5 zL5 0, r6, r7, r8, r9])) rfl ?_
          refine xB.forget (lv1 := [some (.ref 5120), some (.int (zI best)), some (.int (zI (a + 1))), none, none]) (xle_same (xle_same (xle_same (xle_none (xle_none (xle_nil)))))) ?_
          exact ih best (a + 1) H K
        · have H := H.2 h9
          refine xB.run oX7_greatestAgreeing 2 (s := (41, [some (.ref 5120), some (.int (zI best)), some (.int (zI a)), some (.int (zI y2)), some (.int (zI (y4 - y6)))], [.int (zI best), .int (zI y2)], [r0, r1, r2, r3, r4, zH s5 zL5 0, r6, r7, r8, r9])) rfl ?_
          obtain ⟨g11, H⟩ := zgd H
          have H := zif H
          refine xB.brE oX7_greatestAgreeing (P := best ≤ y2) rfl (zc_ge (a := y2) (b := best) g11) (fun h10 => ?_) (fun h10 => ?_)
          · have H := H.1 h10
            refine zB.inc oX7_greatestAgreeing rfl (lv2 := [some (.ref 5120), some (.int (zI best)), some (.int (zI (a + 1))), some (.int (zI y2)), some (.int (zI (y4 - y6)))]) (zi_inc (a := 0) (zi_addp1 a) _ rfl) ?_
            refine xB.run oX7_greatestAgreeing 1 (s := (4, [some (.ref 5120), some (.int (zI best)), some (.int (zI (a + 1))), some (.int (zI y2)), some (.int (zI (y4 - y6)))], [], [r0, r1, r2, r3, r4, zH s5 zL5 0, r6, r7, r8, r9])) rfl ?_
            refine xB.forget (lv1 := [some (.ref 5120), some (.int (zI best)), some (.int (zI (a + 1))), none, none]) (xle_same (xle_same (xle_same (xle_none (xle_none (xle_nil)))))) ?_
            exact ih best (a + 1) H K
          · have H := H.2 h10
            refine xB.run oX7_greatestAgreeing 2 (s := (46, [some (.ref 5120), some (.int (zI y2)), some (.int (zI a)), some (.int (zI y2)), some (.int (zI (y4 - y6)))], [], [r0, r1, r2, r3, r4, zH s5 zL5 0, r6, r7, r8, r9])) rfl ?_
            refine zB.inc oX7_greatestAgreeing rfl (lv2 := [some (.ref 5120), some (.int (zI y2)), some (.int (zI (a + 1))), some (.int (zI y2)), some (.int (zI (y4 - y6)))]) (zi_inc (a := 0) (zi_addp1 a) _ rfl) ?_
            refine xB.run oX7_greatestAgreeing 1 (s := (4, [some (.ref 5120), some (.int (zI y2)), some (.int (zI (a + 1))), some (.int (zI y2)), some (.int (zI (y4 - y6)))], [], [r0, r1, r2, r3, r4, zH s5 zL5 0, r6, r7, r8, r9])) rfl ?_
            refine xB.forget (lv1 := [some (.ref 5120), some (.int (zI y2)), some (.int (zI (a + 1))), none, none]) (xle_same (xle_same (xle_same (xle_none (xle_none (xle_nil)))))) ?_
            exact ih y2 (a + 1) H K
set_option maxRecDepth 20000 in
theorem t_X7_greatestAgreeing (r0 : List va_E) (r1 : List va_E) (r2 : List va_E) (r3 : List va_E) (r4 : List va_E) (s5 : zZ) (r6 : List va_E) (r7 : List va_E) (r8 : List va_E) (r9 : List va_E) {rr : Int} (H : d_X7_greatestAgreeing s5 = some rr) : xC MX7_greatestAgreeing 1 [.ref 5120] ([r0, r1, r2, r3, r4, zH s5 zL5 0, r6, r7, r8, r9]) (some (.int (zI rr))) ([r0, r1, r2, r3, r4, zH s5 zL5 0, r6, r7, r8, r9]) := by
  refine ⟨Nat.le_of_ble_eq_true rfl, ?_⟩
  show xBody MX7_greatestAgreeing 1 0 [some (.ref 5120), none, none, none, none] [] ([r0, r1, r2, r3, r4, zH s5 zL5 0, r6, r7, r8, r9]) _ _
  unfold d_X7_greatestAgreeing at H
  refine xB.run oX7_greatestAgreeing 4 (s := (4, [some (.ref 5120), some (.int (zI 0)), some (.int (zI 0)), none, none], [], [r0, r1, r2, r3, r4, zH s5 zL5 0, r6, r7, r8, r9])) rfl ?_
  obtain ⟨y15, e16, H⟩ := zbd H
  refine l_X7_greatestAgreeing_4 r0 r1 r2 r3 r4 s5 r6 r7 r8 r9  _ 0 0 e16 ?_
  refine xB.run oX7_greatestAgreeing 1 (s := (53, [some (.ref 5120), some (.int (zI y15.1)), some (.int (zI y15.2)), none, none], [.int (zI y15.1)], [r0, r1, r2, r3, r4, zH s5 zL5 0, r6, r7, r8, r9])) rfl ?_
  obtain rfl := Option.some.inj H
  exact xB.ret oX7_greatestAgreeing (r1 := some (.int (zI y15.1))) rfl rfl rfl
def d_X7_endOf (s5 : zZ) (set : Int) (en : Int) (wh : Int) : Option (Int) := if (zr en) then (if en ≠ 0 then ((d_X7_leastHigh s5 set).bind fun y2 => if (zr y2) then (if (0 : Int) ≤ y2 then (if (zr en) then (if en ≠ 0 then (if (0 ≤ y2 ∧ y2 < 12) then (if zr (s5 3 y2.toNat) then (if (0 ≤ y2 ∧ y2 < 12) then (if zr (s5 1 y2.toNat) then ((d_X11_inLeastTerms (s5 3 y2.toNat) (s5 1 y2.toNat) wh).bind fun y6 => some y6) else none) else none) else none) else none) else (if (0 ≤ y2 ∧ y2 < 12) then (if zr (s5 2 y2.toNat) then (if (0 ≤ y2 ∧ y2 < 12) then (if zr (s5 1 y2.toNat) then ((d_X11_inLeastTerms (s5 2 y2.toNat) (s5 1 y2.toNat) wh).bind fun y12 => some y12) else none) else none) else none) else none)) else none) else some (-9223372036854775808)) else none) else ((d_X7_greatestLow s5 set).bind fun y20 => if (zr y20) then (if (0 : Int) ≤ y20 then (if (zr en) then (if en ≠ 0 then (if (0 ≤ y20 ∧ y20 < 12) then (if zr (s5 3 y20.toNat) then (if (0 ≤ y20 ∧ y20 < 12) then (if zr (s5 1 y20.toNat) then ((d_X11_inLeastTerms (s5 3 y20.toNat) (s5 1 y20.toNat) wh).bind fun y24 => some y24) else none) else none) else none) else none) else (if (0 ≤ y20 ∧ y20 < 12) then (if zr (s5 2 y20.toNat) then (if (0 ≤ y20 ∧ y20 < 12) then (if zr (s5 1 y20.toNat) then ((d_X11_inLeastTerms (s5 2 y20.toNat) (s5 1 y20.toNat) wh).bind fun y30 => some y30) else none) else none) else none) else none)) else none) else some (-9223372036854775808)) else none)) else none
set_option maxRecDepth 20000 in
theorem t_X7_endOf (r0 : List va_E) (r1 : List va_E) (r2 : List va_E) (r3 : List va_E) (r4 : List va_E) (s5 : zZ) (r6 : List va_E) (r7 : List va_E) (r8 : List va_E) (r9 : List va_E) (set : Int) (en : Int) (wh : Int) {rr : Int} (H : d_X7_endOf s5 set en wh = some rr) : xC MX7_endOf 3 [.ref 5120, .int (zI set), .int (zI en), .int (zI wh)] ([r0, r1, r2, r3, r4, zH s5 zL5 0, r6, r7, r8, r9]) (some (.long (zJ rr))) ([r0, r1, r2, r3, r4, zH s5 zL5 0, r6, r7, r8, r9]) := by
  refine ⟨Nat.le_of_ble_eq_true rfl, ?_⟩
  show xBody MX7_endOf 3 0 [some (.ref 5120), some (.int (zI set)), some (.int (zI en)), some (.int (zI wh)), none] [] ([r0, r1, r2, r3, r4, zH s5 zL5 0, r6, r7, r8, r9]) _ _
  unfold d_X7_endOf at H
  refine xB.run oX7_endOf 1 (s := (1, [some (.ref 5120), some (.int (zI set)), some (.int (zI en)), some (.int (zI wh)), none], [.int (zI en)], [r0, r1, r2, r3, r4, zH s5 zL5 0, r6, r7, r8, r9])) rfl ?_
  obtain ⟨g38, H⟩ := zgd H
  have H := zif H
  refine xB.brE oX7_endOf (P := en ≠ 0) rfl (zc_ne (a := en) (b := 0) ⟨g38, by decide⟩) (fun h1 => ?_) (fun h1 => ?_)
  · have H := H.1 h1
    refine xB.run oX7_endOf 2 (s := (14, [some (.ref 5120), some (.int (zI set)), some (.int (zI en)), some (.int (zI wh)), none], [.int (zI set), .ref 5120], [r0, r1, r2, r3, r4, zH s5 zL5 0, r6, r7, r8, r9])) rfl ?_
    obtain ⟨y2, e3, H⟩ := zbd H
    refine xB.call oX7_endOf (M2 := MX7_leastHigh) rfl rfl ((t_X7_leastHigh r0 r1 r2 r3 r4 s5 r6 r7 r8 r9 set e3).deep (by decide : 0 ≤ 2)) ?_
    show xBody MX7_endOf 3 17 [some (.ref 5120), some (.int (zI set)), some (.int (zI en)), some (.int (zI wh)), none] [.int (zI y2)] ([r0, r1, r2, r3, r4, zH s5 zL5 0, r6, r7, r8, r9]) _ _
    refine xB.run oX7_endOf 2 (s := (21, [some (.ref 5120), some (.int (zI set)), some (.int (zI en)), some (.int (zI wh)), some (.int (zI y2))], [.int (zI y2)], [r0, r1, r2, r3, r4, zH s5 zL5 0, r6, r7, r8, r9])) rfl ?_
    obtain ⟨g19, H⟩ := zgd H
    have H := zif H
    refine xB.brE oX7_endOf (P := (0 : Int) ≤ y2) rfl (zc_ge (a := y2) (b := 0) ⟨g19, by decide⟩) (fun h4 => ?_) (fun h4 => ?_)
    · have H := H.1 h4
      refine xB.run oX7_endOf 1 (s := (29, [some (.ref 5120), some (.int (zI set)), some (.int (zI en)), some (.int (zI wh)), some (.int (zI y2))], [.int (zI en)], [r0, r1, r2, r3, r4, zH s5 zL5 0, r6, r7, r8, r9])) rfl ?_
      obtain ⟨g18, H⟩ := zgd H
      have H := zif H
      refine xB.brE oX7_endOf (P := en ≠ 0) rfl (zc_ne (a := en) (b := 0) ⟨g18, by decide⟩) (fun h5 => ?_) (fun h5 => ?_)
      · have H := H.1 h5
        refine xB.run oX7_endOf 3 (s := (49, [some (.ref 5120), some (.int (zI set)), some (.int (zI en)), some (.int (zI wh)), some (.int (zI y2))], [.int (zI y2), .ref 5123], [r0, r1, r2, r3, r4, zH s5 zL5 0, r6, r7, r8, r9])) rfl ?_
        obtain ⟨g11, H⟩ := zgd H
        refine zB.iald oX7_endOf (g := 5) (p := 3) (N := 12) (i := y2) rfl rfl (by decide) rfl rfl (by decide) g11 ?_
        obtain ⟨g10, H⟩ := zgd H
        refine zB.opl oX7_endOf rfl (zi_i2l g10) ?_
        refine xB.run oX7_endOf 3 (s := (57, [some (.ref 5120), some (.int (zI set)), some (.int (zI en)), some (.int (zI wh)), some (.int (zI y2))], [.int (zI y2), .ref 5121, .long (zJ (s5 3 y2.toNat))], [r0, r1, r2, r3, r4, zH s5 zL5 0, r6, r7, r8, r9])) rfl ?_
        obtain ⟨g9, H⟩ := zgd H
        refine zB.iald oX7_endOf (g := 5) (p := 1) (N := 12) (i := y2) rfl rfl (by decide) rfl rfl (by decide) g9 ?_
        obtain ⟨g8, H⟩ := zgd H
        refine zB.opl oX7_endOf rfl (zi_i2l g8) ?_
        refine xB.run oX7_endOf 1 (s := (60, [some (.ref 5120), some (.int (zI set)), some (.int (zI en)), some (.int (zI wh)), some (.int (zI y2))], [.int (zI wh), .long (zJ (s5 1 y2.toNat)), .long (zJ (s5 3 y2.toNat))], [r0, r1, r2, r3, r4, zH s5 zL5 0, r6, r7, r8, r9])) rfl ?_
        obtain ⟨y6, e7, H⟩ := zbd H
        refine xB.call oX7_endOf (M2 := MX11_inLeastTerms) rfl rfl ((t_X11_inLeastTerms r0 r1 r2 r3 r4 (zH s5 zL5 0) r6 r7 r8 r9 (s5 3 y2.toNat) (s5 1 y2.toNat) wh e7).deep (by decide : 2 ≤ 2)) ?_
        show xBody MX7_endOf 3 63 [some (.ref 5120), some (.int (zI set)), some (.int (zI en)), some (.int (zI wh)), some (.int (zI y2))] [.long (zJ y6)] ([r0, r1, r2, r3, r4, zH s5 zL5 0, r6, r7, r8, r9]) _ _
        obtain rfl := Option.some.inj H
        exact xB.ret oX7_endOf (r1 := some (.long (zJ y6))) rfl rfl rfl
      · have H := H.2 h5
        refine xB.run oX7_endOf 3 (s := (38, [some (.ref 5120), some (.int (zI set)), some (.int (zI en)), some (.int (zI wh)), some (.int (zI y2))], [.int (zI y2), .ref 5122], [r0, r1, r2, r3, r4, zH s5 zL5 0, r6, r7, r8, r9])) rfl ?_
        obtain ⟨g17, H⟩ := zgd H
        refine zB.iald oX7_endOf (g := 5) (p := 2) (N := 12) (i := y2) rfl rfl (by decide) rfl rfl (by decide) g17 ?_
        obtain ⟨g16, H⟩ := zgd H
        refine zB.opl oX7_endOf rfl (zi_i2l g16) ?_
        refine xB.run oX7_endOf 4 (s := (57, [some (.ref 5120), some (.int (zI set)), some (.int (zI en)), some (.int (zI wh)), some (.int (zI y2))], [.int (zI y2), .ref 5121, .long (zJ (s5 2 y2.toNat))], [r0, r1, r2, r3, r4, zH s5 zL5 0, r6, r7, r8, r9])) rfl ?_
        obtain ⟨g15, H⟩ := zgd H
        refine zB.iald oX7_endOf (g := 5) (p := 1) (N := 12) (i := y2) rfl rfl (by decide) rfl rfl (by decide) g15 ?_
        obtain ⟨g14, H⟩ := zgd H
        refine zB.opl oX7_endOf rfl (zi_i2l g14) ?_
        refine xB.run oX7_endOf 1 (s := (60, [some (.ref 5120), some (.int (zI set)), some (.int (zI en)), some (.int (zI wh)), some (.int (zI y2))], [.int (zI wh), .long (zJ (s5 1 y2.toNat)), .long (zJ (s5 2 y2.toNat))], [r0, r1, r2, r3, r4, zH s5 zL5 0, r6, r7, r8, r9])) rfl ?_
        obtain ⟨y12, e13, H⟩ := zbd H
        refine xB.call oX7_endOf (M2 := MX11_inLeastTerms) rfl rfl ((t_X11_inLeastTerms r0 r1 r2 r3 r4 (zH s5 zL5 0) r6 r7 r8 r9 (s5 2 y2.toNat) (s5 1 y2.toNat) wh e13).deep (by decide : 2 ≤ 2)) ?_
        show xBody MX7_endOf 3 63 [some (.ref 5120), some (.int (zI set)), some (.int (zI en)), some (.int (zI wh)), some (.int (zI y2))] [.long (zJ y12)] ([r0, r1, r2, r3, r4, zH s5 zL5 0, r6, r7, r8, r9]) _ _
        obtain rfl := Option.some.inj H
        exact xB.ret oX7_endOf (r1 := some (.long (zJ y12))) rfl rfl rfl
    · have H := H.2 h4
      refine xB.run oX7_endOf 1 (s := (27, [some (.ref 5120), some (.int (zI set)), some (.int (zI en)), some (.int (zI wh)), some (.int (zI y2))], [.long (zJ (-9223372036854775808))], [r0, r1, r2, r3, r4, zH s5 zL5 0, r6, r7, r8, r9])) rfl ?_
      obtain rfl := Option.some.inj H
      exact xB.ret oX7_endOf (r1 := some (.long (zJ (-9223372036854775808)))) rfl rfl rfl
  · have H := H.2 h1
    refine xB.run oX7_endOf 2 (s := (6, [some (.ref 5120), some (.int (zI set)), some (.int (zI en)), some (.int (zI wh)), none], [.int (zI set), .ref 5120], [r0, r1, r2, r3, r4, zH s5 zL5 0, r6, r7, r8, r9])) rfl ?_
    obtain ⟨y20, e21, H⟩ := zbd H
    refine xB.call oX7_endOf (M2 := MX7_greatestLow) rfl rfl ((t_X7_greatestLow r0 r1 r2 r3 r4 s5 r6 r7 r8 r9 set e21).deep (by decide : 0 ≤ 2)) ?_
    show xBody MX7_endOf 3 9 [some (.ref 5120), some (.int (zI set)), some (.int (zI en)), some (.int (zI wh)), none] [.int (zI y20)] ([r0, r1, r2, r3, r4, zH s5 zL5 0, r6, r7, r8, r9]) _ _
    refine xB.run oX7_endOf 3 (s := (21, [some (.ref 5120), some (.int (zI set)), some (.int (zI en)), some (.int (zI wh)), some (.int (zI y20))], [.int (zI y20)], [r0, r1, r2, r3, r4, zH s5 zL5 0, r6, r7, r8, r9])) rfl ?_
    obtain ⟨g37, H⟩ := zgd H
    have H := zif H
    refine xB.brE oX7_endOf (P := (0 : Int) ≤ y20) rfl (zc_ge (a := y20) (b := 0) ⟨g37, by decide⟩) (fun h22 => ?_) (fun h22 => ?_)
    · have H := H.1 h22
      refine xB.run oX7_endOf 1 (s := (29, [some (.ref 5120), some (.int (zI set)), some (.int (zI en)), some (.int (zI wh)), some (.int (zI y20))], [.int (zI en)], [r0, r1, r2, r3, r4, zH s5 zL5 0, r6, r7, r8, r9])) rfl ?_
      obtain ⟨g36, H⟩ := zgd H
      have H := zif H
      refine xB.brE oX7_endOf (P := en ≠ 0) rfl (zc_ne (a := en) (b := 0) ⟨g36, by decide⟩) (fun h23 => ?_) (fun h23 => ?_)
      · have H := H.1 h23
        refine xB.run oX7_endOf 3 (s := (49, [some (.ref 5120), some (.int (zI set)), some (.int (zI en)), some (.int (zI wh)), some (.int (zI y20))], [.int (zI y20), .ref 5123], [r0, r1, r2, r3, r4, zH s5 zL5 0, r6, r7, r8, r9])) rfl ?_
        obtain ⟨g29, H⟩ := zgd H
        refine zB.iald oX7_endOf (g := 5) (p := 3) (N := 12) (i := y20) rfl rfl (by decide) rfl rfl (by decide) g29 ?_
        obtain ⟨g28, H⟩ := zgd H
        refine zB.opl oX7_endOf rfl (zi_i2l g28) ?_
        refine xB.run oX7_endOf 3 (s := (57, [some (.ref 5120), some (.int (zI set)), some (.int (zI en)), some (.int (zI wh)), some (.int (zI y20))], [.int (zI y20), .ref 5121, .long (zJ (s5 3 y20.toNat))], [r0, r1, r2, r3, r4, zH s5 zL5 0, r6, r7, r8, r9])) rfl ?_
        obtain ⟨g27, H⟩ := zgd H
        refine zB.iald oX7_endOf (g := 5) (p := 1) (N := 12) (i := y20) rfl rfl (by decide) rfl rfl (by decide) g27 ?_
        obtain ⟨g26, H⟩ := zgd H
        refine zB.opl oX7_endOf rfl (zi_i2l g26) ?_
        refine xB.run oX7_endOf 1 (s := (60, [some (.ref 5120), some (.int (zI set)), some (.int (zI en)), some (.int (zI wh)), some (.int (zI y20))], [.int (zI wh), .long (zJ (s5 1 y20.toNat)), .long (zJ (s5 3 y20.toNat))], [r0, r1, r2, r3, r4, zH s5 zL5 0, r6, r7, r8, r9])) rfl ?_
        obtain ⟨y24, e25, H⟩ := zbd H
        refine xB.call oX7_endOf (M2 := MX11_inLeastTerms) rfl rfl ((t_X11_inLeastTerms r0 r1 r2 r3 r4 (zH s5 zL5 0) r6 r7 r8 r9 (s5 3 y20.toNat) (s5 1 y20.toNat) wh e25).deep (by decide : 2 ≤ 2)) ?_
        show xBody MX7_endOf 3 63 [some (.ref 5120), some (.int (zI set)), some (.int (zI en)), some (.int (zI wh)), some (.int (zI y20))] [.long (zJ y24)] ([r0, r1, r2, r3, r4, zH s5 zL5 0, r6, r7, r8, r9]) _ _
        obtain rfl := Option.some.inj H
        exact xB.ret oX7_endOf (r1 := some (.long (zJ y24))) rfl rfl rfl
      · have H := H.2 h23
        refine xB.run oX7_endOf 3 (s := (38, [some (.ref 5120), some (.int (zI set)), some (.int (zI en)), some (.int (zI wh)), some (.int (zI y20))], [.int (zI y20), .ref 5122], [r0, r1, r2, r3, r4, zH s5 zL5 0, r6, r7, r8, r9])) rfl ?_
        obtain ⟨g35, H⟩ := zgd H
        refine zB.iald oX7_endOf (g := 5) (p := 2) (N := 12) (i := y20) rfl rfl (by decide) rfl rfl (by decide) g35 ?_
        obtain ⟨g34, H⟩ := zgd H
        refine zB.opl oX7_endOf rfl (zi_i2l g34) ?_
        refine xB.run oX7_endOf 4 (s := (57, [some (.ref 5120), some (.int (zI set)), some (.int (zI en)), some (.int (zI wh)), some (.int (zI y20))], [.int (zI y20), .ref 5121, .long (zJ (s5 2 y20.toNat))], [r0, r1, r2, r3, r4, zH s5 zL5 0, r6, r7, r8, r9])) rfl ?_
        obtain ⟨g33, H⟩ := zgd H
        refine zB.iald oX7_endOf (g := 5) (p := 1) (N := 12) (i := y20) rfl rfl (by decide) rfl rfl (by decide) g33 ?_
        obtain ⟨g32, H⟩ := zgd H
        refine zB.opl oX7_endOf rfl (zi_i2l g32) ?_
        refine xB.run oX7_endOf 1 (s := (60, [some (.ref 5120), some (.int (zI set)), some (.int (zI en)), some (.int (zI wh)), some (.int (zI y20))], [.int (zI wh), .long (zJ (s5 1 y20.toNat)), .long (zJ (s5 2 y20.toNat))], [r0, r1, r2, r3, r4, zH s5 zL5 0, r6, r7, r8, r9])) rfl ?_
        obtain ⟨y30, e31, H⟩ := zbd H
        refine xB.call oX7_endOf (M2 := MX11_inLeastTerms) rfl rfl ((t_X11_inLeastTerms r0 r1 r2 r3 r4 (zH s5 zL5 0) r6 r7 r8 r9 (s5 2 y20.toNat) (s5 1 y20.toNat) wh e31).deep (by decide : 2 ≤ 2)) ?_
        show xBody MX7_endOf 3 63 [some (.ref 5120), some (.int (zI set)), some (.int (zI en)), some (.int (zI wh)), some (.int (zI y20))] [.long (zJ y30)] ([r0, r1, r2, r3, r4, zH s5 zL5 0, r6, r7, r8, r9]) _ _
        obtain rfl := Option.some.inj H
        exact xB.ret oX7_endOf (r1 := some (.long (zJ y30))) rfl rfl rfl
    · have H := H.2 h22
      refine xB.run oX7_endOf 1 (s := (27, [some (.ref 5120), some (.int (zI set)), some (.int (zI en)), some (.int (zI wh)), some (.int (zI y20))], [.long (zJ (-9223372036854775808))], [r0, r1, r2, r3, r4, zH s5 zL5 0, r6, r7, r8, r9])) rfl ?_
      obtain rfl := Option.some.inj H
      exact xB.ret oX7_endOf (r1 := some (.long (zJ (-9223372036854775808)))) rfl rfl rfl
