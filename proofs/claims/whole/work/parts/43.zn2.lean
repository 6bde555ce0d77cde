/-! 43.zn2 -/
def d_X4_differenceOf (s3 : zZ) (s8 : zZ) (ks : List Int) (way : Int) (b : Int) : Option (Int) := if (b.toNat < ks.length ∧ b.toNat < 1024) then ((d_X4_isJoint s3 (s8 b.toNat 1)).bind fun y1 => if (zr y1) then (if y1 = 0 then some 0 else (if (b.toNat < ks.length ∧ b.toNat < 1024) then ((d_X4_isJoint s3 (s8 b.toNat 2)).bind fun y4 => if (zr y4) then (if y4 ≠ 0 then (if (zr way) then (if way ≠ 0 then (if (b.toNat < ks.length ∧ b.toNat < 1024) then (if (0 ≤ (s8 b.toNat 2) ∧ (s8 b.toNat 2) < 8) then (if (b.toNat < ks.length ∧ b.toNat < 1024) then (if (0 ≤ (s8 b.toNat 1) ∧ (s8 b.toNat 1) < 8) then some ((s3 3 (s8 b.toNat 2).toNat) - (s3 3 (s8 b.toNat 1).toNat)) else none) else none) else none) else none) else (if (b.toNat < ks.length ∧ b.toNat < 1024) then (if (0 ≤ (s8 b.toNat 2) ∧ (s8 b.toNat 2) < 8) then (if (b.toNat < ks.length ∧ b.toNat < 1024) then (if (0 ≤ (s8 b.toNat 1) ∧ (s8 b.toNat 1) < 8) then some ((s3 2 (s8 b.toNat 2).toNat) - (s3 2 (s8 b.toNat 1).toNat)) else none) else none) else none) else none)) else none) else some 0) else none) else none)) else none) else none
set_option maxRecDepth 20000 in
theorem t_X4_differenceOf (r0 : List va_E) (r1 : List va_E) (r2 : List va_E) (s3 : zZ) (r4 : List va_E) (r5 : List va_E) (r6 : List va_E) (r7 : List va_E) (s8 : zZ) (r9 : List va_E) (ks : List Int) (way : Int) (b : Int) {rr : Int} (H : d_X4_differenceOf s3 s8 ks way b = some rr) : xC MX4_differenceOf 1 [.ref 3072, .ref (1024 * 8 + b.toNat), .int (zI way)] ([r0, r1, r2, zH s3 zL3 0, r4, r5, r6, r7, zH s8 (zLb ks) 0, r9]) (some (.int (zI rr))) ([r0, r1, r2, zH s3 zL3 0, r4, r5, r6, r7, zH s8 (zLb ks) 0, r9]) := by
  refine ⟨Nat.le_of_ble_eq_true rfl, ?_⟩
  show xBody MX4_differenceOf 1 0 [some (.ref 3072), some (.ref (1024 * 8 + b.toNat)), some (.int (zI way))] [] ([r0, r1, r2, zH s3 zL3 0, r4, r5, r6, r7, zH s8 (zLb ks) 0, r9]) _ _
  unfold d_X4_differenceOf at H
  refine xB.run oX4_differenceOf 2 (s := (2, [some (.ref 3072), some (.ref (1024 * 8 + b.toNat)), some (.int (zI way))], [.ref (1024 * 8 + b.toNat), .ref 3072], [r0, r1, r2, zH s3 zL3 0, r4, r5, r6, r7, zH s8 (zLb ks) 0, r9])) rfl ?_
  obtain ⟨g20, H⟩ := zgd H
  refine zB.getI oX4_differenceOf (g := 8) (p := b.toNat) (k := 1) (y := 0) rfl rfl (by omega) rfl (zLb_at _ g20.1) (zks_bar _ 1 1 1 _ rfl rfl rfl) rfl ?_
  obtain ⟨y1, e2, H⟩ := zbd H
  refine xB.call oX4_differenceOf (M2 := MX4_isJoint) rfl rfl ((t_X4_isJoint r0 r1 r2 s3 r4 r5 r6 r7 (zH s8 (zLb ks) 0) r9 (s8 b.toNat 1) e2).deep (by decide : 0 ≤ 0)) ?_
  show xBody MX4_differenceOf 1 8 [some (.ref 3072), some (.ref (1024 * 8 + b.toNat)), some (.int (zI way))] [.int (zI y1)] ([r0, r1, r2, zH s3 zL3 0, r4, r5, r6, r7, zH s8 (zLb ks) 0, r9]) _ _
  obtain ⟨g19, H⟩ := zgd H
  have H := zif H
  refine xB.brE oX4_differenceOf (P := y1 = 0) rfl (zc_eq (a := y1) (b := 0) ⟨g19, by decide⟩) (fun h3 => ?_) (fun h3 => ?_)
  · have H := H.1 h3
    refine xB.run oX4_differenceOf 1 (s := (23, [some (.ref 3072), some (.ref (1024 * 8 + b.toNat)), some (.int (zI way))], [.int (zI 0)], [r0, r1, r2, zH s3 zL3 0, r4, r5, r6, r7, zH s8 (zLb ks) 0, r9])) rfl ?_
    obtain rfl := Option.some.inj H
    exact xB.ret oX4_differenceOf (r1 := some (.int (zI 0))) rfl rfl rfl
  · have H := H.2 h3
    refine xB.run oX4_differenceOf 2 (s := (13, [some (.ref 3072), some (.ref (1024 * 8 + b.toNat)), some (.int (zI way))], [.ref (1024 * 8 + b.toNat), .ref 3072], [r0, r1, r2, zH s3 zL3 0, r4, r5, r6, r7, zH s8 (zLb ks) 0, r9])) rfl ?_
    obtain ⟨g18, H⟩ := zgd H
    refine zB.getI oX4_differenceOf (g := 8) (p := b.toNat) (k := 2) (y := 0) rfl rfl (by omega) rfl (zLb_at _ g18.1) (zks_bar _ 2 2 2 _ rfl rfl rfl) rfl ?_
    obtain ⟨y4, e5, H⟩ := zbd H
    refine xB.call oX4_differenceOf (M2 := MX4_isJoint) rfl rfl ((t_X4_isJoint r0 r1 r2 s3 r4 r5 r6 r7 (zH s8 (zLb ks) 0) r9 (s8 b.toNat 2) e5).deep (by decide : 0 ≤ 0)) ?_
    show xBody MX4_differenceOf 1 19 [some (.ref 3072), some (.ref (1024 * 8 + b.toNat)), some (.int (zI way))] [.int (zI y4)] ([r0, r1, r2, zH s3 zL3 0, r4, r5, r6, r7, zH s8 (zLb ks) 0, r9]) _ _
    obtain ⟨g17, H⟩ := zgd H
    have H := zif H
    refine xB.brE oX4_differenceOf (P := y4 ≠ 0) rfl (zc_ne (a := y4) (b := 0) ⟨g17, by decide⟩) (fun h6 => ?_) (fun h6 => ?_)
    · have H := H.1 h6
      refine xB.run oX4_differenceOf 1 (s := (25, [some (.ref 3072), some (.ref (1024 * 8 + b.toNat)), some (.int (zI way))], [.int (zI way)], [r0, r1, r2, zH s3 zL3 0, r4, r5, r6, r7, zH s8 (zLb ks) 0, r9])) rfl ?_
      obtain ⟨g16, H⟩ := zgd H
      have H := zif H
      refine xB.brE oX4_differenceOf (P := way ≠ 0) rfl (zc_ne (a := way) (b := 0) ⟨g16, by decide⟩) (fun h7 => ?_) (fun h7 => ?_)
      · have H := H.1 h7
        refine xB.run oX4_differenceOf 3 (s := (55, [some (.ref 3072), some (.ref (1024 * 8 + b.toNat)), some (.int (zI way))], [.ref (1024 * 8 + b.toNat), .ref 3075], [r0, r1, r2, zH s3 zL3 0, r4, r5, r6, r7, zH s8 (zLb ks) 0, r9])) rfl ?_
        obtain ⟨g11, H⟩ := zgd H
        refine zB.getI oX4_differenceOf (g := 8) (p := b.toNat) (k := 2) (y := 0) rfl rfl (by omega) rfl (zLb_at _ g11.1) (zks_bar _ 2 2 2 _ rfl rfl rfl) rfl ?_
        obtain ⟨g10, H⟩ := zgd H
        refine zB.iald oX4_differenceOf (g := 3) (p := 3) (N := 8) (i := s8 b.toNat 2) rfl rfl (by decide) rfl rfl (by decide) g10 ?_
        refine xB.run oX4_differenceOf 3 (s := (64, [some (.ref 3072), some (.ref (1024 * 8 + b.toNat)), some (.int (zI way))], [.ref (1024 * 8 + b.toNat), .ref 3075, .int (zI (s3 3 (s8 b.toNat 2).toNat))], [r0, r1, r2, zH s3 zL3 0, r4, r5, r6, r7, zH s8 (zLb ks) 0, r9])) rfl ?_
        obtain ⟨g9, H⟩ := zgd H
        refine zB.getI oX4_differenceOf (g := 8) (p := b.toNat) (k := 1) (y := 0) rfl rfl (by omega) rfl (zLb_at _ g9.1) (zks_bar _ 1 1 1 _ rfl rfl rfl) rfl ?_
        obtain ⟨g8, H⟩ := zgd H
        refine zB.iald oX4_differenceOf (g := 3) (p := 3) (N := 8) (i := s8 b.toNat 1) rfl rfl (by decide) rfl rfl (by decide) g8 ?_
        refine zB.opi oX4_differenceOf rfl (zi_sub (s3 3 (s8 b.toNat 2).toNat) (s3 3 (s8 b.toNat 1).toNat)) ?_
        obtain rfl := Option.some.inj H
        exact xB.ret oX4_differenceOf (r1 := some (.int (zI ((s3 3 (s8 b.toNat 2).toNat) - (s3 3 (s8 b.toNat 1).toNat))))) rfl rfl rfl
      · have H := H.2 h7
        refine xB.run oX4_differenceOf 3 (s := (33, [some (.ref 3072), some (.ref (1024 * 8 + b.toNat)), some (.int (zI way))], [.ref (1024 * 8 + b.toNat), .ref 3074], [r0, r1, r2, zH s3 zL3 0, r4, r5, r6, r7, zH s8 (zLb ks) 0, r9])) rfl ?_
        obtain ⟨g15, H⟩ := zgd H
        refine zB.getI oX4_differenceOf (g := 8) (p := b.toNat) (k := 2) (y := 0) rfl rfl (by omega) rfl (zLb_at _ g15.1) (zks_bar _ 2 2 2 _ rfl rfl rfl) rfl ?_
        obtain ⟨g14, H⟩ := zgd H
        refine zB.iald oX4_differenceOf (g := 3) (p := 2) (N := 8) (i := s8 b.toNat 2) rfl rfl (by decide) rfl rfl (by decide) g14 ?_
        refine xB.run oX4_differenceOf 3 (s := (42, [some (.ref 3072), some (.ref (1024 * 8 + b.toNat)), some (.int (zI way))], [.ref (1024 * 8 + b.toNat), .ref 3074, .int (zI (s3 2 (s8 b.toNat 2).toNat))], [r0, r1, r2, zH s3 zL3 0, r4, r5, r6, r7, zH s8 (zLb ks) 0, r9])) rfl ?_
        obtain ⟨g13, H⟩ := zgd H
        refine zB.getI oX4_differenceOf (g := 8) (p := b.toNat) (k := 1) (y := 0) rfl rfl (by omega) rfl (zLb_at _ g13.1) (zks_bar _ 1 1 1 _ rfl rfl rfl) rfl ?_
        obtain ⟨g12, H⟩ := zgd H
        refine zB.iald oX4_differenceOf (g := 3) (p := 2) (N := 8) (i := s8 b.toNat 1) rfl rfl (by decide) rfl rfl (by decide) g12 ?_
        refine zB.opi oX4_differenceOf rfl (zi_sub (s3 2 (s8 b.toNat 2).toNat) (s3 2 (s8 b.toNat 1).toNat)) ?_
        refine xB.run oX4_differenceOf 1 (s := (69, [some (.ref 3072), some (.ref (1024 * 8 + b.toNat)), some (.int (zI way))], [.int (zI ((s3 2 (s8 b.toNat 2).toNat) - (s3 2 (s8 b.toNat 1).toNat)))], [r0, r1, r2, zH s3 zL3 0, r4, r5, r6, r7, zH s8 (zLb ks) 0, r9])) rfl ?_
        obtain rfl := Option.some.inj H
        exact xB.ret oX4_differenceOf (r1 := some (.int (zI ((s3 2 (s8 b.toNat 2).toNat) - (s3 2 (s8 b.toNat 1).toNat))))) rfl rfl rfl
    · have H := H.2 h6
      refine xB.run oX4_differenceOf 1 (s := (23, [some (.ref 3072), some (.ref (1024 * 8 + b.toNat)), some (.int (zI way))], [.int (zI 0)], [r0, r1, r2, zH s3 zL3 0, r4, r5, r6, r7, zH s8 (zLb ks) 0, r9])) rfl ?_
      obtain rfl := Option.some.inj H
      exact xB.ret oX4_differenceOf (r1 := some (.int (zI 0))) rfl rfl rfl
def d_X4_rowOf (s3 : zZ) (jt : Int) (way : Int) : Option (Int) := (d_X4_isFree s3 jt).bind fun y1 => if (zr y1) then (if y1 = 0 then some (-1) else (if (0 ≤ jt ∧ jt < 8) then some ((2 * (s3 4 jt.toNat)) + way) else none)) else none
set_option maxRecDepth 20000 in
theorem t_X4_rowOf (r0 : List va_E) (r1 : List va_E) (r2 : List va_E) (s3 : zZ) (r4 : List va_E) (r5 : List va_E) (r6 : List va_E) (r7 : List va_E) (r8 : List va_E) (r9 : List va_E) (jt : Int) (way : Int) {rr : Int} (H : d_X4_rowOf s3 jt way = some rr) : xC MX4_rowOf 2 [.ref 3072, .int (zI jt), .int (zI way)] ([r0, r1, r2, zH s3 zL3 0, r4, r5, r6, r7, r8, r9]) (some (.int (zI rr))) ([r0, r1, r2, zH s3 zL3 0, r4, r5, r6, r7, r8, r9]) := by
  refine ⟨Nat.le_of_ble_eq_true rfl, ?_⟩
  show xBody MX4_rowOf 2 0 [some (.ref 3072), some (.int (zI jt)), some (.int (zI way))] [] ([r0, r1, r2, zH s3 zL3 0, r4, r5, r6, r7, r8, r9]) _ _
  unfold d_X4_rowOf at H
  refine xB.run oX4_rowOf 2 (s := (2, [some (.ref 3072), some (.int (zI jt)), some (.int (zI way))], [.int (zI jt), .ref 3072], [r0, r1, r2, zH s3 zL3 0, r4, r5, r6, r7, r8, r9])) rfl ?_
  obtain ⟨y1, e2, H⟩ := zbd H
  refine xB.call oX4_rowOf (M2 := MX4_isFree) rfl rfl ((t_X4_isFree r0 r1 r2 s3 r4 r5 r6 r7 r8 r9 jt e2).deep (by decide : 1 ≤ 1)) ?_
  show xBody MX4_rowOf 2 5 [some (.ref 3072), some (.int (zI jt)), some (.int (zI way))] [.int (zI y1)] ([r0, r1, r2, zH s3 zL3 0, r4, r5, r6, r7, r8, r9]) _ _
  obtain ⟨g5, H⟩ := zgd H
  have H := zif H
  refine xB.brE oX4_rowOf (P := y1 = 0) rfl (zc_eq (a := y1) (b := 0) ⟨g5, by decide⟩) (fun h3 => ?_) (fun h3 => ?_)
  · have H := H.1 h3
    refine xB.run oX4_rowOf 1 (s := (22, [some (.ref 3072), some (.int (zI jt)), some (.int (zI way))], [.int (zI (-1))], [r0, r1, r2, zH s3 zL3 0, r4, r5, r6, r7, r8, r9])) rfl ?_
    obtain rfl := Option.some.inj H
    exact xB.ret oX4_rowOf (r1 := some (.int (zI (-1)))) rfl rfl rfl
  · have H := H.2 h3
    refine xB.run oX4_rowOf 4 (s := (14, [some (.ref 3072), some (.int (zI jt)), some (.int (zI way))], [.int (zI jt), .ref 3076, .int (zI 2)], [r0, r1, r2, zH s3 zL3 0, r4, r5, r6, r7, r8, r9])) rfl ?_
    obtain ⟨g4, H⟩ := zgd H
    refine zB.iald oX4_rowOf (g := 3) (p := 4) (N := 8) (i := jt) rfl rfl (by decide) rfl rfl (by decide) g4 ?_
    refine zB.opi oX4_rowOf rfl (zi_mul 2 (s3 4 jt.toNat)) ?_
    refine xB.run oX4_rowOf 1 (s := (17, [some (.ref 3072), some (.int (zI jt)), some (.int (zI way))], [.int (zI way), .int (zI (2 * (s3 4 jt.toNat)))], [r0, r1, r2, zH s3 zL3 0, r4, r5, r6, r7, r8, r9])) rfl ?_
    refine zB.opi oX4_rowOf rfl (zi_add (2 * (s3 4 jt.toNat)) way) ?_
    refine xB.run oX4_rowOf 1 (s := (22, [some (.ref 3072), some (.int (zI jt)), some (.int (zI way))], [.int (zI ((2 * (s3 4 jt.toNat)) + way))], [r0, r1, r2, zH s3 zL3 0, r4, r5, r6, r7, r8, r9])) rfl ?_
    obtain rfl := Option.some.inj H
    exact xB.ret oX4_rowOf (r1 := some (.int (zI ((2 * (s3 4 jt.toNat)) + way)))) rfl rfl rfl
def d_X4_addForces_2 (s8 : zZ) (ks : List Int) (w1 : Int) : Nat → Int → zZ → Option (Int × zZ)
  | 0, _, _ => none
  | uN + 1, way, s3 => if (zr way) then (if (2 : Int) ≤ way then some (way, s3) else ((d_X4_differenceOf s3 s8 ks way w1).bind fun y2 => if (w1.toNat < ks.length ∧ w1.toNat < 1024) then ((d_X4_rowOf s3 (s8 w1.toNat 1) way).bind fun y4 => if (w1.toNat < ks.length ∧ w1.toNat < 1024) then (if zr y2 then ((d_X9f_add s3 y4 (s8 w1.toNat 5) y2).bind fun y6 => if (w1.toNat < ks.length ∧ w1.toNat < 1024) then ((d_X4_rowOf y6 (s8 w1.toNat 2) way).bind fun y8 => if (w1.toNat < ks.length ∧ w1.toNat < 1024) then (if zr (-y2) then ((d_X9f_add y6 y8 (s8 w1.toNat 5) (-y2)).bind fun y10 => d_X4_addForces_2 s8 ks w1 uN (way + 1) y10) else none) else none) else none) else none) else none) else none)) else none
def d_X4_addForces (s3 : zZ) (s8 : zZ) (ks : List Int) (b : Int) : Option (zZ) := (d_X4_addForces_2 s8 ks b zF 0 s3).bind fun y19 => some y19.2
set_option maxRecDepth 20000 in
theorem l_X4_addForces_2 (r0 : List va_E) (r1 : List va_E) (r2 : List va_E) (r4 : List va_E) (r5 : List va_E) (r6 : List va_E) (r7 : List va_E) (s8 : zZ) (r9 : List va_E) (ks : List Int) (w1 : Int) {r : Option Value} {hp1 : xH} : ∀ (uN : Nat) (way : Int) (s3 : zZ) {uX : Int × zZ}, d_X4_addForces_2 s8 ks w1 uN way s3 = some uX → (xBody MX4_addForces 3 65 [some (.ref 3072), some (.ref (1024 * 8 + w1.toNat)), some (.int (zI uX.1)), none] [] ([r0, r1, r2, zH uX.2 zL3 0, r4, r5, r6, r7, zH s8 (zLb ks) 0, r9]) r hp1) → xBody MX4_addForces 3 2 [some (.ref 3072), some (.ref (1024 * 8 + w1.toNat)), some (.int (zI way)), none] [] ([r0, r1, r2, zH s3 zL3 0, r4, r5, r6, r7, zH s8 (zLb ks) 0, r9]) r hp1 := by
  intro uN
  induction uN with
  | zero => intro way s3 uX H K; cases H
  | succ uN ih =>
    intro way s3 uX H K
    unfold d_X4_addForces_2 at H
    refine xB.run oX4_addForces 2 (s := (4, [some (.ref 3072), some (.ref (1024 * 8 + w1.toNat)), some (.int (zI way)), none], [.int (zI 2), .int (zI way)], [r0, r1, r2, zH s3 zL3 0, r4, r5, r6, r7, zH s8 (zLb ks) 0, r9])) rfl ?_
    obtain ⟨g18, H⟩ := zgd H
    have H := zif H
    refine xB.brE oX4_addForces (P := (2 : Int) ≤ way) rfl (zc_ge (a := way) (b := 2) ⟨g18, by decide⟩) (fun h1 => ?_) (fun h1 => ?_)
    · have H := H.1 h1
      obtain rfl := Option.some.inj H
      exact K
    · have H := H.2 h1
      refine xB.run oX4_addForces 3 (s := (10, [some (.ref 3072), some (.ref (1024 * 8 + w1.toNat)), some (.int (zI way)), none], [.int (zI way), .ref (1024 * 8 + w1.toNat), .ref 3072], [r0, r1, r2, zH s3 zL3 0, r4, r5, r6, r7, zH s8 (zLb ks) 0, r9])) rfl ?_
      obtain ⟨y2, e3, H⟩ := zbd H
      refine xB.call oX4_addForces (M2 := MX4_differenceOf) rfl rfl ((t_X4_differenceOf r0 r1 r2 s3 r4 r5 r6 r7 s8 r9 ks way w1 e3).deep (by decide : 1 ≤ 2)) ?_
      show xBody MX4_addForces 3 13 [some (.ref 3072), some (.ref (1024 * 8 + w1.toNat)), some (.int (zI way)), none] [.int (zI y2)] ([r0, r1, r2, zH s3 zL3 0, r4, r5, r6, r7, zH s8 (zLb ks) 0, r9]) _ _
      refine xB.run oX4_addForces 5 (s := (20, [some (.ref 3072), some (.ref (1024 * 8 + w1.toNat)), some (.int (zI way)), some (.int (zI y2))], [.ref (1024 * 8 + w1.toNat), .ref 3072, .ref 3085], [r0, r1, r2, zH s3 zL3 0, r4, r5, r6, r7, zH s8 (zLb ks) 0, r9])) rfl ?_
      obtain ⟨g17, H⟩ := zgd H
      refine zB.getI oX4_addForces (g := 8) (p := w1.toNat) (k := 1) (y := 0) rfl rfl (by omega) rfl (zLb_at _ g17.1) (zks_bar _ 1 1 1 _ rfl rfl rfl) rfl ?_
      refine xB.run oX4_addForces 1 (s := (24, [some (.ref 3072), some (.ref (1024 * 8 + w1.toNat)), some (.int (zI way)), some (.int (zI y2))], [.int (zI way), .int (zI (s8 w1.toNat 1)), .ref 3072, .ref 3085], [r0, r1, r2, zH s3 zL3 0, r4, r5, r6, r7, zH s8 (zLb ks) 0, r9])) rfl ?_
      obtain ⟨y4, e5, H⟩ := zbd H
      refine xB.call oX4_addForces (M2 := MX4_rowOf) rfl rfl ((t_X4_rowOf r0 r1 r2 s3 r4 r5 r6 r7 (zH s8 (zLb ks) 0) r9 (s8 w1.toNat 1) way e5).deep (by decide : 2 ≤ 2)) ?_
      show xBody MX4_addForces 3 27 [some (.ref 3072), some (.ref (1024 * 8 + w1.toNat)), some (.int (zI way)), some (.int (zI y2))] [.int (zI y4), .ref 3085] ([r0, r1, r2, zH s3 zL3 0, r4, r5, r6, r7, zH s8 (zLb ks) 0, r9]) _ _
      refine xB.run oX4_addForces 1 (s := (28, [some (.ref 3072), some (.ref (1024 * 8 + w1.toNat)), some (.int (zI way)), some (.int (zI y2))], [.ref (1024 * 8 + w1.toNat), .int (zI y4), .ref 3085], [r0, r1, r2, zH s3 zL3 0, r4, r5, r6, r7, zH s8 (zLb ks) 0, r9])) rfl ?_
      obtain ⟨g16, H⟩ := zgd H
      refine zB.getI oX4_addForces (g := 8) (p := w1.toNat) (k := 5) (y := 0) rfl rfl (by omega) rfl (zLb_at _ g16.1) (zks_bar _ 5 5 5 _ rfl rfl rfl) rfl ?_
      refine xB.run oX4_addForces 1 (s := (32, [some (.ref 3072), some (.ref (1024 * 8 + w1.toNat)), some (.int (zI way)), some (.int (zI y2))], [.int (zI y2), .int (zI (s8 w1.toNat 5)), .int (zI y4), .ref 3085], [r0, r1, r2, zH s3 zL3 0, r4, r5, r6, r7, zH s8 (zLb ks) 0, r9])) rfl ?_
      obtain ⟨g15, H⟩ := zgd H
      refine zB.opl oX4_addForces rfl (zi_i2l g15) ?_
      obtain ⟨y6, e7, H⟩ := zbd H
      refine xB.call oX4_addForces (M2 := MX9_add) rfl rfl ((t_X9f_add r0 r1 r2 s3 r4 r5 r6 r7 (zH s8 (zLb ks) 0) r9 y4 (s8 w1.toNat 5) y2 e7).deep (by decide : 1 ≤ 2)) ?_
      show xBody MX4_addForces 3 36 [some (.ref 3072), some (.ref (1024 * 8 + w1.toNat)), some (.int (zI way)), some (.int (zI y2))] [] ([r0, r1, r2, zH y6 zL3 0, r4, r5, r6, r7, zH s8 (zLb ks) 0, r9]) _ _
      refine xB.run oX4_addForces 4 (s := (42, [some (.ref 3072), some (.ref (1024 * 8 + w1.toNat)), some (.int (zI way)), some (.int (zI y2))], [.ref (1024 * 8 + w1.toNat), .ref 3072, .ref 3085], [r0, r1, r2, zH y6 zL3 0, r4, r5, r6, r7, zH s8 (zLb ks) 0, r9])) rfl ?_
      obtain ⟨g14, H⟩ := zgd H
      refine zB.getI oX4_addForces (g := 8) (p := w1.toNat) (k := 2) (y := 0) rfl rfl (by omega) rfl (zLb_at _ g14.1) (zks_bar _ 2 2 2 _ rfl rfl rfl) rfl ?_
      refine xB.run oX4_addForces 1 (s := (46, [some (.ref 3072), some (.ref (1024 * 8 + w1.toNat)), some (.int (zI way)), some (.int (zI y2))], [.int (zI way), .int (zI (s8 w1.toNat 2)), .ref 3072, .ref 3085], [r0, r1, r2, zH y6 zL3 0, r4, r5, r6, r7, zH s8 (zLb ks) 0, r9])) rfl ?_
      obtain ⟨y8, e9, H⟩ := zbd H
      refine xB.call oX4_addForces (M2 := MX4_rowOf) rfl rfl ((t_X4_rowOf r0 r1 r2 y6 r4 r5 r6 r7 (zH s8 (zLb ks) 0) r9 (s8 w1.toNat 2) way e9).deep (by decide : 2 ≤ 2)) ?_
      show xBody MX4_addForces 3 49 [some (.ref 3072), some (.ref (1024 * 8 + w1.toNat)), some (.int (zI way)), some (.int (zI y2))] [.int (zI y8), .ref 3085] ([r0, r1, r2, zH y6 zL3 0, r4, r5, r6, r7, zH s8 (zLb ks) 0, r9]) _ _
      refine xB.run oX4_addForces 1 (s := (50, [some (.ref 3072), some (.ref (1024 * 8 + w1.toNat)), some (.int (zI way)), some (.int (zI y2))], [.ref (1024 * 8 + w1.toNat), .int (zI y8), .ref 3085], [r0, r1, r2, zH y6 zL3 0, r4, r5, r6, r7, zH s8 (zLb ks) 0, r9])) rfl ?_
      obtain ⟨g13, H⟩ := zgd H
      refine zB.getI oX4_addForces (g := 8) (p := w1.toNat) (k := 5) (y := 0) rfl rfl (by omega) rfl (zLb_at _ g13.1) (zks_bar _ 5 5 5 _ rfl rfl rfl) rfl ?_
      refine xB.run oX4_addForces 1 (s := (54, [some (.ref 3072), some (.ref (1024 * 8 + w1.toNat)), some (.int (zI way)), some (.int (zI y2))], [.int (zI y2), .int (zI (s8 w1.toNat 5)), .int (zI y8), .ref 3085], [r0, r1, r2, zH y6 zL3 0, r4, r5, r6, r7, zH s8 (zLb ks) 0, r9])) rfl ?_
      refine zB.opi oX4_addForces rfl (zi_neg y2) ?_
      obtain ⟨g12, H⟩ := zgd H
      refine zB.opl oX4_addForces rfl (zi_i2l g12) ?_
      obtain ⟨y10, e11, H⟩ := zbd H
      refine xB.call oX4_addForces (M2 := MX9_add) rfl rfl ((t_X9f_add r0 r1 r2 y6 r4 r5 r6 r7 (zH s8 (zLb ks) 0) r9 y8 (s8 w1.toNat 5) (-y2) e11).deep (by decide : 1 ≤ 2)) ?_
      show xBody MX4_addForces 3 59 [some (.ref 3072), some (.ref (1024 * 8 + w1.toNat)), some (.int (zI way)), some (.int (zI y2))] [] ([r0, r1, r2, zH y10 zL3 0, r4, r5, r6, r7, zH s8 (zLb ks) 0, r9]) _ _
      refine zB.inc oX4_addForces rfl (lv2 := [some (.ref 3072), some (.ref (1024 * 8 + w1.toNat)), some (.int (zI (way + 1))), some (.int (zI y2))]) (zi_inc (a := 0) (zi_addp1 way) _ rfl) ?_
      refine xB.run oX4_addForces 1 (s := (2, [some (.ref 3072), some (.ref (1024 * 8 + w1.toNat)), some (.int (zI (way + 1))), some (.int (zI y2))], [], [r0, r1, r2, zH y10 zL3 0, r4, r5, r6, r7, zH s8 (zLb ks) 0, r9])) rfl ?_
      refine xB.forget (lv1 := [some (.ref 3072), some (.ref (1024 * 8 + w1.toNat)), some (.int (zI (way + 1))), none]) (xle_same (xle_same (xle_same (xle_none (xle_nil))))) ?_
      exact ih (way + 1) y10 H K
set_option maxRecDepth 20000 in
theorem t_X4_addForces (r0 : List va_E) (r1 : List va_E) (r2 : List va_E) (s3 : zZ) (r4 : List va_E) (r5 : List va_E) (r6 : List va_E) (r7 : List va_E) (s8 : zZ) (r9 : List va_E) (ks : List Int) (b : Int) {rr : zZ} (H : d_X4_addForces s3 s8 ks b = some rr) : xC MX4_addForces 3 [.ref 3072, .ref (1024 * 8 + b.toNat)] ([r0, r1, r2, zH s3 zL3 0, r4, r5, r6, r7, zH s8 (zLb ks) 0, r9]) (none) ([r0, r1, r2, zH rr zL3 0, r4, r5, r6, r7, zH s8 (zLb ks) 0, r9]) := by
  refine ⟨Nat.le_of_ble_eq_true rfl, ?_⟩
  show xBody MX4_addForces 3 0 [some (.ref 3072), some (.ref (1024 * 8 + b.toNat)), none, none] [] ([r0, r1, r2, zH s3 zL3 0, r4, r5, r6, r7, zH s8 (zLb ks) 0, r9]) _ _
  unfold d_X4_addForces at H
  refine xB.run oX4_addForces 2 (s := (2, [some (.ref 3072), some (.ref (1024 * 8 + b.toNat)), some (.int (zI 0)), none], [], [r0, r1, r2, zH s3 zL3 0, r4, r5, r6, r7, zH s8 (zLb ks) 0, r9])) rfl ?_
  obtain ⟨y19, e20, H⟩ := zbd H
  refine l_X4_addForces_2 r0 r1 r2 r4 r5 r6 r7 s8 r9 ks b _ 0 s3 e20 ?_
  obtain rfl := Option.some.inj H
  exact xB.ret oX4_addForces (r1 := none) rfl rfl rfl
def d_X4_reckon_38 (s8 : zZ) (ks : List Int) : Nat → Int → zZ → Option (Int × zZ)
  | 0, _, _ => none
  | uN + 1, b, s3 => if (zr b ∧ zr (s3 0 7)) then (if (s3 0 7) ≤ b then some (b, s3) else (if ((0 ≤ b ∧ b < 16) ∧ b < s3 5 0) then (if (b.toNat < ks.length ∧ b.toNat < 1024) then (if (zr (s8 b.toNat 4)) then (if (s8 b.toNat 4) ≠ 0 then (d_X4_reckon_38 s8 ks uN (b + 1) s3) else (if ((0 ≤ b ∧ b < 16) ∧ b < s3 5 0) then ((d_X4_addForces s3 s8 ks b).bind fun y8 => d_X4_reckon_38 s8 ks uN (b + 1) y8) else none)) else none) else none) else none)) else none
def d_X4_reckon_84 (s8 : zZ) (ks : List Int) (b : Int) : Nat → Int → zZ → Option (Int × zZ)
  | 0, _, _ => none
  | uN + 1, v2, s3 => if (zr v2 ∧ zr (2 * (s3 0 5))) then (if (2 * (s3 0 5)) ≤ v2 then some (v2, s3) else (if (0 ≤ b ∧ b < 6) then (if ((b.toNat < 6) ∧ (0 ≤ v2 ∧ v2 < 8)) then (if zr (-(s3 (7 + b.toNat) v2.toNat)) then ((d_X9f_add s3 v2 ((s3 0 11) + b) (-(s3 (7 + b.toNat) v2.toNat))).bind fun y19 => d_X4_reckon_84 s8 ks b uN (v2 + 1) y19) else none) else none) else none)) else none
def d_X4_reckon_76 (s8 : zZ) (ks : List Int) : Nat → Int → zZ → Option (Int × zZ)
  | 0, _, _ => none
  | uN + 1, b, s3 => if (zr b) then (if (6 : Int) ≤ b then some (b, s3) else ((d_X4_reckon_84 s8 ks b zF 0 s3).bind fun y25 => d_X4_reckon_76 s8 ks uN (b + 1) y25.2)) else none
def d_X4_reckon (s3 : zZ) (s8 : zZ) (ks : List Int) : Option (zZ × zZ) := if (zr (s3 0 10)) then (if (s3 0 10) ≠ 0 then ((d_X4_giveColumns s3 s8 ks).bind fun y2 => (d_X9f_begin (upz s3 0 11 y2.1) (2 * ((upz s3 0 11 y2.1) 0 5)) (((upz s3 0 11 y2.1) 0 11) + 6)).bind fun y4 => (d_X4_reckon_38 y2.2 ks zF 0 y4).bind fun y15 => (d_X4_reckon_76 y2.2 ks zF 0 y15.2).bind fun y28 => (d_X9f_clearColumns y28.2 (y28.2 0 11)).bind fun y30 => some (upz y30 0 10 0, y2.2)) else some (s3, s8)) else none
set_option maxRecDepth 20000 in
theorem l_X4_reckon_38 (r0 : List va_E) (r1 : List va_E) (r2 : List va_E) (r4 : List va_E) (r5 : List va_E) (r6 : List va_E) (r7 : List va_E) (s8 : zZ) (r9 : List va_E) (ks : List Int) {r : Option Value} {hp1 : xH} : ∀ (uN : Nat) (b : Int) (s3 : zZ) {uX : Int × zZ}, d_X4_reckon_38 s8 ks uN b s3 = some uX → (xBody MX4_reckon 4 74 [some (.ref 3072), some (.int (zI uX.1)), none] [] ([r0, r1, r2, zH uX.2 zL3 0, r4, r5, r6, r7, zH s8 (zLb ks) 0, r9]) r hp1) → xBody MX4_reckon 4 38 [some (.ref 3072), some (.int (zI b)), none] [] ([r0, r1, r2, zH s3 zL3 0, r4, r5, r6, r7, zH s8 (zLb ks) 0, r9]) r hp1 := by
  intro uN
  induction uN with
  | zero => intro b s3 uX H K; cases H
  | succ uN ih =>
    intro b s3 uX H K
    unfold d_X4_reckon_38 at H
    refine xB.run oX4_reckon 3 (s := (43, [some (.ref 3072), some (.int (zI b)), none], [.int (zI (s3 0 7)), .int (zI b)], [r0, r1, r2, zH s3 zL3 0, r4, r5, r6, r7, zH s8 (zLb ks) 0, r9])) rfl ?_
    obtain ⟨g14, H⟩ := zgd H
    have H := zif H
    refine xB.brE oX4_reckon (P := (s3 0 7) ≤ b) rfl (zc_ge (a := b) (b := s3 0 7) g14) (fun h6 => ?_) (fun h6 => ?_)
    · have H := H.1 h6
      obtain rfl := Option.some.inj H
      exact K
    · have H := H.2 h6
      refine xB.run oX4_reckon 3 (s := (51, [some (.ref 3072), some (.int (zI b)), none], [.int (zI b), .ref 3077], [r0, r1, r2, zH s3 zL3 0, r4, r5, r6, r7, zH s8 (zLb ks) 0, r9])) rfl ?_
      obtain ⟨g13, H⟩ := zgd H
      refine zB.aaldB oX4_reckon (g := 3) (p := 5) (N := 16) rfl rfl (by decide) rfl rfl (by decide) g13 ?_
      obtain ⟨g12, H⟩ := zgd H
      refine zB.getI oX4_reckon (g := 8) (p := b.toNat) (k := 4) (y := 0) rfl rfl (by omega) rfl (zLb_at _ g12.1) (zks_bar _ 4 4 4 _ rfl rfl rfl) rfl ?_
      obtain ⟨g11, H⟩ := zgd H
      have H := zif H
      refine xB.brE oX4_reckon (P := (s8 b.toNat 4) ≠ 0) rfl (zc_ne (a := s8 b.toNat 4) (b := 0) ⟨g11, by decide⟩) (fun h7 => ?_) (fun h7 => ?_)
      · have H := H.1 h7
        refine zB.inc oX4_reckon rfl (lv2 := [some (.ref 3072), some (.int (zI (b + 1))), none]) (zi_inc (a := 0) (zi_addp1 b) _ rfl) ?_
        refine xB.run oX4_reckon 1 (s := (38, [some (.ref 3072), some (.int (zI (b + 1))), none], [], [r0, r1, r2, zH s3 zL3 0, r4, r5, r6, r7, zH s8 (zLb ks) 0, r9])) rfl ?_
        exact ih (b + 1) s3 H K
      · have H := H.2 h7
        refine xB.run oX4_reckon 4 (s := (64, [some (.ref 3072), some (.int (zI b)), none], [.int (zI b), .ref 3077, .ref 3072], [r0, r1, r2, zH s3 zL3 0, r4, r5, r6, r7, zH s8 (zLb ks) 0, r9])) rfl ?_
        obtain ⟨g10, H⟩ := zgd H
        refine zB.aaldB oX4_reckon (g := 3) (p := 5) (N := 16) rfl rfl (by decide) rfl rfl (by decide) g10 ?_
        obtain ⟨y8, e9, H⟩ := zbd H
        refine xB.call oX4_reckon (M2 := MX4_addForces) rfl rfl ((t_X4_addForces r0 r1 r2 s3 r4 r5 r6 r7 s8 r9 ks b e9).deep (by decide : 3 ≤ 3)) ?_
        show xBody MX4_reckon 4 68 [some (.ref 3072), some (.int (zI b)), none] [] ([r0, r1, r2, zH y8 zL3 0, r4, r5, r6, r7, zH s8 (zLb ks) 0, r9]) _ _
        refine zB.inc oX4_reckon rfl (lv2 := [some (.ref 3072), some (.int (zI (b + 1))), none]) (zi_inc (a := 0) (zi_addp1 b) _ rfl) ?_
        refine xB.run oX4_reckon 1 (s := (38, [some (.ref 3072), some (.int (zI (b + 1))), none], [], [r0, r1, r2, zH y8 zL3 0, r4, r5, r6, r7, zH s8 (zLb ks) 0, r9])) rfl ?_
        exact ih (b + 1) y8 H K
set_option maxRecDepth 20000 in
theorem l_X4_reckon_84 (r0 : List va_E) (r1 : List va_E) (r2 : List va_E) (r4 : List va_E) (r5 : List va_E) (r6 : List va_E) (r7 : List va_E) (s8 : zZ) (r9 : List va_E) (ks : List Int) (b : Int) {r : Option Value} {hp1 : xH} : ∀ (uN : Nat) (v2 : Int) (s3 : zZ) {uX : Int × zZ}, d_X4_reckon_84 s8 ks b uN v2 s3 = some uX → (xBody MX4_reckon 4 124 [some (.ref 3072), some (.int (zI b)), some (.int (zI uX.1))] [] ([r0, r1, r2, zH uX.2 zL3 0, r4, r5, r6, r7, zH s8 (zLb ks) 0, r9]) r hp1) → xBody MX4_reckon 4 84 [some (.ref 3072), some (.int (zI b)), some (.int (zI v2))] [] ([r0, r1, r2, zH s3 zL3 0, r4, r5, r6, r7, zH s8 (zLb ks) 0, r9]) r hp1 := by
  intro uN
  induction uN with
  | zero => intro v2 s3 uX H K; cases H
  | succ uN ih =>
    intro v2 s3 uX H K
    unfold d_X4_reckon_84 at H
    refine xB.run oX4_reckon 4 (s := (90, [some (.ref 3072), some (.int (zI b)), some (.int (zI v2))], [.int (zI (s3 0 5)), .int (zI 2), .int (zI v2)], [r0, r1, r2, zH s3 zL3 0, r4, r5, r6, r7, zH s8 (zLb ks) 0, r9])) rfl ?_
    refine zB.opi oX4_reckon rfl (zi_mul 2 (s3 0 5)) ?_
    obtain ⟨g24, H⟩ := zgd H
    have H := zif H
    refine xB.brE oX4_reckon (P := (2 * (s3 0 5)) ≤ v2) rfl (zc_ge (a := v2) (b := 2 * (s3 0 5)) g24) (fun h18 => ?_) (fun h18 => ?_)
    · have H := H.1 h18
      obtain rfl := Option.some.inj H
      exact K
    · have H := H.2 h18
      refine xB.run oX4_reckon 6 (s := (104, [some (.ref 3072), some (.int (zI b)), some (.int (zI v2))], [.int (zI b), .int (zI (s3 0 11)), .int (zI v2), .ref 3085], [r0, r1, r2, zH s3 zL3 0, r4, r5, r6, r7, zH s8 (zLb ks) 0, r9])) rfl ?_
      refine zB.opi oX4_reckon rfl (zi_add (s3 0 11) b) ?_
      refine xB.run oX4_reckon 3 (s := (110, [some (.ref 3072), some (.int (zI b)), some (.int (zI v2))], [.int (zI b), .ref 3078, .int (zI ((s3 0 11) + b)), .int (zI v2), .ref 3085], [r0, r1, r2, zH s3 zL3 0, r4, r5, r6, r7, zH s8 (zLb ks) 0, r9])) rfl ?_
      obtain ⟨g23, H⟩ := zgd H
      refine zB.aaldG oX4_reckon (g := 3) (p := 6) (N := 6) (c := 3) (g2 := 3) (p2 := 7) rfl rfl (by decide) rfl rfl (by decide) (by decide) g23 ?_
      refine xB.run oX4_reckon 1 (s := (112, [some (.ref 3072), some (.int (zI b)), some (.int (zI v2))], [.int (zI v2), .ref (1024 * 3 + (7 + b.toNat)), .int (zI ((s3 0 11) + b)), .int (zI v2), .ref 3085], [r0, r1, r2, zH s3 zL3 0, r4, r5, r6, r7, zH s8 (zLb ks) 0, r9])) rfl ?_
      obtain ⟨g22, H⟩ := zgd H
      refine zB.iald oX4_reckon (g := 3) (p := 7 + b.toNat) (N := 8) (i := v2) rfl rfl (by omega) rfl (zg_3_7 _ (by omega)) (by decide) g22.2 ?_
      refine zB.opi oX4_reckon rfl (zi_neg (s3 (7 + b.toNat) v2.toNat)) ?_
      obtain ⟨g21, H⟩ := zgd H
      refine zB.opl oX4_reckon rfl (zi_i2l g21) ?_
      obtain ⟨y19, e20, H⟩ := zbd H
      refine xB.call oX4_reckon (M2 := MX9_add) rfl rfl ((t_X9f_add r0 r1 r2 s3 r4 r5 r6 r7 (zH s8 (zLb ks) 0) r9 v2 ((s3 0 11) + b) (-(s3 (7 + b.toNat) v2.toNat)) e20).deep (by decide : 1 ≤ 3)) ?_
      show xBody MX4_reckon 4 118 [some (.ref 3072), some (.int (zI b)), some (.int (zI v2))] [] ([r0, r1, r2, zH y19 zL3 0, r4, r5, r6, r7, zH s8 (zLb ks) 0, r9]) _ _
      refine zB.inc oX4_reckon rfl (lv2 := [some (.ref 3072), some (.int (zI b)), some (.int (zI (v2 + 1)))]) (zi_inc (a := 0) (zi_addp1 v2) _ rfl) ?_
      refine xB.run oX4_reckon 1 (s := (84, [some (.ref 3072), some (.int (zI b)), some (.int (zI (v2 + 1)))], [], [r0, r1, r2, zH y19 zL3 0, r4, r5, r6, r7, zH s8 (zLb ks) 0, r9])) rfl ?_
      exact ih (v2 + 1) y19 H K
set_option maxRecDepth 20000 in
theorem l_X4_reckon_76 (r0 : List va_E) (r1 : List va_E) (r2 : List va_E) (r4 : List va_E) (r5 : List va_E) (r6 : List va_E) (r7 : List va_E) (s8 : zZ) (r9 : List va_E) (ks : List Int) {r : Option Value} {hp1 : xH} : ∀ (uN : Nat) (b : Int) (s3 : zZ) {uX : Int × zZ}, d_X4_reckon_76 s8 ks uN b s3 = some uX → (xBody MX4_reckon 4 130 [some (.ref 3072), some (.int (zI uX.1)), none] [] ([r0, r1, r2, zH uX.2 zL3 0, r4, r5, r6, r7, zH s8 (zLb ks) 0, r9]) r hp1) → xBody MX4_reckon 4 76 [some (.ref 3072), some (.int (zI b)), none] [] ([r0, r1, r2, zH s3 zL3 0, r4, r5, r6, r7, zH s8 (zLb ks) 0, r9]) r hp1 := by
  intro uN
  induction uN with
  | zero => intro b s3 uX H K; cases H
  | succ uN ih =>
    intro b s3 uX H K
    unfold d_X4_reckon_76 at H
    refine xB.run oX4_reckon 2 (s := (79, [some (.ref 3072), some (.int (zI b)), none], [.int (zI 6), .int (zI b)], [r0, r1, r2, zH s3 zL3 0, r4, r5, r6, r7, zH s8 (zLb ks) 0, r9])) rfl ?_
    obtain ⟨g27, H⟩ := zgd H
    have H := zif H
    refine xB.brE oX4_reckon (P := (6 : Int) ≤ b) rfl (zc_ge (a := b) (b := 6) ⟨g27, by decide⟩) (fun h17 => ?_) (fun h17 => ?_)
    · have H := H.1 h17
      obtain rfl := Option.some.inj H
      exact K
    · have H := H.2 h17
      refine xB.run oX4_reckon 2 (s := (84, [some (.ref 3072), some (.int (zI b)), some (.int (zI 0))], [], [r0, r1, r2, zH s3 zL3 0, r4, r5, r6, r7, zH s8 (zLb ks) 0, r9])) rfl ?_
      obtain ⟨y25, e26, H⟩ := zbd H
      refine l_X4_reckon_84 r0 r1 r2 r4 r5 r6 r7 s8 r9 ks b _ 0 s3 e26 ?_
      refine zB.inc oX4_reckon rfl (lv2 := [some (.ref 3072), some (.int (zI (b + 1))), some (.int (zI y25.1))]) (zi_inc (a := 0) (zi_addp1 b) _ rfl) ?_
      refine xB.run oX4_reckon 1 (s := (76, [some (.ref 3072), some (.int (zI (b + 1))), some (.int (zI y25.1))], [], [r0, r1, r2, zH y25.2 zL3 0, r4, r5, r6, r7, zH s8 (zLb ks) 0, r9])) rfl ?_
      refine xB.forget (lv1 := [some (.ref 3072), some (.int (zI (b + 1))), none]) (xle_same (xle_same (xle_none (xle_nil)))) ?_
      exact ih (b + 1) y25.2 H K
set_option maxRecDepth 20000 in
theorem t_X4_reckon (r0 : List va_E) (r1 : List va_E) (r2 : List va_E) (s3 : zZ) (r4 : List va_E) (r5 : List va_E) (r6 : List va_E) (r7 : List va_E) (s8 : zZ) (r9 : List va_E) (ks : List Int) {rr : zZ × zZ} (H : d_X4_reckon s3 s8 ks = some rr) : xC MX4_reckon 4 [.ref 3072] ([r0, r1, r2, zH s3 zL3 0, r4, r5, r6, r7, zH s8 (zLb ks) 0, r9]) (none) ([r0, r1, r2, zH rr.1 zL3 0, r4, r5, r6, r7, zH rr.2 (zLb ks) 0, r9]) := by
  refine ⟨Nat.le_of_ble_eq_true rfl, ?_⟩
  show xBody MX4_reckon 4 0 [some (.ref 3072), none, none] [] ([r0, r1, r2, zH s3 zL3 0, r4, r5, r6, r7, zH s8 (zLb ks) 0, r9]) _ _
  unfold d_X4_reckon at H
  refine xB.run oX4_reckon 2 (s := (4, [some (.ref 3072), none, none], [.int (zI (s3 0 10))], [r0, r1, r2, zH s3 zL3 0, r4, r5, r6, r7, zH s8 (zLb ks) 0, r9])) rfl ?_
  obtain ⟨g32, H⟩ := zgd H
  have H := zif H
  refine xB.brE oX4_reckon (P := (s3 0 10) ≠ 0) rfl (zc_ne (a := s3 0 10) (b := 0) ⟨g32, by decide⟩) (fun h1 => ?_) (fun h1 => ?_)
  · have H := H.1 h1
    refine xB.run oX4_reckon 2 (s := (10, [some (.ref 3072), none, none], [.ref 3072, .ref 3072], [r0, r1, r2, zH s3 zL3 0, r4, r5, r6, r7, zH s8 (zLb ks) 0, r9])) rfl ?_
    obtain ⟨y2, e3, H⟩ := zbd H
    refine xB.call oX4_reckon (M2 := MX4_giveColumns) rfl rfl ((t_X4_giveColumns r0 r1 r2 s3 r4 r5 r6 r7 s8 r9 ks  e3).deep (by decide : 0 ≤ 3)) ?_
    show xBody MX4_reckon 4 13 [some (.ref 3072), none, none] [.int (zI y2.1), .ref 3072] ([r0, r1, r2, zH s3 zL3 0, r4, r5, r6, r7, zH y2.2 (zLb ks) 0, r9]) _ _
    refine zB.putI oX4_reckon (g := 3) (p := 0) (c := 4) (k := 11) (y := 0) (hp1 := [r0, r1, r2, zH (upz s3 0 11 y2.1) zL3 0, r4, r5, r6, r7, zH y2.2 (zLb ks) 0, r9]) rfl rfl (by decide) (by decide) rfl rfl rfl rfl rfl rfl ?_
    refine xB.run oX4_reckon 5 (s := (25, [some (.ref 3072), none, none], [.int (zI ((upz s3 0 11 y2.1) 0 5)), .int (zI 2), .ref 3085], [r0, r1, r2, zH (upz s3 0 11 y2.1) zL3 0, r4, r5, r6, r7, zH y2.2 (zLb ks) 0, r9])) rfl ?_
    refine zB.opi oX4_reckon rfl (zi_mul 2 ((upz s3 0 11 y2.1) 0 5)) ?_
    refine xB.run oX4_reckon 3 (s := (32, [some (.ref 3072), none, none], [.int (zI 6), .int (zI ((upz s3 0 11 y2.1) 0 11)), .int (zI (2 * ((upz s3 0 11 y2.1) 0 5))), .ref 3085], [r0, r1, r2, zH (upz s3 0 11 y2.1) zL3 0, r4, r5, r6, r7, zH y2.2 (zLb ks) 0, r9])) rfl ?_
    refine zB.opi oX4_reckon rfl (zi_add ((upz s3 0 11 y2.1) 0 11) 6) ?_
    obtain ⟨y4, e5, H⟩ := zbd H
    refine xB.call oX4_reckon (M2 := MX9_begin) rfl rfl ((t_X9f_begin r0 r1 r2 (upz s3 0 11 y2.1) r4 r5 r6 r7 (zH y2.2 (zLb ks) 0) r9 (2 * ((upz s3 0 11 y2.1) 0 5)) (((upz s3 0 11 y2.1) 0 11) + 6) e5).deep (by decide : 1 ≤ 3)) ?_
    show xBody MX4_reckon 4 36 [some (.ref 3072), none, none] [] ([r0, r1, r2, zH y4 zL3 0, r4, r5, r6, r7, zH y2.2 (zLb ks) 0, r9]) _ _
    refine xB.run oX4_reckon 2 (s := (38, [some (.ref 3072), some (.int (zI 0)), none], [], [r0, r1, r2, zH y4 zL3 0, r4, r5, r6, r7, zH y2.2 (zLb ks) 0, r9])) rfl ?_
    obtain ⟨y15, e16, H⟩ := zbd H
    refine l_X4_reckon_38 r0 r1 r2 r4 r5 r6 r7 y2.2 r9 ks  _ 0 y4 e16 ?_
    refine xB.run oX4_reckon 2 (s := (76, [some (.ref 3072), some (.int (zI 0)), none], [], [r0, r1, r2, zH y15.2 zL3 0, r4, r5, r6, r7, zH y2.2 (zLb ks) 0, r9])) rfl ?_
    obtain ⟨y28, e29, H⟩ := zbd H
    refine l_X4_reckon_76 r0 r1 r2 r4 r5 r6 r7 y2.2 r9 ks  _ 0 y15.2 e29 ?_
    refine xB.run oX4_reckon 4 (s := (138, [some (.ref 3072), some (.int (zI y28.1)), none], [.int (zI (y28.2 0 11)), .ref 3085], [r0, r1, r2, zH y28.2 zL3 0, r4, r5, r6, r7, zH y2.2 (zLb ks) 0, r9])) rfl ?_
    obtain ⟨y30, e31, H⟩ := zbd H
    refine xB.call oX4_reckon (M2 := MX9_clearColumns) rfl rfl ((t_X9f_clearColumns r0 r1 r2 y28.2 r4 r5 r6 r7 (zH y2.2 (zLb ks) 0) r9 (y28.2 0 11) e31).deep (by decide : 1 ≤ 3)) ?_
    show xBody MX4_reckon 4 141 [some (.ref 3072), some (.int (zI y28.1)), none] [] ([r0, r1, r2, zH y30 zL3 0, r4, r5, r6, r7, zH y2.2 (zLb ks) 0, r9]) _ _
    refine xB.run oX4_reckon 2 (s := (143, [some (.ref 3072), some (.int (zI y28.1)), none], [.int (zI 0), .ref 3072], [r0, r1, r2, zH y30 zL3 0, r4, r5, r6, r7, zH y2.2 (zLb ks) 0, r9])) rfl ?_
    refine zB.putI oX4_reckon (g := 3) (p := 0) (c := 4) (k := 10) (y := 0) (hp1 := [r0, r1, r2, zH (upz y30 0 10 0) zL3 0, r4, r5, r6, r7, zH y2.2 (zLb ks) 0, r9]) rfl rfl (by decide) (by decide) rfl rfl rfl rfl rfl rfl ?_
    obtain rfl := Option.some.inj H
    exact xB.ret oX4_reckon (r1 := none) rfl rfl rfl
  · have H := H.2 h1
    obtain rfl := Option.some.inj H
    exact xB.ret oX4_reckon (r1 := none) rfl rfl rfl
def d_X4_rank (s3 : zZ) : Option (Int) := some (s3 13 6)
set_option maxRecDepth 20000 in
theorem t_X4_rank (r0 : List va_E) (r1 : List va_E) (r2 : List va_E) (s3 : zZ) (r4 : List va_E) (r5 : List va_E) (r6 : List va_E) (r7 : List va_E) (r8 : List va_E) (r9 : List va_E) {rr : Int} (H : d_X4_rank s3 = some rr) : xC MX4_rank 0 [.ref 3072] ([r0, r1, r2, zH s3 zL3 0, r4, r5, r6, r7, r8, r9]) (some (.int (zI rr))) ([r0, r1, r2, zH s3 zL3 0, r4, r5, r6, r7, r8, r9]) := by
  refine ⟨Nat.le_of_ble_eq_true rfl, ?_⟩
  show xBody MX4_rank 0 0 [some (.ref 3072)] [] ([r0, r1, r2, zH s3 zL3 0, r4, r5, r6, r7, r8, r9]) _ _
  unfold d_X4_rank at H
  refine xB.run oX4_rank 3 (s := (7, [some (.ref 3072)], [.int (zI (s3 13 6))], [r0, r1, r2, zH s3 zL3 0, r4, r5, r6, r7, r8, r9])) rfl ?_
  obtain rfl := Option.some.inj H
  exact xB.ret oX4_rank (r1 := some (.int (zI (s3 13 6)))) rfl rfl rfl
def d_X4_moves (s3 : zZ) : Option (Int) := some ((2 * (s3 0 5)) - (s3 13 6))
set_option maxRecDepth 20000 in
theorem t_X4_moves (r0 : List va_E) (r1 : List va_E) (r2 : List va_E) (s3 : zZ) (r4 : List va_E) (r5 : List va_E) (r6 : List va_E) (r7 : List va_E) (r8 : List va_E) (r9 : List va_E) {rr : Int} (H : d_X4_moves s3 = some rr) : xC MX4_moves 0 [.ref 3072] ([r0, r1, r2, zH s3 zL3 0, r4, r5, r6, r7, r8, r9]) (some (.int (zI rr))) ([r0, r1, r2, zH s3 zL3 0, r4, r5, r6, r7, r8, r9]) := by
  refine ⟨Nat.le_of_ble_eq_true rfl, ?_⟩
  show xBody MX4_moves 0 0 [some (.ref 3072)] [] ([r0, r1, r2, zH s3 zL3 0, r4, r5, r6, r7, r8, r9]) _ _
  unfold d_X4_moves at H
  refine xB.run oX4_moves 3 (s := (5, [some (.ref 3072)], [.int (zI (s3 0 5)), .int (zI 2)], [r0, r1, r2, zH s3 zL3 0, r4, r5, r6, r7, r8, r9])) rfl ?_
  refine zB.opi oX4_moves rfl (zi_mul 2 (s3 0 5)) ?_
  refine xB.run oX4_moves 3 (s := (13, [some (.ref 3072)], [.int (zI (s3 13 6)), .int (zI (2 * (s3 0 5)))], [r0, r1, r2, zH s3 zL3 0, r4, r5, r6, r7, r8, r9])) rfl ?_
  refine zB.opi oX4_moves rfl (zi_sub (2 * (s3 0 5)) (s3 13 6)) ?_
  obtain rfl := Option.some.inj H
  exact xB.ret oX4_moves (r1 := some (.int (zI ((2 * (s3 0 5)) - (s3 13 6))))) rfl rfl rfl
def d_X4_loose (s3 : zZ) : Option (Int) := some ((s3 0 11) - (s3 13 6))
set_option maxRecDepth 20000 in
theorem t_X4_loose (r0 : List va_E) (r1 : List va_E) (r2 : List va_E) (s3 : zZ) (r4 : List va_E) (r5 : List va_E) (r6 : List va_E) (r7 : List va_E) (r8 : List va_E) (r9 : List va_E) {rr : Int} (H : d_X4_loose s3 = some rr) : xC MX4_loose 0 [.ref 3072] ([r0, r1, r2, zH s3 zL3 0, r4, r5, r6, r7, r8, r9]) (some (.int (zI rr))) ([r0, r1, r2, zH s3 zL3 0, r4, r5, r6, r7, r8, r9]) := by
  refine ⟨Nat.le_of_ble_eq_true rfl, ?_⟩
  show xBody MX4_loose 0 0 [some (.ref 3072)] [] ([r0, r1, r2, zH s3 zL3 0, r4, r5, r6, r7, r8, r9]) _ _
  unfold d_X4_loose at H
  refine xB.run oX4_loose 5 (s := (11, [some (.ref 3072)], [.int (zI (s3 13 6)), .int (zI (s3 0 11))], [r0, r1, r2, zH s3 zL3 0, r4, r5, r6, r7, r8, r9])) rfl ?_
  refine zB.opi oX4_loose rfl (zi_sub (s3 0 11) (s3 13 6)) ?_
  obtain rfl := Option.some.inj H
  exact xB.ret oX4_loose (r1 := some (.int (zI ((s3 0 11) - (s3 13 6))))) rfl rfl rfl
def d_X4_carries_8 (s3 : zZ) (c : Int) : Nat → Int → Option (Sum (Int) (Int))
  | 0, _ => none
  | uN + 1, row => if (zr row ∧ zr (s3 13 4)) then (if (s3 13 4) ≤ row then some (.inl row) else ((d_X9f_number s3 row ((s3 0 11) + c)).bind fun y2 => if (zrl y2) then (if y2 = 0 then (d_X4_carries_8 s3 c uN (row + 1)) else some (.inr 0)) else none)) else none
def d_X4_carries (s3 : zZ) (c : Int) : Option (Int) := (d_X4_carries_8 s3 c zF (s3 13 6)).bind fun y7 => match y7 with | .inl y9 => some 1 | .inr y10 => some y10
set_option maxRecDepth 20000 in
theorem l_X4_carries_8 (r0 : List va_E) (r1 : List va_E) (r2 : List va_E) (s3 : zZ) (r4 : List va_E) (r5 : List va_E) (r6 : List va_E) (r7 : List va_E) (r8 : List va_E) (r9 : List va_E) (c : Int) {r : Option Value} {hp1 : xH} : ∀ (uN : Nat) (row : Int) {uX : Sum (Int) (Int)}, d_X4_carries_8 s3 c uN row = some uX → ((∀ uY, uX = .inl uY → xBody MX4_carries 2 46 [some (.ref 3072), some (.int (zI c)), some (.int (zI uY))] [] ([r0, r1, r2, zH s3 zL3 0, r4, r5, r6, r7, r8, r9]) r hp1) ∧ (∀ uW, uX = .inr uW → r = some (.int (zI uW)) ∧ hp1 = [r0, r1, r2, zH s3 zL3 0, r4, r5, r6, r7, r8, r9])) → xBody MX4_carries 2 8 [some (.ref 3072), some (.int (zI c)), some (.int (zI row))] [] ([r0, r1, r2, zH s3 zL3 0, r4, r5, r6, r7, r8, r9]) r hp1 := by
  intro uN
  induction uN with
  | zero => intro row uX H K; cases H
  | succ uN ih =>
    intro row uX H K
    unfold d_X4_carries_8 at H
    refine xB.run oX4_carries 4 (s := (16, [some (.ref 3072), some (.int (zI c)), some (.int (zI row))], [.int (zI (s3 13 4)), .int (zI row)], [r0, r1, r2, zH s3 zL3 0, r4, r5, r6, r7, r8, r9])) rfl ?_
    obtain ⟨g6, H⟩ := zgd H
    have H := zif H
    refine xB.brE oX4_carries (P := (s3 13 4) ≤ row) rfl (zc_ge (a := row) (b := s3 13 4) g6) (fun h1 => ?_) (fun h1 => ?_)
    · have H := H.1 h1
      obtain rfl := Option.some.inj H
      exact K.1 _ rfl
    · have H := H.2 h1
      refine xB.run oX4_carries 6 (s := (29, [some (.ref 3072), some (.int (zI c)), some (.int (zI row))], [.int (zI c), .int (zI (s3 0 11)), .int (zI row), .ref 3085], [r0, r1, r2, zH s3 zL3 0, r4, r5, r6, r7, r8, r9])) rfl ?_
      refine zB.opi oX4_carries rfl (zi_add (s3 0 11) c) ?_
      obtain ⟨y2, e3, H⟩ := zbd H
      refine xB.call oX4_carries (M2 := MX9_number) rfl rfl ((t_X9f_number r0 r1 r2 s3 r4 r5 r6 r7 r8 r9 row ((s3 0 11) + c) e3).deep (by decide : 1 ≤ 1)) ?_
      show xBody MX4_carries 2 33 [some (.ref 3072), some (.int (zI c)), some (.int (zI row))] [.long (zJ y2)] ([r0, r1, r2, zH s3 zL3 0, r4, r5, r6, r7, r8, r9]) _ _
      refine xB.run oX4_carries 2 (s := (35, [some (.ref 3072), some (.int (zI c)), some (.int (zI row))], [.int (lg_cmp (zJ y2) (zJ 0))], [r0, r1, r2, zH s3 zL3 0, r4, r5, r6, r7, r8, r9])) rfl ?_
      obtain ⟨g5, H⟩ := zgd H
      have H := zif H
      refine xB.brE oX4_carries (P := y2 = 0) rfl (zl_eq (a := y2) (b := 0) ⟨g5, by decide⟩) (fun h4 => ?_) (fun h4 => ?_)
      · have H := H.1 h4
        refine zB.inc oX4_carries rfl (lv2 := [some (.ref 3072), some (.int (zI c)), some (.int (zI (row + 1)))]) (zi_inc (a := 0) (zi_addp1 row) _ rfl) ?_
        refine xB.run oX4_carries 1 (s := (8, [some (.ref 3072), some (.int (zI c)), some (.int (zI (row + 1)))], [], [r0, r1, r2, zH s3 zL3 0, r4, r5, r6, r7, r8, r9])) rfl ?_
        exact ih (row + 1) H K
      · have H := H.2 h4
        refine xB.run oX4_carries 1 (s := (39, [some (.ref 3072), some (.int (zI c)), some (.int (zI row))], [.int (zI 0)], [r0, r1, r2, zH s3 zL3 0, r4, r5, r6, r7, r8, r9])) rfl ?_
        obtain rfl := Option.some.inj H
        obtain ⟨kr, kh⟩ := K.2 _ rfl
        subst kr kh
        exact xB.ret oX4_carries (r1 := some (.int (zI 0))) rfl rfl rfl
set_option maxRecDepth 20000 in
theorem t_X4_carries (r0 : List va_E) (r1 : List va_E) (r2 : List va_E) (s3 : zZ) (r4 : List va_E) (r5 : List va_E) (r6 : List va_E) (r7 : List va_E) (r8 : List va_E) (r9 : List va_E) (c : Int) {rr : Int} (H : d_X4_carries s3 c = some rr) : xC MX4_carries 2 [.ref 3072, .int (zI c)] ([r0, r1, r2, zH s3 zL3 0, r4, r5, r6, r7, r8, r9]) (some (.int (zI rr))) ([r0, r1, r2, zH s3 zL3 0, r4, r5, r6, r7, r8, r9]) := by
  refine ⟨Nat.le_of_ble_eq_true rfl, ?_⟩
  show xBody MX4_carries 2 0 [some (.ref 3072), some (.int (zI c)), none] [] ([r0, r1, r2, zH s3 zL3 0, r4, r5, r6, r7, r8, r9]) _ _
  unfold d_X4_carries at H
  refine xB.run oX4_carries 4 (s := (8, [some (.ref 3072), some (.int (zI c)), some (.int (zI (s3 13 6)))], [], [r0, r1, r2, zH s3 zL3 0, r4, r5, r6, r7, r8, r9])) rfl ?_
  obtain ⟨y7, e8, H⟩ := zbd H
  refine l_X4_carries_8 r0 r1 r2 s3 r4 r5 r6 r7 r8 r9 c _ (s3 13 6) e8 ?_
  refine ⟨fun y9 uQ => ?_, fun y10 uQ => ?_⟩
  · subst uQ
    refine xB.run oX4_carries 1 (s := (47, [some (.ref 3072), some (.int (zI c)), some (.int (zI y9))], [.int (zI 1)], [r0, r1, r2, zH s3 zL3 0, r4, r5, r6, r7, r8, r9])) rfl ?_
    obtain rfl := Option.some.inj H
    exact xB.ret oX4_carries (r1 := some (.int (zI 1))) rfl rfl rfl
  · subst uQ
    obtain rfl := Option.some.inj H
    exact ⟨rfl, rfl⟩
def d_X4_isTold (s3 : zZ) (c : Int) : Option (Int) := (d_X4_loose s3).bind fun y1 => if (zr y1) then (if y1 ≠ 0 then some 0 else ((d_X4_carries s3 c).bind fun y4 => if (zr y4) then (if y4 = 0 then some 0 else some 1) else none)) else none
set_option maxRecDepth 20000 in
theorem t_X4_isTold (r0 : List va_E) (r1 : List va_E) (r2 : List va_E) (s3 : zZ) (r4 : List va_E) (r5 : List va_E) (r6 : List va_E) (r7 : List va_E) (r8 : List va_E) (r9 : List va_E) (c : Int) {rr : Int} (H : d_X4_isTold s3 c = some rr) : xC MX4_isTold 3 [.ref 3072, .int (zI c)] ([r0, r1, r2, zH s3 zL3 0, r4, r5, r6, r7, r8, r9]) (some (.int (zI rr))) ([r0, r1, r2, zH s3 zL3 0, r4, r5, r6, r7, r8, r9]) := by
  refine ⟨Nat.le_of_ble_eq_true rfl, ?_⟩
  show xBody MX4_isTold 3 0 [some (.ref 3072), some (.int (zI c))] [] ([r0, r1, r2, zH s3 zL3 0, r4, r5, r6, r7, r8, r9]) _ _
  unfold d_X4_isTold at H
  refine xB.run oX4_isTold 1 (s := (1, [some (.ref 3072), some (.int (zI c))], [.ref 3072], [r0, r1, r2, zH s3 zL3 0, r4, r5, r6, r7, r8, r9])) rfl ?_
  obtain ⟨y1, e2, H⟩ := zbd H
  refine xB.call oX4_isTold (M2 := MX4_loose) rfl rfl ((t_X4_loose r0 r1 r2 s3 r4 r5 r6 r7 r8 r9  e2).deep (by decide : 0 ≤ 2)) ?_
  show xBody MX4_isTold 3 4 [some (.ref 3072), some (.int (zI c))] [.int (zI y1)] ([r0, r1, r2, zH s3 zL3 0, r4, r5, r6, r7, r8, r9]) _ _
  obtain ⟨g8, H⟩ := zgd H
  have H := zif H
  refine xB.brE oX4_isTold (P := y1 ≠ 0) rfl (zc_ne (a := y1) (b := 0) ⟨g8, by decide⟩) (fun h3 => ?_) (fun h3 => ?_)
  · have H := H.1 h3
    refine xB.run oX4_isTold 1 (s := (20, [some (.ref 3072), some (.int (zI c))], [.int (zI 0)], [r0, r1, r2, zH s3 zL3 0, r4, r5, r6, r7, r8, r9])) rfl ?_
    obtain rfl := Option.some.inj H
    exact xB.ret oX4_isTold (r1 := some (.int (zI 0))) rfl rfl rfl
  · have H := H.2 h3
    refine xB.run oX4_isTold 2 (s := (9, [some (.ref 3072), some (.int (zI c))], [.int (zI c), .ref 3072], [r0, r1, r2, zH s3 zL3 0, r4, r5, r6, r7, r8, r9])) rfl ?_
    obtain ⟨y4, e5, H⟩ := zbd H
    refine xB.call oX4_isTold (M2 := MX4_carries) rfl rfl ((t_X4_carries r0 r1 r2 s3 r4 r5 r6 r7 r8 r9 c e5).deep (by decide : 2 ≤ 2)) ?_
    show xBody MX4_isTold 3 12 [some (.ref 3072), some (.int (zI c))] [.int (zI y4)] ([r0, r1, r2, zH s3 zL3 0, r4, r5, r6, r7, r8, r9]) _ _
    obtain ⟨g7, H⟩ := zgd H
    have H := zif H
    refine xB.brE oX4_isTold (P := y4 = 0) rfl (zc_eq (a := y4) (b := 0) ⟨g7, by decide⟩) (fun h6 => ?_) (fun h6 => ?_)
    · have H := H.1 h6
      refine xB.run oX4_isTold 1 (s := (20, [some (.ref 3072), some (.int (zI c))], [.int (zI 0)], [r0, r1, r2, zH s3 zL3 0, r4, r5, r6, r7, r8, r9])) rfl ?_
      obtain rfl := Option.some.inj H
      exact xB.ret oX4_isTold (r1 := some (.int (zI 0))) rfl rfl rfl
    · have H := H.2 h6
      refine xB.run oX4_isTold 2 (s := (20, [some (.ref 3072), some (.int (zI c))], [.int (zI 1)], [r0, r1, r2, zH s3 zL3 0, r4, r5, r6, r7, r8, r9])) rfl ?_
      obtain rfl := Option.some.inj H
      exact xB.ret oX4_isTold (r1 := some (.int (zI 1))) rfl rfl rfl
def d_X4_areTold_2 (s3 : zZ) (set : Int) : Nat → Int → Option (Sum (Int) (Int))
  | 0, _ => none
  | uN + 1, c => if (zr c) then (if (6 : Int) ≤ c then some (.inl c) else (if (zr set ∧ (0 ≤ c ∧ c < 32)) then (if (zr ((set / (2 : Int) ^ c.toNat) % 2)) then (if ((set / (2 : Int) ^ c.toNat) % 2) ≠ 1 then (d_X4_areTold_2 s3 set uN (c + 1)) else ((d_X4_isTold s3 c).bind fun y3 => if (zr y3) then (if y3 ≠ 0 then (d_X4_areTold_2 s3 set uN (c + 1)) else some (.inr 0)) else none)) else none) else none)) else none
def d_X4_areTold (s3 : zZ) (set : Int) : Option (Int) := (d_X4_areTold_2 s3 set zF 0).bind fun y10 => match y10 with | .inl y12 => some 1 | .inr y13 => some y13
set_option maxRecDepth 20000 in
theorem l_X4_areTold_2 (r0 : List va_E) (r1 : List va_E) (r2 : List va_E) (s3 : zZ) (r4 : List va_E) (r5 : List va_E) (r6 : List va_E) (r7 : List va_E) (r8 : List va_E) (r9 : List va_E) (set : Int) {r : Option Value} {hp1 : xH} : ∀ (uN : Nat) (c : Int) {uX : Sum (Int) (Int)}, d_X4_areTold_2 s3 set uN c = some uX → ((∀ uY, uX = .inl uY → xBody MX4_areTold 4 33 [some (.ref 3072), some (.int (zI set)), some (.int (zI uY))] [] ([r0, r1, r2, zH s3 zL3 0, r4, r5, r6, r7, r8, r9]) r hp1) ∧ (∀ uW, uX = .inr uW → r = some (.int (zI uW)) ∧ hp1 = [r0, r1, r2, zH s3 zL3 0, r4, r5, r6, r7, r8, r9])) → xBody MX4_areTold 4 2 [some (.ref 3072), some (.int (zI set)), some (.int (zI c))] [] ([r0, r1, r2, zH s3 zL3 0, r4, r5, r6, r7, r8, r9]) r hp1 := by
  intro uN
  induction uN with
  | zero => intro c uX H K; cases H
  | succ uN ih =>
    intro c uX H K
    unfold d_X4_areTold_2 at H
    refine xB.run oX4_areTold 2 (s := (5, [some (.ref 3072), some (.int (zI set)), some (.int (zI c))], [.int (zI 6), .int (zI c)], [r0, r1, r2, zH s3 zL3 0, r4, r5, r6, r7, r8, r9])) rfl ?_
    obtain ⟨g9, H⟩ := zgd H
    have H := zif H
    refine xB.brE oX4_areTold (P := (6 : Int) ≤ c) rfl (zc_ge (a := c) (b := 6) ⟨g9, by decide⟩) (fun h1 => ?_) (fun h1 => ?_)
    · have H := H.1 h1
      obtain rfl := Option.some.inj H
      exact K.1 _ rfl
    · have H := H.2 h1
      refine xB.run oX4_areTold 2 (s := (10, [some (.ref 3072), some (.int (zI set)), some (.int (zI c))], [.int (zI c), .int (zI set)], [r0, r1, r2, zH s3 zL3 0, r4, r5, r6, r7, r8, r9])) rfl ?_
      obtain ⟨g8, H⟩ := zgd H
      refine zB.opi oX4_areTold rfl (zi_shr (c := c) g8.1 g8.2) ?_
      refine xB.run oX4_areTold 1 (s := (12, [some (.ref 3072), some (.int (zI set)), some (.int (zI c))], [.int (zI 1), .int (zI (set / (2 : Int) ^ c.toNat))], [r0, r1, r2, zH s3 zL3 0, r4, r5, r6, r7, r8, r9])) rfl ?_
      refine zB.opi oX4_areTold rfl (zi_and1 (set / (2 : Int) ^ c.toNat)) ?_
      refine xB.run oX4_areTold 1 (s := (14, [some (.ref 3072), some (.int (zI set)), some (.int (zI c))], [.int (zI 1), .int (zI ((set / (2 : Int) ^ c.toNat) % 2))], [r0, r1, r2, zH s3 zL3 0, r4, r5, r6, r7, r8, r9])) rfl ?_
      obtain ⟨g7, H⟩ := zgd H
      have H := zif H
      refine xB.brE oX4_areTold (P := ((set / (2 : Int) ^ c.toNat) % 2) ≠ 1) rfl (zc_ne (a := (set / (2 : Int) ^ c.toNat) % 2) (b := 1) ⟨g7, by decide⟩) (fun h2 => ?_) (fun h2 => ?_)
      · have H := H.1 h2
        refine zB.inc oX4_areTold rfl (lv2 := [some (.ref 3072), some (.int (zI set)), some (.int (zI (c + 1)))]) (zi_inc (a := 0) (zi_addp1 c) _ rfl) ?_
        refine xB.run oX4_areTold 1 (s := (2, [some (.ref 3072), some (.int (zI set)), some (.int (zI (c + 1)))], [], [r0, r1, r2, zH s3 zL3 0, r4, r5, r6, r7, r8, r9])) rfl ?_
        exact ih (c + 1) H K
      · have H := H.2 h2
        refine xB.run oX4_areTold 2 (s := (19, [some (.ref 3072), some (.int (zI set)), some (.int (zI c))], [.int (zI c), .ref 3072], [r0, r1, r2, zH s3 zL3 0, r4, r5, r6, r7, r8, r9])) rfl ?_
        obtain ⟨y3, e4, H⟩ := zbd H
        refine xB.call oX4_areTold (M2 := MX4_isTold) rfl rfl ((t_X4_isTold r0 r1 r2 s3 r4 r5 r6 r7 r8 r9 c e4).deep (by decide : 3 ≤ 3)) ?_
        show xBody MX4_areTold 4 22 [some (.ref 3072), some (.int (zI set)), some (.int (zI c))] [.int (zI y3)] ([r0, r1, r2, zH s3 zL3 0, r4, r5, r6, r7, r8, r9]) _ _
        obtain ⟨g6, H⟩ := zgd H
        have H := zif H
        refine xB.brE oX4_areTold (P := y3 ≠ 0) rfl (zc_ne (a := y3) (b := 0) ⟨g6, by decide⟩) (fun h5 => ?_) (fun h5 => ?_)
        · have H := H.1 h5
          refine zB.inc oX4_areTold rfl (lv2 := [some (.ref 3072), some (.int (zI set)), some (.int (zI (c + 1)))]) (zi_inc (a := 0) (zi_addp1 c) _ rfl) ?_
          refine xB.run oX4_areTold 1 (s := (2, [some (.ref 3072), some (.int (zI set)), some (.int (zI (c + 1)))], [], [r0, r1, r2, zH s3 zL3 0, r4, r5, r6, r7, r8, r9])) rfl ?_
          exact ih (c + 1) H K
        · have H := H.2 h5
          refine xB.run oX4_areTold 1 (s := (26, [some (.ref 3072), some (.int (zI set)), some (.int (zI c))], [.int (zI 0)], [r0, r1, r2, zH s3 zL3 0, r4, r5, r6, r7, r8, r9])) rfl ?_
          obtain rfl := Option.some.inj H
          obtain ⟨kr, kh⟩ := K.2 _ rfl
          subst kr kh
          exact xB.ret oX4_areTold (r1 := some (.int (zI 0))) rfl rfl rfl
set_option maxRecDepth 20000 in
theorem t_X4_areTold (r0 : List va_E) (r1 : List va_E) (r2 : List va_E) (s3 : zZ) (r4 : List va_E) (r5 : List va_E) (r6 : List va_E) (r7 : List va_E) (r8 : List va_E) (r9 : List va_E) (set : Int) {rr : Int} (H : d_X4_areTold s3 set = some rr) : xC MX4_areTold 4 [.ref 3072, .int (zI set)] ([r0, r1, r2, zH s3 zL3 0, r4, r5, r6, r7, r8, r9]) (some (.int (zI rr))) ([r0, r1, r2, zH s3 zL3 0, r4, r5, r6, r7, r8, r9]) := by
  refine ⟨Nat.le_of_ble_eq_true rfl, ?_⟩
  show xBody MX4_areTold 4 0 [some (.ref 3072), some (.int (zI set)), none] [] ([r0, r1, r2, zH s3 zL3 0, r4, r5, r6, r7, r8, r9]) _ _
  unfold d_X4_areTold at H
  refine xB.run oX4_areTold 2 (s := (2, [some (.ref 3072), some (.int (zI set)), some (.int (zI 0))], [], [r0, r1, r2, zH s3 zL3 0, r4, r5, r6, r7, r8, r9])) rfl ?_
  obtain ⟨y10, e11, H⟩ := zbd H
  refine l_X4_areTold_2 r0 r1 r2 s3 r4 r5 r6 r7 r8 r9 set _ 0 e11 ?_
  refine ⟨fun y12 uQ => ?_, fun y13 uQ => ?_⟩
  · subst uQ
    refine xB.run oX4_areTold 1 (s := (34, [some (.ref 3072), some (.int (zI set)), some (.int (zI y12))], [.int (zI 1)], [r0, r1, r2, zH s3 zL3 0, r4, r5, r6, r7, r8, r9])) rfl ?_
    obtain rfl := Option.some.inj H
    exact xB.ret oX4_areTold (r1 := some (.int (zI 1))) rfl rfl rfl
  · subst uQ
    obtain rfl := Option.some.inj H
    exact ⟨rfl, rfl⟩
def d_X4_upperPush (s3 : zZ) (s8 : zZ) (ks : List Int) (c : Int) (b : Int) : Option (Int) := if (b.toNat < ks.length ∧ b.toNat < 1024) then (if (zr (s8 b.toNat 4)) then (if (s8 b.toNat 4) = 0 then (if (b.toNat < ks.length ∧ b.toNat < 1024) then ((d_X9f_leads s3 (s8 b.toNat 5)).bind fun y2 => (d_X9f_number s3 y2 ((s3 0 11) + c)).bind fun y4 => some y4) else none) else some 0) else none) else none
set_option maxRecDepth 20000 in
theorem t_X4_upperPush (r0 : List va_E) (r1 : List va_E) (r2 : List va_E) (s3 : zZ) (r4 : List va_E) (r5 : List va_E) (r6 : List va_E) (r7 : List va_E) (s8 : zZ) (r9 : List va_E) (ks : List Int) (c : Int) (b : Int) {rr : Int} (H : d_X4_upperPush s3 s8 ks c b = some rr) : xC MX4_upperPush 2 [.ref 3072, .int (zI c), .ref (1024 * 8 + b.toNat)] ([r0, r1, r2, zH s3 zL3 0, r4, r5, r6, r7, zH s8 (zLb ks) 0, r9]) (some (.long (zJ rr))) ([r0, r1, r2, zH s3 zL3 0, r4, r5, r6, r7, zH s8 (zLb ks) 0, r9]) := by
  refine ⟨Nat.le_of_ble_eq_true rfl, ?_⟩
  show xBody MX4_upperPush 2 0 [some (.ref 3072), some (.int (zI c)), some (.ref (1024 * 8 + b.toNat))] [] ([r0, r1, r2, zH s3 zL3 0, r4, r5, r6, r7, zH s8 (zLb ks) 0, r9]) _ _
  unfold d_X4_upperPush at H
  refine xB.run oX4_upperPush 1 (s := (1, [some (.ref 3072), some (.int (zI c)), some (.ref (1024 * 8 + b.toNat))], [.ref (1024 * 8 + b.toNat)], [r0, r1, r2, zH s3 zL3 0, r4, r5, r6, r7, zH s8 (zLb ks) 0, r9])) rfl ?_
  obtain ⟨g8, H⟩ := zgd H
  refine zB.getI oX4_upperPush (g := 8) (p := b.toNat) (k := 4) (y := 0) rfl rfl (by omega) rfl (zLb_at _ g8.1) (zks_bar _ 4 4 4 _ rfl rfl rfl) rfl ?_
  obtain ⟨g7, H⟩ := zgd H
  have H := zif H
  refine xB.brE oX4_upperPush (P := (s8 b.toNat 4) = 0) rfl (zc_eq (a := s8 b.toNat 4) (b := 0) ⟨g7, by decide⟩) (fun h1 => ?_) (fun h1 => ?_)
  · have H := H.1 h1
    refine xB.run oX4_upperPush 5 (s := (20, [some (.ref 3072), some (.int (zI c)), some (.ref (1024 * 8 + b.toNat))], [.ref (1024 * 8 + b.toNat), .ref 3085, .ref 3085], [r0, r1, r2, zH s3 zL3 0, r4, r5, r6, r7, zH s8 (zLb ks) 0, r9])) rfl ?_
    obtain ⟨g6, H⟩ := zgd H
    refine zB.getI oX4_upperPush (g := 8) (p := b.toNat) (k := 5) (y := 0) rfl rfl (by omega) rfl (zLb_at _ g6.1) (zks_bar _ 5 5 5 _ rfl rfl rfl) rfl ?_
    obtain ⟨y2, e3, H⟩ := zbd H
    refine xB.call oX4_upperPush (M2 := MX9_leads) rfl rfl ((t_X9f_leads r0 r1 r2 s3 r4 r5 r6 r7 (zH s8 (zLb ks) 0) r9 (s8 b.toNat 5) e3).deep (by decide : 0 ≤ 1)) ?_
    show xBody MX4_upperPush 2 26 [some (.ref 3072), some (.int (zI c)), some (.ref (1024 * 8 + b.toNat))] [.int (zI y2), .ref 3085] ([r0, r1, r2, zH s3 zL3 0, r4, r5, r6, r7, zH s8 (zLb ks) 0, r9]) _ _
    refine xB.run oX4_upperPush 3 (s := (31, [some (.ref 3072), some (.int (zI c)), some (.ref (1024 * 8 + b.toNat))], [.int (zI c), .int (zI (s3 0 11)), .int (zI y2), .ref 3085], [r0, r1, r2, zH s3 zL3 0, r4, r5, r6, r7, zH s8 (zLb ks) 0, r9])) rfl ?_
    refine zB.opi oX4_upperPush rfl (zi_add (s3 0 11) c) ?_
    obtain ⟨y4, e5, H⟩ := zbd H
    refine xB.call oX4_upperPush (M2 := MX9_number) rfl rfl ((t_X9f_number r0 r1 r2 s3 r4 r5 r6 r7 (zH s8 (zLb ks) 0) r9 y2 ((s3 0 11) + c) e5).deep (by decide : 1 ≤ 1)) ?_
    show xBody MX4_upperPush 2 35 [some (.ref 3072), some (.int (zI c)), some (.ref (1024 * 8 + b.toNat))] [.long (zJ y4)] ([r0, r1, r2, zH s3 zL3 0, r4, r5, r6, r7, zH s8 (zLb ks) 0, r9]) _ _
    obtain rfl := Option.some.inj H
    exact xB.ret oX4_upperPush (r1 := some (.long (zJ y4))) rfl rfl rfl
  · have H := H.2 h1
    refine xB.run oX4_upperPush 2 (s := (35, [some (.ref 3072), some (.int (zI c)), some (.ref (1024 * 8 + b.toNat))], [.long (zJ 0)], [r0, r1, r2, zH s3 zL3 0, r4, r5, r6, r7, zH s8 (zLb ks) 0, r9])) rfl ?_
    obtain rfl := Option.some.inj H
    exact xB.ret oX4_upperPush (r1 := some (.long (zJ 0))) rfl rfl rfl
def d_X4_lowerPush (s3 : zZ) : Option (Int) := some (s3 13 7)
set_option maxRecDepth 20000 in
theorem t_X4_lowerPush (r0 : List va_E) (r1 : List va_E) (r2 : List va_E) (s3 : zZ) (r4 : List va_E) (r5 : List va_E) (r6 : List va_E) (r7 : List va_E) (r8 : List va_E) (r9 : List va_E) {rr : Int} (H : d_X4_lowerPush s3 = some rr) : xC MX4_lowerPush 0 [.ref 3072] ([r0, r1, r2, zH s3 zL3 0, r4, r5, r6, r7, r8, r9]) (some (.long (zJ rr))) ([r0, r1, r2, zH s3 zL3 0, r4, r5, r6, r7, r8, r9]) := by
  refine ⟨Nat.le_of_ble_eq_true rfl, ?_⟩
  show xBody MX4_lowerPush 0 0 [some (.ref 3072)] [] ([r0, r1, r2, zH s3 zL3 0, r4, r5, r6, r7, r8, r9]) _ _
  unfold d_X4_lowerPush at H
  refine xB.run oX4_lowerPush 3 (s := (7, [some (.ref 3072)], [.long (zJ (s3 13 7))], [r0, r1, r2, zH s3 zL3 0, r4, r5, r6, r7, r8, r9])) rfl ?_
  obtain rfl := Option.some.inj H
  exact xB.ret oX4_lowerPush (r1 := some (.long (zJ (s3 13 7)))) rfl rfl rfl
def d_X4_limitOf_8 (s3 : zZ) (s8 : zZ) (ks : List Int) (c : Int) (wh : Int) : Nat → Int → Int → Int → Option (Int × Int × Int)
  | 0, _, _, _ => none
  | uN + 1, first, fsz, b => if (zr b ∧ zr (s3 0 7)) then (if (s3 0 7) ≤ b then some (first, fsz, b) else (if ((0 ≤ b ∧ b < 16) ∧ b < s3 5 0) then ((d_X4_upperPush s3 s8 ks c b).bind fun y2 => (d_J9_abs_067f4 y2).bind fun y4 => if (zrl y4) then (if y4 = 0 then (d_X4_limitOf_8 s3 s8 ks c wh uN first fsz (b + 1)) else (if first < 0 then (if ((0 ≤ b ∧ b < 16) ∧ b < s3 5 0) then (d_X4_limitOf_8 s3 s8 ks c wh uN b y4 (b + 1)) else none) else (if ((0 ≤ b ∧ b < 16) ∧ b < s3 5 0) then (if (b.toNat < ks.length ∧ b.toNat < 1024) then (if zr (s8 b.toNat 3) then (if (first.toNat < ks.length ∧ first.toNat < 1024) then (if zr (s8 first.toNat 3) then (if (zrl ((s8 b.toNat 3) * fsz) ∧ zrl ((s8 first.toNat 3) * y4)) then (if ((s8 first.toNat 3) * y4) ≤ ((s8 b.toNat 3) * fsz) then (d_X4_limitOf_8 s3 s8 ks c wh uN first fsz (b + 1)) else (if ((0 ≤ b ∧ b < 16) ∧ b < s3 5 0) then (d_X4_limitOf_8 s3 s8 ks c wh uN b y4 (b + 1)) else none)) else none) else none) else none) else none) else none) else none))) else none) else none)) else none
def d_X4_limitOf (s3 : zZ) (s8 : zZ) (ks : List Int) (c : Int) (wh : Int) : Option (Int) := (d_X4_limitOf_8 s3 s8 ks c wh zF (-1) 0 0).bind fun y20 => if y20.1 < 0 then some (-9) else (if (zr wh) then (if wh ≠ 2 then (if (y20.1.toNat < ks.length ∧ y20.1.toNat < 1024) then (if zr (s8 y20.1.toNat 3) then ((d_X4_lowerPush s3).bind fun y24 => (d_J9_abs_067f4 y24).bind fun y26 => (d_X11_inLeastTerms ((s8 y20.1.toNat 3) * y26) y20.2.1 wh).bind fun y28 => some y28) else none) else none) else (if (y20.1.toNat < ks.length ∧ y20.1.toNat < 1024) then (if zr (s8 y20.1.toNat 0) then some (s8 y20.1.toNat 0) else none) else none)) else none)
set_option maxRecDepth 20000 in
theorem l_X4_limitOf_8 (r0 : List va_E) (r1 : List va_E) (r2 : List va_E) (s3 : zZ) (r4 : List va_E) (r5 : List va_E) (r6 : List va_E) (r7 : List va_E) (s8 : zZ) (r9 : List va_E) (ks : List Int) (c : Int) (wh : Int) {r : Option Value} {hp1 : xH} : ∀ (uN : Nat) (first : Int) (fsz : Int) (b : Int) {uX : Int × Int × Int}, d_X4_limitOf_8 s3 s8 ks c wh uN first fsz b = some uX → (xBody MX4_limitOf 3 89 [some (.ref 3072), some (.int (zI c)), some (.int (zI wh)), some (zref uX.1), some (.long (zJ uX.2.1)), none, some (.int (zI uX.2.2)), none, none] [] ([r0, r1, r2, zH s3 zL3 0, r4, r5, r6, r7, zH s8 (zLb ks) 0, r9]) r hp1) → xBody MX4_limitOf 3 8 [some (.ref 3072), some (.int (zI c)), some (.int (zI wh)), some (zref first), some (.long (zJ fsz)), none, some (.int (zI b)), none, none] [] ([r0, r1, r2, zH s3 zL3 0, r4, r5, r6, r7, zH s8 (zLb ks) 0, r9]) r hp1 := by
  intro uN
  induction uN with
  | zero => intro first fsz b uX H K; cases H
  | succ uN ih =>
    intro first fsz b uX H K
    unfold d_X4_limitOf_8 at H
    refine xB.run oX4_limitOf 3 (s := (14, [some (.ref 3072), some (.int (zI c)), some (.int (zI wh)), some (zref first), some (.long (zJ fsz)), none, some (.int (zI b)), none, none], [.int (zI (s3 0 7)), .int (zI b)], [r0, r1, r2, zH s3 zL3 0, r4, r5, r6, r7, zH s8 (zLb ks) 0, r9])) rfl ?_
    obtain ⟨g19, H⟩ := zgd H
    have H := zif H
    refine xB.brE oX4_limitOf (P := (s3 0 7) ≤ b) rfl (zc_ge (a := b) (b := s3 0 7) g19) (fun h1 => ?_) (fun h1 => ?_)
    · have H := H.1 h1
      obtain rfl := Option.some.inj H
      exact K
    · have H := H.2 h1
      refine xB.run oX4_limitOf 5 (s := (25, [some (.ref 3072), some (.int (zI c)), some (.int (zI wh)), some (zref first), some (.long (zJ fsz)), none, some (.int (zI b)), none, none], [.int (zI b), .ref 3077, .int (zI c), .ref 3072], [r0, r1, r2, zH s3 zL3 0, r4, r5, r6, r7, zH s8 (zLb ks) 0, r9])) rfl ?_
      obtain ⟨g18, H⟩ := zgd H
      refine zB.aaldB oX4_limitOf (g := 3) (p := 5) (N := 16) rfl rfl (by decide) rfl rfl (by decide) g18 ?_
      obtain ⟨y2, e3, H⟩ := zbd H
      refine xB.call oX4_limitOf (M2 := MX4_upperPush) rfl rfl ((t_X4_upperPush r0 r1 r2 s3 r4 r5 r6 r7 s8 r9 ks c b e3).deep (by decide : 2 ≤ 2)) ?_
      show xBody MX4_limitOf 3 29 [some (.ref 3072), some (.int (zI c)), some (.int (zI wh)), some (zref first), some (.long (zJ fsz)), none, some (.int (zI b)), none, none] [.long (zJ y2)] ([r0, r1, r2, zH s3 zL3 0, r4, r5, r6, r7, zH s8 (zLb ks) 0, r9]) _ _
      obtain ⟨y4, e5, H⟩ := zbd H
      refine xB.call oX4_limitOf (M2 := MJ9_abs_067f4) rfl rfl ((t_J9_abs_067f4 r0 r1 r2 (zH s3 zL3 0) r4 r5 r6 r7 (zH s8 (zLb ks) 0) r9 y2 e5).deep (by decide : 0 ≤ 2)) ?_
      show xBody MX4_limitOf 3 32 [some (.ref 3072), some (.int (zI c)), some (.int (zI wh)), some (zref first), some (.long (zJ fsz)), none, some (.int (zI b)), none, none] [.long (zJ y4)] ([r0, r1, r2, zH s3 zL3 0, r4, r5, r6, r7, zH s8 (zLb ks) 0, r9]) _ _
      refine xB.run oX4_limitOf 4 (s := (38, [some (.ref 3072), some (.int (zI c)), some (.int (zI wh)), some (zref first), some (.long (zJ fsz)), none, some (.int (zI b)), some (.long (zJ y4)), none], [.int (lg_cmp (zJ y4) (zJ 0))], [r0, r1, r2, zH s3 zL3 0, r4, r5, r6, r7, zH s8 (zLb ks) 0, r9])) rfl ?_
      obtain ⟨g17, H⟩ := zgd H
      have H := zif H
      refine xB.brE oX4_limitOf (P := y4 = 0) rfl (zl_eq (a := y4) (b := 0) ⟨g17, by decide⟩) (fun h6 => ?_) (fun h6 => ?_)
      · have H := H.1 h6
        refine zB.inc oX4_limitOf rfl (lv2 := [some (.ref 3072), some (.int (zI c)), some (.int (zI wh)), some (zref first), some (.long (zJ fsz)), none, some (.int (zI (b + 1))), some (.long (zJ y4)), none]) (zi_inc (a := 0) (zi_addp1 b) _ rfl) ?_
        refine xB.run oX4_limitOf 1 (s := (8, [some (.ref 3072), some (.int (zI c)), some (.int (zI wh)), some (zref first), some (.long (zJ fsz)), none, some (.int (zI (b + 1))), some (.long (zJ y4)), none], [], [r0, r1, r2, zH s3 zL3 0, r4, r5, r6, r7, zH s8 (zLb ks) 0, r9])) rfl ?_
        refine xB.forget (lv1 := [some (.ref 3072), some (.int (zI c)), some (.int (zI wh)), some (zref first), some (.long (zJ fsz)), none, some (.int (zI (b + 1))), none, none]) (xle_same (xle_same (xle_same (xle_same (xle_same (xle_same (xle_same (xle_none (xle_same (xle_nil)))))))))) ?_
        exact ih first fsz (b + 1) H K
      · have H := H.2 h6
        have H := zif H
        by_cases h7 : first < 0
        · have H := H.1 h7
          rw [zref_neg h7]
          refine xB.run oX4_limitOf 5 (s := (77, [some (.ref 3072), some (.int (zI c)), some (.int (zI wh)), some (.null), some (.long (zJ fsz)), none, some (.int (zI b)), some (.long (zJ y4)), none], [.int (zI b), .ref 3077], [r0, r1, r2, zH s3 zL3 0, r4, r5, r6, r7, zH s8 (zLb ks) 0, r9])) rfl ?_
          obtain ⟨g8, H⟩ := zgd H
          refine zB.aaldB oX4_limitOf (g := 3) (p := 5) (N := 16) rfl rfl (by decide) rfl rfl (by decide) g8 ?_
          refine xB.run oX4_limitOf 3 (s := (83, [some (.ref 3072), some (.int (zI c)), some (.int (zI wh)), some (.ref (1024 * 8 + b.toNat)), some (.long (zJ y4)), none, some (.int (zI b)), some (.long (zJ y4)), none], [], [r0, r1, r2, zH s3 zL3 0, r4, r5, r6, r7, zH s8 (zLb ks) 0, r9])) rfl ?_
          refine zB.inc oX4_limitOf rfl (lv2 := [some (.ref 3072), some (.int (zI c)), some (.int (zI wh)), some (.ref (1024 * 8 + b.toNat)), some (.long (zJ y4)), none, some (.int (zI (b + 1))), some (.long (zJ y4)), none]) (zi_inc (a := 0) (zi_addp1 b) _ rfl) ?_
          refine xB.run oX4_limitOf 1 (s := (8, [some (.ref 3072), some (.int (zI c)), some (.int (zI wh)), some (.ref (1024 * 8 + b.toNat)), some (.long (zJ y4)), none, some (.int (zI (b + 1))), some (.long (zJ y4)), none], [], [r0, r1, r2, zH s3 zL3 0, r4, r5, r6, r7, zH s8 (zLb ks) 0, r9])) rfl ?_
          refine xB.forget (lv1 := [some (.ref 3072), some (.int (zI c)), some (.int (zI wh)), some (.ref (1024 * 8 + b.toNat)), some (.long (zJ y4)), none, some (.int (zI (b + 1))), none, none]) (xle_same (xle_same (xle_same (xle_same (xle_same (xle_same (xle_same (xle_none (xle_same (xle_nil)))))))))) ?_
          have K9 := ih b y4 (b + 1) H K
          rw [zref_pos (e := b) (by omega)] at K9
          exact K9
        · have H := H.2 h7
          rw [zref_pos h7]
          refine xB.run oX4_limitOf 5 (s := (51, [some (.ref 3072), some (.int (zI c)), some (.int (zI wh)), some (.ref (1024 * 8 + first.toNat)), some (.long (zJ fsz)), none, some (.int (zI b)), some (.long (zJ y4)), none], [.int (zI b), .ref 3077], [r0, r1, r2, zH s3 zL3 0, r4, r5, r6, r7, zH s8 (zLb ks) 0, r9])) rfl ?_
          obtain ⟨g16, H⟩ := zgd H
          refine zB.aaldB oX4_limitOf (g := 3) (p := 5) (N := 16) rfl rfl (by decide) rfl rfl (by decide) g16 ?_
          obtain ⟨g15, H⟩ := zgd H
          refine zB.getI oX4_limitOf (g := 8) (p := b.toNat) (k := 3) (y := 0) rfl rfl (by omega) rfl (zLb_at _ g15.1) (zks_bar _ 3 3 3 _ rfl rfl rfl) rfl ?_
          obtain ⟨g14, H⟩ := zgd H
          refine zB.opl oX4_limitOf rfl (zi_i2l g14) ?_
          refine xB.run oX4_limitOf 1 (s := (58, [some (.ref 3072), some (.int (zI c)), some (.int (zI wh)), some (.ref (1024 * 8 + first.toNat)), some (.long (zJ fsz)), none, some (.int (zI b)), some (.long (zJ y4)), none], [.long (zJ fsz), .long (zJ (s8 b.toNat 3))], [r0, r1, r2, zH s3 zL3 0, r4, r5, r6, r7, zH s8 (zLb ks) 0, r9])) rfl ?_
          refine zB.opl oX4_limitOf rfl (zj_mul (s8 b.toNat 3) fsz) ?_
          refine xB.run oX4_limitOf 1 (s := (60, [some (.ref 3072), some (.int (zI c)), some (.int (zI wh)), some (.ref (1024 * 8 + first.toNat)), some (.long (zJ fsz)), none, some (.int (zI b)), some (.long (zJ y4)), none], [.ref (1024 * 8 + first.toNat), .long (zJ ((s8 b.toNat 3) * fsz))], [r0, r1, r2, zH s3 zL3 0, r4, r5, r6, r7, zH s8 (zLb ks) 0, r9])) rfl ?_
          obtain ⟨g13, H⟩ := zgd H
          refine zB.getI oX4_limitOf (g := 8) (p := first.toNat) (k := 3) (y := 0) rfl rfl (by omega) rfl (zLb_at _ g13.1) (zks_bar _ 3 3 3 _ rfl rfl rfl) rfl ?_
          obtain ⟨g12, H⟩ := zgd H
          refine zB.opl oX4_limitOf rfl (zi_i2l g12) ?_
          refine xB.run oX4_limitOf 1 (s := (66, [some (.ref 3072), some (.int (zI c)), some (.int (zI wh)), some (.ref (1024 * 8 + first.toNat)), some (.long (zJ fsz)), none, some (.int (zI b)), some (.long (zJ y4)), none], [.long (zJ y4), .long (zJ (s8 first.toNat 3)), .long (zJ ((s8 b.toNat 3) * fsz))], [r0, r1, r2, zH s3 zL3 0, r4, r5, r6, r7, zH s8 (zLb ks) 0, r9])) rfl ?_
          refine zB.opl oX4_limitOf rfl (zj_mul (s8 first.toNat 3) y4) ?_
          refine xB.run oX4_limitOf 1 (s := (68, [some (.ref 3072), some (.int (zI c)), some (.int (zI wh)), some (.ref (1024 * 8 + first.toNat)), some (.long (zJ fsz)), none, some (.int (zI b)), some (.long (zJ y4)), none], [.int (lg_cmp (zJ ((s8 b.toNat 3) * fsz)) (zJ ((s8 first.toNat 3) * y4)))], [r0, r1, r2, zH s3 zL3 0, r4, r5, r6, r7, zH s8 (zLb ks) 0, r9])) rfl ?_
          obtain ⟨g11, H⟩ := zgd H
          have H := zif H
          refine xB.brE oX4_limitOf (P := ((s8 first.toNat 3) * y4) ≤ ((s8 b.toNat 3) * fsz)) rfl (zl_ge (a := (s8 b.toNat 3) * fsz) (b := (s8 first.toNat 3) * y4) g11) (fun h9 => ?_) (fun h9 => ?_)
          · have H := H.1 h9
            refine zB.inc oX4_limitOf rfl (lv2 := [some (.ref 3072), some (.int (zI c)), some (.int (zI wh)), some (.ref (1024 * 8 + first.toNat)), some (.long (zJ fsz)), none, some (.int (zI (b + 1))), some (.long (zJ y4)), none]) (zi_inc (a := 0) (zi_addp1 b) _ rfl) ?_
            refine xB.run oX4_limitOf 1 (s := (8, [some (.ref 3072), some (.int (zI c)), some (.int (zI wh)), some (.ref (1024 * 8 + first.toNat)), some (.long (zJ fsz)), none, some (.int (zI (b + 1))), some (.long (zJ y4)), none], [], [r0, r1, r2, zH s3 zL3 0, r4, r5, r6, r7, zH s8 (zLb ks) 0, r9])) rfl ?_
            refine xB.forget (lv1 := [some (.ref 3072), some (.int (zI c)), some (.int (zI wh)), some (.ref (1024 * 8 + first.toNat)), some (.long (zJ fsz)), none, some (.int (zI (b + 1))), none, none]) (xle_same (xle_same (xle_same (xle_same (xle_same (xle_same (xle_same (xle_none (xle_same (xle_nil)))))))))) ?_
            have K9 := ih first fsz (b + 1) H K
            rw [zref_pos h7] at K9
            exact K9
          · have H := H.2 h9
            refine xB.run oX4_limitOf 3 (s := (77, [some (.ref 3072), some (.int (zI c)), some (.int (zI wh)), some (.ref (1024 * 8 + first.toNat)), some (.long (zJ fsz)), none, some (.int (zI b)), some (.long (zJ y4)), none], [.int (zI b), .ref 3077], [r0, r1, r2, zH s3 zL3 0, r4, r5, r6, r7, zH s8 (zLb ks) 0, r9])) rfl ?_
            obtain ⟨g10, H⟩ := zgd H
            refine zB.aaldB oX4_limitOf (g := 3) (p := 5) (N := 16) rfl rfl (by decide) rfl rfl (by decide) g10 ?_
            refine xB.run oX4_limitOf 3 (s := (83, [some (.ref 3072), some (.int (zI c)), some (.int (zI wh)), some (.ref (1024 * 8 + b.toNat)), some (.long (zJ y4)), none, some (.int (zI b)), some (.long (zJ y4)), none], [], [r0, r1, r2, zH s3 zL3 0, r4, r5, r6, r7, zH s8 (zLb ks) 0, r9])) rfl ?_
            refine zB.inc oX4_limitOf rfl (lv2 := [some (.ref 3072), some (.int (zI c)), some (.int (zI wh)), some (.ref (1024 * 8 + b.toNat)), some (.long (zJ y4)), none, some (.int (zI (b + 1))), some (.long (zJ y4)), none]) (zi_inc (a := 0) (zi_addp1 b) _ rfl) ?_
            refine xB.run oX4_limitOf 1 (s := (8, [some (.ref 3072), some (.int (zI c)), some (.int (zI wh)), some (.ref (1024 * 8 + b.toNat)), some (.long (zJ y4)), none, some (.int (zI (b + 1))), some (.long (zJ y4)), none], [], [r0, r1, r2, zH s3 zL3 0, r4, r5, r6, r7, zH s8 (zLb ks) 0, r9])) rfl ?_
            refine xB.forget (lv1 := [some (.ref 3072), some (.int (zI c)), some (.int (zI wh)), some (.ref (1024 * 8 + b.toNat)), some (.long (zJ y4)), none, some (.int (zI (b + 1))), none, none]) (xle_same (xle_same (xle_same (xle_same (xle_same (xle_same (xle_same (xle_none (xle_same (xle_nil)))))))))) ?_
            have K9 := ih b y4 (b + 1) H K
            rw [zref_pos (e := b) (by omega)] at K9
            exact K9
set_option maxRecDepth 20000 in
theorem t_X4_limitOf (r0 : List va_E) (r1 : List va_E) (r2 : List va_E) (s3 : zZ) (r4 : List va_E) (r5 : List va_E) (r6 : List va_E) (r7 : List va_E) (s8 : zZ) (r9 : List va_E) (ks : List Int) (c : Int) (wh : Int) {rr : Int} (H : d_X4_limitOf s3 s8 ks c wh = some rr) : xC MX4_limitOf 3 [.ref 3072, .int (zI c), .int (zI wh)] ([r0, r1, r2, zH s3 zL3 0, r4, r5, r6, r7, zH s8 (zLb ks) 0, r9]) (some (.long (zJ rr))) ([r0, r1, r2, zH s3 zL3 0, r4, r5, r6, r7, zH s8 (zLb ks) 0, r9]) := by
  refine ⟨Nat.le_of_ble_eq_true rfl, ?_⟩
  show xBody MX4_limitOf 3 0 [some (.ref 3072), some (.int (zI c)), some (.int (zI wh)), none, none, none, none, none, none] [] ([r0, r1, r2, zH s3 zL3 0, r4, r5, r6, r7, zH s8 (zLb ks) 0, r9]) _ _
  unfold d_X4_limitOf at H
  refine xB.run oX4_limitOf 6 (s := (8, [some (.ref 3072), some (.int (zI c)), some (.int (zI wh)), some (.null), some (.long (zJ 0)), none, some (.int (zI 0)), none, none], [], [r0, r1, r2, zH s3 zL3 0, r4, r5, r6, r7, zH s8 (zLb ks) 0, r9])) rfl ?_
  obtain ⟨y20, e21, H⟩ := zbd H
  refine l_X4_limitOf_8 r0 r1 r2 s3 r4 r5 r6 r7 s8 r9 ks c wh _ (-1) 0 0 e21 ?_
  have H := zif H
  by_cases h22 : y20.1 < 0
  · have H := H.1 h22
    rw [zref_neg h22]
    refine xB.run oX4_limitOf 3 (s := (96, [some (.ref 3072), some (.int (zI c)), some (.int (zI wh)), some (.null), some (.long (zJ y20.2.1)), none, some (.int (zI y20.2.2)), none, none], [.long (zJ (-9))], [r0, r1, r2, zH s3 zL3 0, r4, r5, r6, r7, zH s8 (zLb ks) 0, r9])) rfl ?_
    obtain rfl := Option.some.inj H
    exact xB.ret oX4_limitOf (r1 := some (.long (zJ (-9)))) rfl rfl rfl
  · have H := H.2 h22
    rw [zref_pos h22]
    refine xB.run oX4_limitOf 4 (s := (99, [some (.ref 3072), some (.int (zI c)), some (.int (zI wh)), some (.ref (1024 * 8 + y20.1.toNat)), some (.long (zJ y20.2.1)), none, some (.int (zI y20.2.2)), none, none], [.int (zI 2), .int (zI wh)], [r0, r1, r2, zH s3 zL3 0, r4, r5, r6, r7, zH s8 (zLb ks) 0, r9])) rfl ?_
    obtain ⟨g34, H⟩ := zgd H
    have H := zif H
    refine xB.brE oX4_limitOf (P := wh ≠ 2) rfl (zc_ne (a := wh) (b := 2) ⟨g34, by decide⟩) (fun h23 => ?_) (fun h23 => ?_)
    · have H := H.1 h23
      refine xB.run oX4_limitOf 1 (s := (109, [some (.ref 3072), some (.int (zI c)), some (.int (zI wh)), some (.ref (1024 * 8 + y20.1.toNat)), some (.long (zJ y20.2.1)), none, some (.int (zI y20.2.2)), none, none], [.ref (1024 * 8 + y20.1.toNat)], [r0, r1, r2, zH s3 zL3 0, r4, r5, r6, r7, zH s8 (zLb ks) 0, r9])) rfl ?_
      obtain ⟨g31, H⟩ := zgd H
      refine zB.getI oX4_limitOf (g := 8) (p := y20.1.toNat) (k := 3) (y := 0) rfl rfl (by omega) rfl (zLb_at _ g31.1) (zks_bar _ 3 3 3 _ rfl rfl rfl) rfl ?_
      obtain ⟨g30, H⟩ := zgd H
      refine zB.opl oX4_limitOf rfl (zi_i2l g30) ?_
      refine xB.run oX4_limitOf 1 (s := (114, [some (.ref 3072), some (.int (zI c)), some (.int (zI wh)), some (.ref (1024 * 8 + y20.1.toNat)), some (.long (zJ y20.2.1)), none, some (.int (zI y20.2.2)), none, none], [.ref 3072, .long (zJ (s8 y20.1.toNat 3))], [r0, r1, r2, zH s3 zL3 0, r4, r5, r6, r7, zH s8 (zLb ks) 0, r9])) rfl ?_
      obtain ⟨y24, e25, H⟩ := zbd H
      refine xB.call oX4_limitOf (M2 := MX4_lowerPush) rfl rfl ((t_X4_lowerPush r0 r1 r2 s3 r4 r5 r6 r7 (zH s8 (zLb ks) 0) r9  e25).deep (by decide : 0 ≤ 2)) ?_
      show xBody MX4_limitOf 3 117 [some (.ref 3072), some (.int (zI c)), some (.int (zI wh)), some (.ref (1024 * 8 + y20.1.toNat)), some (.long (zJ y20.2.1)), none, some (.int (zI y20.2.2)), none, none] [.long (zJ y24), .long (zJ (s8 y20.1.toNat 3))] ([r0, r1, r2, zH s3 zL3 0, r4, r5, r6, r7, zH s8 (zLb ks) 0, r9]) _ _
      obtain ⟨y26, e27, H⟩ := zbd H
      refine xB.call oX4_limitOf (M2 := MJ9_abs_067f4) rfl rfl ((t_J9_abs_067f4 r0 r1 r2 (zH s3 zL3 0) r4 r5 r6 r7 (zH s8 (zLb ks) 0) r9 y24 e27).deep (by decide : 0 ≤ 2)) ?_
      show xBody MX4_limitOf 3 120 [some (.ref 3072), some (.int (zI c)), some (.int (zI wh)), some (.ref (1024 * 8 + y20.1.toNat)), some (.long (zJ y20.2.1)), none, some (.int (zI y20.2.2)), none, none] [.long (zJ y26), .long (zJ (s8 y20.1.toNat 3))] ([r0, r1, r2, zH s3 zL3 0, r4, r5, r6, r7, zH s8 (zLb ks) 0, r9]) _ _
      refine zB.opl oX4_limitOf rfl (zj_mul (s8 y20.1.toNat 3) y26) ?_
      refine xB.run oX4_limitOf 2 (s := (124, [some (.ref 3072), some (.int (zI c)), some (.int (zI wh)), some (.ref (1024 * 8 + y20.1.toNat)), some (.long (zJ y20.2.1)), none, some (.int (zI y20.2.2)), none, none], [.int (zI wh), .long (zJ y20.2.1), .long (zJ ((s8 y20.1.toNat 3) * y26))], [r0, r1, r2, zH s3 zL3 0, r4, r5, r6, r7, zH s8 (zLb ks) 0, r9])) rfl ?_
      obtain ⟨y28, e29, H⟩ := zbd H
      refine xB.call oX4_limitOf (M2 := MX11_inLeastTerms) rfl rfl ((t_X11_inLeastTerms r0 r1 r2 (zH s3 zL3 0) r4 r5 r6 r7 (zH s8 (zLb ks) 0) r9 ((s8 y20.1.toNat 3) * y26) y20.2.1 wh e29).deep (by decide : 2 ≤ 2)) ?_
      show xBody MX4_limitOf 3 127 [some (.ref 3072), some (.int (zI c)), some (.int (zI wh)), some (.ref (1024 * 8 + y20.1.toNat)), some (.long (zJ y20.2.1)), none, some (.int (zI y20.2.2)), none, none] [.long (zJ y28)] ([r0, r1, r2, zH s3 zL3 0, r4, r5, r6, r7, zH s8 (zLb ks) 0, r9]) _ _
      obtain rfl := Option.some.inj H
      exact xB.ret oX4_limitOf (r1 := some (.long (zJ y28))) rfl rfl rfl
    · have H := H.2 h23
      refine xB.run oX4_limitOf 1 (s := (103, [some (.ref 3072), some (.int (zI c)), some (.int (zI wh)), some (.ref (1024 * 8 + y20.1.toNat)), some (.long (zJ y20.2.1)), none, some (.int (zI y20.2.2)), none, none], [.ref (1024 * 8 + y20.1.toNat)], [r0, r1, r2, zH s3 zL3 0, r4, r5, r6, r7, zH s8 (zLb ks) 0, r9])) rfl ?_
      obtain ⟨g33, H⟩ := zgd H
      refine zB.getI oX4_limitOf (g := 8) (p := y20.1.toNat) (k := 0) (y := 0) rfl rfl (by omega) rfl (zLb_at _ g33.1) (zks_bar _ 0 0 0 _ rfl rfl rfl) rfl ?_
      obtain ⟨g32, H⟩ := zgd H
      refine zB.opl oX4_limitOf rfl (zi_i2l g32) ?_
      obtain rfl := Option.some.inj H
      exact xB.ret oX4_limitOf (r1 := some (.long (zJ (s8 y20.1.toNat 0)))) rfl rfl rfl
def d_X4_canChange_2 (s3 : zZ) (row : Int) : Nat → Int → Option (Sum (Int) (Int))
  | 0, _ => none
  | uN + 1, col => if (zr col ∧ zr (s3 0 11)) then (if (s3 0 11) ≤ col then some (.inl col) else ((d_X9f_leads s3 col).bind fun y2 => if (zr y2) then (if (0 : Int) ≤ y2 then (d_X4_canChange_2 s3 row uN (col + 1)) else ((d_X9f_number s3 row col).bind fun y5 => if (zrl y5) then (if y5 = 0 then (d_X4_canChange_2 s3 row uN (col + 1)) else some (.inr 1)) else none)) else none)) else none
def d_X4_canChange (s3 : zZ) (row : Int) : Option (Int) := (d_X4_canChange_2 s3 row zF 0).bind fun y11 => match y11 with | .inl y13 => some 0 | .inr y14 => some y14
set_option maxRecDepth 20000 in
theorem l_X4_canChange_2 (r0 : List va_E) (r1 : List va_E) (r2 : List va_E) (s3 : zZ) (r4 : List va_E) (r5 : List va_E) (r6 : List va_E) (r7 : List va_E) (r8 : List va_E) (r9 : List va_E) (row : Int) {r : Option Value} {hp1 : xH} : ∀ (uN : Nat) (col : Int) {uX : Sum (Int) (Int)}, d_X4_canChange_2 s3 row uN col = some uX → ((∀ uY, uX = .inl uY → xBody MX4_canChange 2 43 [some (.ref 3072), some (.int (zI row)), some (.int (zI uY))] [] ([r0, r1, r2, zH s3 zL3 0, r4, r5, r6, r7, r8, r9]) r hp1) ∧ (∀ uW, uX = .inr uW → r = some (.int (zI uW)) ∧ hp1 = [r0, r1, r2, zH s3 zL3 0, r4, r5, r6, r7, r8, r9])) → xBody MX4_canChange 2 2 [some (.ref 3072), some (.int (zI row)), some (.int (zI col))] [] ([r0, r1, r2, zH s3 zL3 0, r4, r5, r6, r7, r8, r9]) r hp1 := by
  intro uN
  induction uN with
  | zero => intro col uX H K; cases H
  | succ uN ih =>
    intro col uX H K
    unfold d_X4_canChange_2 at H
    refine xB.run oX4_canChange 3 (s := (7, [some (.ref 3072), some (.int (zI row)), some (.int (zI col))], [.int (zI (s3 0 11)), .int (zI col)], [r0, r1, r2, zH s3 zL3 0, r4, r5, r6, r7, r8, r9])) rfl ?_
    obtain ⟨g10, H⟩ := zgd H
    have H := zif H
    refine xB.brE oX4_canChange (P := (s3 0 11) ≤ col) rfl (zc_ge (a := col) (b := s3 0 11) g10) (fun h1 => ?_) (fun h1 => ?_)
    · have H := H.1 h1
      obtain rfl := Option.some.inj H
      exact K.1 _ rfl
    · have H := H.2 h1
      refine xB.run oX4_canChange 3 (s := (15, [some (.ref 3072), some (.int (zI row)), some (.int (zI col))], [.int (zI col), .ref 3085], [r0, r1, r2, zH s3 zL3 0, r4, r5, r6, r7, r8, r9])) rfl ?_
      obtain ⟨y2, e3, H⟩ := zbd H
      refine xB.call oX4_canChange (M2 := MX9_leads) rfl rfl ((t_X9f_leads r0 r1 r2 s3 r4 r5 r6 r7 r8 r9 col e3).deep (by decide : 0 ≤ 1)) ?_
      show xBody MX4_canChange 2 18 [some (.ref 3072), some (.int (zI row)), some (.int (zI col))] [.int (zI y2)] ([r0, r1, r2, zH s3 zL3 0, r4, r5, r6, r7, r8, r9]) _ _
      obtain ⟨g9, H⟩ := zgd H
      have H := zif H
      refine xB.brE oX4_canChange (P := (0 : Int) ≤ y2) rfl (zc_ge (a := y2) (b := 0) ⟨g9, by decide⟩) (fun h4 => ?_) (fun h4 => ?_)
      · have H := H.1 h4
        refine zB.inc oX4_canChange rfl (lv2 := [some (.ref 3072), some (.int (zI row)), some (.int (zI (col + 1)))]) (zi_inc (a := 0) (zi_addp1 col) _ rfl) ?_
        refine xB.run oX4_canChange 1 (s := (2, [some (.ref 3072), some (.int (zI row)), some (.int (zI (col + 1)))], [], [r0, r1, r2, zH s3 zL3 0, r4, r5, r6, r7, r8, r9])) rfl ?_
        exact ih (col + 1) H K
      · have H := H.2 h4
        refine xB.run oX4_canChange 4 (s := (27, [some (.ref 3072), some (.int (zI row)), some (.int (zI col))], [.int (zI col), .int (zI row), .ref 3085], [r0, r1, r2, zH s3 zL3 0, r4, r5, r6, r7, r8, r9])) rfl ?_
        obtain ⟨y5, e6, H⟩ := zbd H
        refine xB.call oX4_canChange (M2 := MX9_number) rfl rfl ((t_X9f_number r0 r1 r2 s3 r4 r5 r6 r7 r8 r9 row col e6).deep (by decide : 1 ≤ 1)) ?_
        show xBody MX4_canChange 2 30 [some (.ref 3072), some (.int (zI row)), some (.int (zI col))] [.long (zJ y5)] ([r0, r1, r2, zH s3 zL3 0, r4, r5, r6, r7, r8, r9]) _ _
        refine xB.run oX4_canChange 2 (s := (32, [some (.ref 3072), some (.int (zI row)), some (.int (zI col))], [.int (lg_cmp (zJ y5) (zJ 0))], [r0, r1, r2, zH s3 zL3 0, r4, r5, r6, r7, r8, r9])) rfl ?_
        obtain ⟨g8, H⟩ := zgd H
        have H := zif H
        refine xB.brE oX4_canChange (P := y5 = 0) rfl (zl_eq (a := y5) (b := 0) ⟨g8, by decide⟩) (fun h7 => ?_) (fun h7 => ?_)
        · have H := H.1 h7
          refine zB.inc oX4_canChange rfl (lv2 := [some (.ref 3072), some (.int (zI row)), some (.int (zI (col + 1)))]) (zi_inc (a := 0) (zi_addp1 col) _ rfl) ?_
          refine xB.run oX4_canChange 1 (s := (2, [some (.ref 3072), some (.int (zI row)), some (.int (zI (col + 1)))], [], [r0, r1, r2, zH s3 zL3 0, r4, r5, r6, r7, r8, r9])) rfl ?_
          exact ih (col + 1) H K
        · have H := H.2 h7
          refine xB.run oX4_canChange 1 (s := (36, [some (.ref 3072), some (.int (zI row)), some (.int (zI col))], [.int (zI 1)], [r0, r1, r2, zH s3 zL3 0, r4, r5, r6, r7, r8, r9])) rfl ?_
          obtain rfl := Option.some.inj H
          obtain ⟨kr, kh⟩ := K.2 _ rfl
          subst kr kh
          exact xB.ret oX4_canChange (r1 := some (.int (zI 1))) rfl rfl rfl
set_option maxRecDepth 20000 in
theorem t_X4_canChange (r0 : List va_E) (r1 : List va_E) (r2 : List va_E) (s3 : zZ) (r4 : List va_E) (r5 : List va_E) (r6 : List va_E) (r7 : List va_E) (r8 : List va_E) (r9 : List va_E) (row : Int) {rr : Int} (H : d_X4_canChange s3 row = some rr) : xC MX4_canChange 2 [.ref 3072, .int (zI row)] ([r0, r1, r2, zH s3 zL3 0, r4, r5, r6, r7, r8, r9]) (some (.int (zI rr))) ([r0, r1, r2, zH s3 zL3 0, r4, r5, r6, r7, r8, r9]) := by
  refine ⟨Nat.le_of_ble_eq_true rfl, ?_⟩
  show xBody MX4_canChange 2 0 [some (.ref 3072), some (.int (zI row)), none] [] ([r0, r1, r2, zH s3 zL3 0, r4, r5, r6, r7, r8, r9]) _ _
  unfold d_X4_canChange at H
  refine xB.run oX4_canChange 2 (s := (2, [some (.ref 3072), some (.int (zI row)), some (.int (zI 0))], [], [r0, r1, r2, zH s3 zL3 0, r4, r5, r6, r7, r8, r9])) rfl ?_
  obtain ⟨y11, e12, H⟩ := zbd H
  refine l_X4_canChange_2 r0 r1 r2 s3 r4 r5 r6 r7 r8 r9 row _ 0 e12 ?_
  refine ⟨fun y13 uQ => ?_, fun y14 uQ => ?_⟩
  · subst uQ
    refine xB.run oX4_canChange 1 (s := (44, [some (.ref 3072), some (.int (zI row)), some (.int (zI y13))], [.int (zI 0)], [r0, r1, r2, zH s3 zL3 0, r4, r5, r6, r7, r8, r9])) rfl ?_
    obtain rfl := Option.some.inj H
    exact xB.ret oX4_canChange (r1 := some (.int (zI 0))) rfl rfl rfl
  · subst uQ
    obtain rfl := Option.some.inj H
    exact ⟨rfl, rfl⟩
def d_X4_neededBars_4 (s3 : zZ) (s8 : zZ) (ks : List Int) (c : Int) : Nat → Int → Int → Option (Int × Int)
  | 0, _, _ => none
  | uN + 1, nd, b => if (zr b ∧ zr (s3 0 7)) then (if (s3 0 7) ≤ b then some (nd, b) else (if ((0 ≤ b ∧ b < 16) ∧ b < s3 5 0) then ((d_X4_upperPush s3 s8 ks c b).bind fun y2 => if (zrl y2) then (if y2 = 0 then (d_X4_neededBars_4 s3 s8 ks c uN nd (b + 1)) else (if ((0 ≤ b ∧ b < 16) ∧ b < s3 5 0) then (if (b.toNat < ks.length ∧ b.toNat < 1024) then ((d_X9f_leads s3 (s8 b.toNat 5)).bind fun y5 => (d_X4_canChange s3 y5).bind fun y7 => if (zr y7) then (if y7 ≠ 0 then (d_X4_neededBars_4 s3 s8 ks c uN nd (b + 1)) else (if (0 ≤ b ∧ b < 32) then (if ((0 ≤ nd ∧ zr nd) ∧ (0 ≤ ((2 : Int) ^ b.toNat) ∧ zr ((2 : Int) ^ b.toNat))) then (d_X4_neededBars_4 s3 s8 ks c uN ((nd.toNat ||| ((2 : Int) ^ b.toNat).toNat : Nat) : Int) (b + 1)) else none) else none)) else none) else none) else none)) else none) else none)) else none
def d_X4_neededBars (s3 : zZ) (s8 : zZ) (ks : List Int) (c : Int) : Option (Int) := (d_X4_neededBars_4 s3 s8 ks c zF 0 0).bind fun y18 => some y18.1
set_option maxRecDepth 20000 in
theorem l_X4_neededBars_4 (r0 : List va_E) (r1 : List va_E) (r2 : List va_E) (s3 : zZ) (r4 : List va_E) (r5 : List va_E) (r6 : List va_E) (r7 : List va_E) (s8 : zZ) (r9 : List va_E) (ks : List Int) (c : Int) {r : Option Value} {hp1 : xH} : ∀ (uN : Nat) (nd : Int) (b : Int) {uX : Int × Int}, d_X4_neededBars_4 s3 s8 ks c uN nd b = some uX → (xBody MX4_neededBars 3 63 [some (.ref 3072), some (.int (zI c)), some (.int (zI uX.1)), some (.int (zI uX.2))] [] ([r0, r1, r2, zH s3 zL3 0, r4, r5, r6, r7, zH s8 (zLb ks) 0, r9]) r hp1) → xBody MX4_neededBars 3 4 [some (.ref 3072), some (.int (zI c)), some (.int (zI nd)), some (.int (zI b))] [] ([r0, r1, r2, zH s3 zL3 0, r4, r5, r6, r7, zH s8 (zLb ks) 0, r9]) r hp1 := by
  intro uN
  induction uN with
  | zero => intro nd b uX H K; cases H
  | succ uN ih =>
    intro nd b uX H K
    unfold d_X4_neededBars_4 at H
    refine xB.run oX4_neededBars 3 (s := (9, [some (.ref 3072), some (.int (zI c)), some (.int (zI nd)), some (.int (zI b))], [.int (zI (s3 0 7)), .int (zI b)], [r0, r1, r2, zH s3 zL3 0, r4, r5, r6, r7, zH s8 (zLb ks) 0, r9])) rfl ?_
    obtain ⟨g17, H⟩ := zgd H
    have H := zif H
    refine xB.brE oX4_neededBars (P := (s3 0 7) ≤ b) rfl (zc_ge (a := b) (b := s3 0 7) g17) (fun h1 => ?_) (fun h1 => ?_)
    · have H := H.1 h1
      obtain rfl := Option.some.inj H
      exact K
    · have H := H.2 h1
      refine xB.run oX4_neededBars 5 (s := (19, [some (.ref 3072), some (.int (zI c)), some (.int (zI nd)), some (.int (zI b))], [.int (zI b), .ref 3077, .int (zI c), .ref 3072], [r0, r1, r2, zH s3 zL3 0, r4, r5, r6, r7, zH s8 (zLb ks) 0, r9])) rfl ?_
      obtain ⟨g16, H⟩ := zgd H
      refine zB.aaldB oX4_neededBars (g := 3) (p := 5) (N := 16) rfl rfl (by decide) rfl rfl (by decide) g16 ?_
      obtain ⟨y2, e3, H⟩ := zbd H
      refine xB.call oX4_neededBars (M2 := MX4_upperPush) rfl rfl ((t_X4_upperPush r0 r1 r2 s3 r4 r5 r6 r7 s8 r9 ks c b e3).deep (by decide : 2 ≤ 2)) ?_
      show xBody MX4_neededBars 3 23 [some (.ref 3072), some (.int (zI c)), some (.int (zI nd)), some (.int (zI b))] [.long (zJ y2)] ([r0, r1, r2, zH s3 zL3 0, r4, r5, r6, r7, zH s8 (zLb ks) 0, r9]) _ _
      refine xB.run oX4_neededBars 2 (s := (25, [some (.ref 3072), some (.int (zI c)), some (.int (zI nd)), some (.int (zI b))], [.int (lg_cmp (zJ y2) (zJ 0))], [r0, r1, r2, zH s3 zL3 0, r4, r5, r6, r7, zH s8 (zLb ks) 0, r9])) rfl ?_
      obtain ⟨g15, H⟩ := zgd H
      have H := zif H
      refine xB.brE oX4_neededBars (P := y2 = 0) rfl (zl_eq (a := y2) (b := 0) ⟨g15, by decide⟩) (fun h4 => ?_) (fun h4 => ?_)
      · have H := H.1 h4
        refine zB.inc oX4_neededBars rfl (lv2 := [some (.ref 3072), some (.int (zI c)), some (.int (zI nd)), some (.int (zI (b + 1)))]) (zi_inc (a := 0) (zi_addp1 b) _ rfl) ?_
        refine xB.run oX4_neededBars 1 (s := (4, [some (.ref 3072), some (.int (zI c)), some (.int (zI nd)), some (.int (zI (b + 1)))], [], [r0, r1, r2, zH s3 zL3 0, r4, r5, r6, r7, zH s8 (zLb ks) 0, r9])) rfl ?_
        exact ih nd (b + 1) H K
      · have H := H.2 h4
        refine xB.run oX4_neededBars 6 (s := (38, [some (.ref 3072), some (.int (zI c)), some (.int (zI nd)), some (.int (zI b))], [.int (zI b), .ref 3077, .ref 3085, .ref 3072], [r0, r1, r2, zH s3 zL3 0, r4, r5, r6, r7, zH s8 (zLb ks) 0, r9])) rfl ?_
        obtain ⟨g14, H⟩ := zgd H
        refine zB.aaldB oX4_neededBars (g := 3) (p := 5) (N := 16) rfl rfl (by decide) rfl rfl (by decide) g14 ?_
        obtain ⟨g13, H⟩ := zgd H
        refine zB.getI oX4_neededBars (g := 8) (p := b.toNat) (k := 5) (y := 0) rfl rfl (by omega) rfl (zLb_at _ g13.1) (zks_bar _ 5 5 5 _ rfl rfl rfl) rfl ?_
        obtain ⟨y5, e6, H⟩ := zbd H
        refine xB.call oX4_neededBars (M2 := MX9_leads) rfl rfl ((t_X9f_leads r0 r1 r2 s3 r4 r5 r6 r7 (zH s8 (zLb ks) 0) r9 (s8 b.toNat 5) e6).deep (by decide : 0 ≤ 2)) ?_
        show xBody MX4_neededBars 3 45 [some (.ref 3072), some (.int (zI c)), some (.int (zI nd)), some (.int (zI b))] [.int (zI y5), .ref 3072] ([r0, r1, r2, zH s3 zL3 0, r4, r5, r6, r7, zH s8 (zLb ks) 0, r9]) _ _
        obtain ⟨y7, e8, H⟩ := zbd H
        refine xB.call oX4_neededBars (M2 := MX4_canChange) rfl rfl ((t_X4_canChange r0 r1 r2 s3 r4 r5 r6 r7 (zH s8 (zLb ks) 0) r9 y5 e8).deep (by decide : 2 ≤ 2)) ?_
        show xBody MX4_neededBars 3 48 [some (.ref 3072), some (.int (zI c)), some (.int (zI nd)), some (.int (zI b))] [.int (zI y7)] ([r0, r1, r2, zH s3 zL3 0, r4, r5, r6, r7, zH s8 (zLb ks) 0, r9]) _ _
        obtain ⟨g12, H⟩ := zgd H
        have H := zif H
        refine xB.brE oX4_neededBars (P := y7 ≠ 0) rfl (zc_ne (a := y7) (b := 0) ⟨g12, by decide⟩) (fun h9 => ?_) (fun h9 => ?_)
        · have H := H.1 h9
          refine zB.inc oX4_neededBars rfl (lv2 := [some (.ref 3072), some (.int (zI c)), some (.int (zI nd)), some (.int (zI (b + 1)))]) (zi_inc (a := 0) (zi_addp1 b) _ rfl) ?_
          refine xB.run oX4_neededBars 1 (s := (4, [some (.ref 3072), some (.int (zI c)), some (.int (zI nd)), some (.int (zI (b + 1)))], [], [r0, r1, r2, zH s3 zL3 0, r4, r5, r6, r7, zH s8 (zLb ks) 0, r9])) rfl ?_
          exact ih nd (b + 1) H K
        · have H := H.2 h9
          refine xB.run oX4_neededBars 3 (s := (54, [some (.ref 3072), some (.int (zI c)), some (.int (zI nd)), some (.int (zI b))], [.int (zI b), .int (zI 1), .int (zI nd)], [r0, r1, r2, zH s3 zL3 0, r4, r5, r6, r7, zH s8 (zLb ks) 0, r9])) rfl ?_
          obtain ⟨g11, H⟩ := zgd H
          refine zB.opi oX4_neededBars (y := (2 : Int) ^ b.toNat) rfl (zi_shl1 (c := b) g11) ?_
          obtain ⟨g10, H⟩ := zgd H
          refine zB.opi oX4_neededBars rfl (zi_or (a := nd) (b := (2 : Int) ^ b.toNat) g10.1 g10.2) ?_
          refine xB.run oX4_neededBars 1 (s := (57, [some (.ref 3072), some (.int (zI c)), some (.int (zI ((nd.toNat ||| ((2 : Int) ^ b.toNat).toNat : Nat) : Int))), some (.int (zI b))], [], [r0, r1, r2, zH s3 zL3 0, r4, r5, r6, r7, zH s8 (zLb ks) 0, r9])) rfl ?_
          refine zB.inc oX4_neededBars rfl (lv2 := [some (.ref 3072), some (.int (zI c)), some (.int (zI ((nd.toNat ||| ((2 : Int) ^ b.toNat).toNat : Nat) : Int))), some (.int (zI (b + 1)))]) (zi_inc (a := 0) (zi_addp1 b) _ rfl) ?_
          refine xB.run oX4_neededBars 1 (s := (4, [some (.ref 3072), some (.int (zI c)), some (.int (zI ((nd.toNat ||| ((2 : Int) ^ b.toNat).toNat : Nat) : Int))), some (.int (zI (b + 1)))], [], [r0, r1, r2, zH s3 zL3 0, r4, r5, r6, r7, zH s8 (zLb ks) 0, r9])) rfl ?_
          exact ih ((nd.toNat ||| ((2 : Int) ^ b.toNat).toNat : Nat) : Int) (b + 1) H K
set_option maxRecDepth 20000 in
theorem t_X4_neededBars (r0 : List va_E) (r1 : List va_E) (r2 : List va_E) (s3 : zZ) (r4 : List va_E) (r5 : List va_E) (r6 : List va_E) (r7 : List va_E) (s8 : zZ) (r9 : List va_E) (ks : List Int) (c : Int) {rr : Int} (H : d_X4_neededBars s3 s8 ks c = some rr) : xC MX4_neededBars 3 [.ref 3072, .int (zI c)] ([r0, r1, r2, zH s3 zL3 0, r4, r5, r6, r7, zH s8 (zLb ks) 0, r9]) (some (.int (zI rr))) ([r0, r1, r2, zH s3 zL3 0, r4, r5, r6, r7, zH s8 (zLb ks) 0, r9]) := by
  refine ⟨Nat.le_of_ble_eq_true rfl, ?_⟩
  show xBody MX4_neededBars 3 0 [some (.ref 3072), some (.int (zI c)), none, none] [] ([r0, r1, r2, zH s3 zL3 0, r4, r5, r6, r7, zH s8 (zLb ks) 0, r9]) _ _
  unfold d_X4_neededBars at H
  refine xB.run oX4_neededBars 4 (s := (4, [some (.ref 3072), some (.int (zI c)), some (.int (zI 0)), some (.int (zI 0))], [], [r0, r1, r2, zH s3 zL3 0, r4, r5, r6, r7, zH s8 (zLb ks) 0, r9])) rfl ?_
  obtain ⟨y18, e19, H⟩ := zbd H
  refine l_X4_neededBars_4 r0 r1 r2 s3 r4 r5 r6 r7 s8 r9 ks c _ 0 0 e19 ?_
  refine xB.run oX4_neededBars 1 (s := (64, [some (.ref 3072), some (.int (zI c)), some (.int (zI y18.1)), some (.int (zI y18.2))], [.int (zI y18.1)], [r0, r1, r2, zH s3 zL3 0, r4, r5, r6, r7, zH s8 (zLb ks) 0, r9])) rfl ?_
  obtain rfl := Option.some.inj H
  exact xB.ret oX4_neededBars (r1 := some (.int (zI y18.1))) rfl rfl rfl
def d_X4_shortenMove_8 (s3 : zZ) (ways : Int) : Nat → Int → Int → Int → Option (Int × Int × Int)
  | 0, _, _, _ => none
  | uN + 1, dv, first, k => if (zr k ∧ zr ways) then (if ways ≤ k then some (dv, first, k) else (if (0 ≤ k ∧ k < 8) then ((d_X11_commonDivisor dv (s3 43 k.toNat)).bind fun y2 => if (zrl first) then (if first ≠ 0 then (d_X4_shortenMove_8 s3 ways uN y2 first (k + 1)) else (if (0 ≤ k ∧ k < 8) then (d_X4_shortenMove_8 s3 ways uN y2 (s3 43 k.toNat) (k + 1)) else none)) else none) else none)) else none
def d_X4_shortenMove_66 (ways : Int) (dv : Int) (first : Int) : Nat → Int → zZ → Option (Int × zZ)
  | 0, _, _ => none
  | uN + 1, k, s3 => if (zr k ∧ zr ways) then (if ways ≤ k then some (k, s3) else (if (zrl dv) then (if dv = 0 then some (k, s3) else (if (0 ≤ k ∧ k < 8) then (if (zrl (s3 43 k.toNat) ∧ dv ≠ 0 ∧ zrl dv) then (if (0 ≤ k ∧ k < 8) then (d_X4_shortenMove_66 ways dv first uN (k + 1) (upz s3 43 k.toNat ((s3 43 k.toNat).tdiv dv))) else none) else none) else none)) else none)) else none
def d_X4_shortenMove (s3 : zZ) (ways : Int) : Option (zZ) := (d_X4_shortenMove_8 s3 ways zF 0 0 0).bind fun y9 => if (zrl y9.2.1) then (if (0 : Int) ≤ y9.2.1 then ((d_X4_shortenMove_66 ways y9.1 y9.2.1 zF 0 s3).bind fun y19 => some y19.2) else ((d_X4_shortenMove_66 ways (-y9.1) y9.2.1 zF 0 s3).bind fun y21 => some y21.2)) else none
set_option maxRecDepth 20000 in
theorem l_X4_shortenMove_8 (r0 : List va_E) (r1 : List va_E) (r2 : List va_E) (s3 : zZ) (r4 : List va_E) (r5 : List va_E) (r6 : List va_E) (r7 : List va_E) (r8 : List va_E) (r9 : List va_E) (ways : Int) {r : Option Value} {hp1 : xH} : ∀ (uN : Nat) (dv : Int) (first : Int) (k : Int) {uX : Int × Int × Int}, d_X4_shortenMove_8 s3 ways uN dv first k = some uX → (xBody MX4_shortenMove 2 53 [some (.ref 3072), some (.int (zI ways)), some (.long (zJ uX.1)), none, some (.long (zJ uX.2.1)), none, some (.int (zI uX.2.2))] [] ([r0, r1, r2, zH s3 zL3 0, r4, r5, r6, r7, r8, r9]) r hp1) → xBody MX4_shortenMove 2 8 [some (.ref 3072), some (.int (zI ways)), some (.long (zJ dv)), none, some (.long (zJ first)), none, some (.int (zI k))] [] ([r0, r1, r2, zH s3 zL3 0, r4, r5, r6, r7, r8, r9]) r hp1 := by
  intro uN
  induction uN with
  | zero => intro dv first k uX H K; cases H
  | succ uN ih =>
    intro dv first k uX H K
    unfold d_X4_shortenMove_8 at H
    refine xB.run oX4_shortenMove 2 (s := (11, [some (.ref 3072), some (.int (zI ways)), some (.long (zJ dv)), none, some (.long (zJ first)), none, some (.int (zI k))], [.int (zI ways), .int (zI k)], [r0, r1, r2, zH s3 zL3 0, r4, r5, r6, r7, r8, r9])) rfl ?_
    obtain ⟨g8, H⟩ := zgd H
    have H := zif H
    refine xB.brE oX4_shortenMove (P := ways ≤ k) rfl (zc_ge (a := k) (b := ways) g8) (fun h1 => ?_) (fun h1 => ?_)
    · have H := H.1 h1
      obtain rfl := Option.some.inj H
      exact K
    · have H := H.2 h1
      refine xB.run oX4_shortenMove 4 (s := (21, [some (.ref 3072), some (.int (zI ways)), some (.long (zJ dv)), none, some (.long (zJ first)), none, some (.int (zI k))], [.int (zI k), .ref 3115, .long (zJ dv)], [r0, r1, r2, zH s3 zL3 0, r4, r5, r6, r7, r8, r9])) rfl ?_
      obtain ⟨g7, H⟩ := zgd H
      refine zB.lald oX4_shortenMove (g := 3) (p := 43) (N := 8) (i := k) rfl rfl (by decide) rfl rfl (by decide) g7 ?_
      obtain ⟨y2, e3, H⟩ := zbd H
      refine xB.call oX4_shortenMove (M2 := MX11_commonDivisor) rfl rfl ((t_X11_commonDivisor r0 r1 r2 (zH s3 zL3 0) r4 r5 r6 r7 r8 r9 dv (s3 43 k.toNat) e3).deep (by decide : 1 ≤ 1)) ?_
      show xBody MX4_shortenMove 2 25 [some (.ref 3072), some (.int (zI ways)), some (.long (zJ dv)), none, some (.long (zJ first)), none, some (.int (zI k))] [.long (zJ y2)] ([r0, r1, r2, zH s3 zL3 0, r4, r5, r6, r7, r8, r9]) _ _
      refine xB.run oX4_shortenMove 4 (s := (30, [some (.ref 3072), some (.int (zI ways)), some (.long (zJ y2)), none, some (.long (zJ first)), none, some (.int (zI k))], [.int (lg_cmp (zJ first) (zJ 0))], [r0, r1, r2, zH s3 zL3 0, r4, r5, r6, r7, r8, r9])) rfl ?_
      obtain ⟨g6, H⟩ := zgd H
      have H := zif H
      refine xB.brE oX4_shortenMove (P := first ≠ 0) rfl (zl_ne (a := first) (b := 0) ⟨g6, by decide⟩) (fun h4 => ?_) (fun h4 => ?_)
      · have H := H.1 h4
        refine xB.run oX4_shortenMove 2 (s := (47, [some (.ref 3072), some (.int (zI ways)), some (.long (zJ y2)), none, some (.long (zJ first)), none, some (.int (zI k))], [], [r0, r1, r2, zH s3 zL3 0, r4, r5, r6, r7, r8, r9])) rfl ?_
        refine zB.inc oX4_shortenMove rfl (lv2 := [some (.ref 3072), some (.int (zI ways)), some (.long (zJ y2)), none, some (.long (zJ first)), none, some (.int (zI (k + 1)))]) (zi_inc (a := 0) (zi_addp1 k) _ rfl) ?_
        refine xB.run oX4_shortenMove 1 (s := (8, [some (.ref 3072), some (.int (zI ways)), some (.long (zJ y2)), none, some (.long (zJ first)), none, some (.int (zI (k + 1)))], [], [r0, r1, r2, zH s3 zL3 0, r4, r5, r6, r7, r8, r9])) rfl ?_
        exact ih y2 first (k + 1) H K
      · have H := H.2 h4
        refine xB.run oX4_shortenMove 3 (s := (39, [some (.ref 3072), some (.int (zI ways)), some (.long (zJ y2)), none, some (.long (zJ first)), none, some (.int (zI k))], [.int (zI k), .ref 3115], [r0, r1, r2, zH s3 zL3 0, r4, r5, r6, r7, r8, r9])) rfl ?_
        obtain ⟨g5, H⟩ := zgd H
        refine zB.lald oX4_shortenMove (g := 3) (p := 43) (N := 8) (i := k) rfl rfl (by decide) rfl rfl (by decide) g5 ?_
        refine xB.run oX4_shortenMove 2 (s := (47, [some (.ref 3072), some (.int (zI ways)), some (.long (zJ y2)), none, some (.long (zJ (s3 43 k.toNat))), none, some (.int (zI k))], [], [r0, r1, r2, zH s3 zL3 0, r4, r5, r6, r7, r8, r9])) rfl ?_
        refine zB.inc oX4_shortenMove rfl (lv2 := [some (.ref 3072), some (.int (zI ways)), some (.long (zJ y2)), none, some (.long (zJ (s3 43 k.toNat))), none, some (.int (zI (k + 1)))]) (zi_inc (a := 0) (zi_addp1 k) _ rfl) ?_
        refine xB.run oX4_shortenMove 1 (s := (8, [some (.ref 3072), some (.int (zI ways)), some (.long (zJ y2)), none, some (.long (zJ (s3 43 k.toNat))), none, some (.int (zI (k + 1)))], [], [r0, r1, r2, zH s3 zL3 0, r4, r5, r6, r7, r8, r9])) rfl ?_
        exact ih y2 (s3 43 k.toNat) (k + 1) H K
set_option maxRecDepth 20000 in
theorem l_X4_shortenMove_66 (r0 : List va_E) (r1 : List va_E) (r2 : List va_E) (r4 : List va_E) (r5 : List va_E) (r6 : List va_E) (r7 : List va_E) (r8 : List va_E) (r9 : List va_E) (ways : Int) (dv : Int) (first : Int) {r : Option Value} {hp1 : xH} : ∀ (uN : Nat) (k : Int) (s3 : zZ) {uX : Int × zZ}, d_X4_shortenMove_66 ways dv first uN k s3 = some uX → (xBody MX4_shortenMove 2 95 [some (.ref 3072), some (.int (zI ways)), some (.long (zJ dv)), none, some (.long (zJ first)), none, some (.int (zI uX.1))] [] ([r0, r1, r2, zH uX.2 zL3 0, r4, r5, r6, r7, r8, r9]) r hp1) → xBody MX4_shortenMove 2 66 [some (.ref 3072), some (.int (zI ways)), some (.long (zJ dv)), none, some (.long (zJ first)), none, some (.int (zI k))] [] ([r0, r1, r2, zH s3 zL3 0, r4, r5, r6, r7, r8, r9]) r hp1 := by
  intro uN
  induction uN with
  | zero => intro k s3 uX H K; cases H
  | succ uN ih =>
    intro k s3 uX H K
    unfold d_X4_shortenMove_66 at H
    refine xB.run oX4_shortenMove 2 (s := (69, [some (.ref 3072), some (.int (zI ways)), some (.long (zJ dv)), none, some (.long (zJ first)), none, some (.int (zI k))], [.int (zI ways), .int (zI k)], [r0, r1, r2, zH s3 zL3 0, r4, r5, r6, r7, r8, r9])) rfl ?_
    obtain ⟨g18, H⟩ := zgd H
    have H := zif H
    refine xB.brE oX4_shortenMove (P := ways ≤ k) rfl (zc_ge (a := k) (b := ways) g18) (fun h12 => ?_) (fun h12 => ?_)
    · have H := H.1 h12
      obtain rfl := Option.some.inj H
      exact K
    · have H := H.2 h12
      refine xB.run oX4_shortenMove 3 (s := (75, [some (.ref 3072), some (.int (zI ways)), some (.long (zJ dv)), none, some (.long (zJ first)), none, some (.int (zI k))], [.int (lg_cmp (zJ dv) (zJ 0))], [r0, r1, r2, zH s3 zL3 0, r4, r5, r6, r7, r8, r9])) rfl ?_
      obtain ⟨g17, H⟩ := zgd H
      have H := zif H
      refine xB.brE oX4_shortenMove (P := dv = 0) rfl (zl_eq (a := dv) (b := 0) ⟨g17, by decide⟩) (fun h13 => ?_) (fun h13 => ?_)
      · have H := H.1 h13
        obtain rfl := Option.some.inj H
        exact K
      · have H := H.2 h13
        refine xB.run oX4_shortenMove 4 (s := (85, [some (.ref 3072), some (.int (zI ways)), some (.long (zJ dv)), none, some (.long (zJ first)), none, some (.int (zI k))], [.int (zI k), .ref 3115, .int (zI k), .ref 3115], [r0, r1, r2, zH s3 zL3 0, r4, r5, r6, r7, r8, r9])) rfl ?_
        obtain ⟨g16, H⟩ := zgd H
        refine zB.lald oX4_shortenMove (g := 3) (p := 43) (N := 8) (i := k) rfl rfl (by decide) rfl rfl (by decide) g16 ?_
        refine xB.run oX4_shortenMove 1 (s := (87, [some (.ref 3072), some (.int (zI ways)), some (.long (zJ dv)), none, some (.long (zJ first)), none, some (.int (zI k))], [.long (zJ dv), .long (zJ (s3 43 k.toNat)), .int (zI k), .ref 3115], [r0, r1, r2, zH s3 zL3 0, r4, r5, r6, r7, r8, r9])) rfl ?_
        obtain ⟨g15, H⟩ := zgd H
        refine zB.divl oX4_shortenMove (b := dv) rfl (zj_div ⟨g15.1, g15.2.2⟩) rfl g15.2 ?_
        obtain ⟨g14, H⟩ := zgd H
        refine zB.last oX4_shortenMove (g := 3) (p := 43) (N := 8) (i := k) (hp1 := [r0, r1, r2, zH (upz s3 43 k.toNat ((s3 43 k.toNat).tdiv dv)) zL3 0, r4, r5, r6, r7, r8, r9]) rfl rfl (by decide) (by decide) rfl rfl (by decide) g14 rfl ?_
        refine zB.inc oX4_shortenMove rfl (lv2 := [some (.ref 3072), some (.int (zI ways)), some (.long (zJ dv)), none, some (.long (zJ first)), none, some (.int (zI (k + 1)))]) (zi_inc (a := 0) (zi_addp1 k) _ rfl) ?_
        refine xB.run oX4_shortenMove 1 (s := (66, [some (.ref 3072), some (.int (zI ways)), some (.long (zJ dv)), none, some (.long (zJ first)), none, some (.int (zI (k + 1)))], [], [r0, r1, r2, zH (upz s3 43 k.toNat ((s3 43 k.toNat).tdiv dv)) zL3 0, r4, r5, r6, r7, r8, r9])) rfl ?_
        exact ih (k + 1) (upz s3 43 k.toNat ((s3 43 k.toNat).tdiv dv)) H K
set_option maxRecDepth 20000 in
theorem t_X4_shortenMove (r0 : List va_E) (r1 : List va_E) (r2 : List va_E) (s3 : zZ) (r4 : List va_E) (r5 : List va_E) (r6 : List va_E) (r7 : List va_E) (r8 : List va_E) (r9 : List va_E) (ways : Int) {rr : zZ} (H : d_X4_shortenMove s3 ways = some rr) : xC MX4_shortenMove 2 [.ref 3072, .int (zI ways)] ([r0, r1, r2, zH s3 zL3 0, r4, r5, r6, r7, r8, r9]) (none) ([r0, r1, r2, zH rr zL3 0, r4, r5, r6, r7, r8, r9]) := by
  refine ⟨Nat.le_of_ble_eq_true rfl, ?_⟩
  show xBody MX4_shortenMove 2 0 [some (.ref 3072), some (.int (zI ways)), none, none, none, none, none] [] ([r0, r1, r2, zH s3 zL3 0, r4, r5, r6, r7, r8, r9]) _ _
  unfold d_X4_shortenMove at H
  refine xB.run oX4_shortenMove 6 (s := (8, [some (.ref 3072), some (.int (zI ways)), some (.long (zJ 0)), none, some (.long (zJ 0)), none, some (.int (zI 0))], [], [r0, r1, r2, zH s3 zL3 0, r4, r5, r6, r7, r8, r9])) rfl ?_
  obtain ⟨y9, e10, H⟩ := zbd H
  refine l_X4_shortenMove_8 r0 r1 r2 s3 r4 r5 r6 r7 r8 r9 ways _ 0 0 0 e10 ?_
  refine xB.run oX4_shortenMove 3 (s := (57, [some (.ref 3072), some (.int (zI ways)), some (.long (zJ y9.1)), none, some (.long (zJ y9.2.1)), none, some (.int (zI y9.2.2))], [.int (lg_cmp (zJ y9.2.1) (zJ 0))], [r0, r1, r2, zH s3 zL3 0, r4, r5, r6, r7, r8, r9])) rfl ?_
  obtain ⟨g23, H⟩ := zgd H
  have H := zif H
  refine xB.brE oX4_shortenMove (P := (0 : Int) ≤ y9.2.1) rfl (zl_ge (a := y9.2.1) (b := 0) ⟨g23, by decide⟩) (fun h11 => ?_) (fun h11 => ?_)
  · have H := H.1 h11
    refine xB.run oX4_shortenMove 2 (s := (66, [some (.ref 3072), some (.int (zI ways)), some (.long (zJ y9.1)), none, some (.long (zJ y9.2.1)), none, some (.int (zI 0))], [], [r0, r1, r2, zH s3 zL3 0, r4, r5, r6, r7, r8, r9])) rfl ?_
    obtain ⟨y19, e20, H⟩ := zbd H
    refine l_X4_shortenMove_66 r0 r1 r2 r4 r5 r6 r7 r8 r9 ways y9.1 y9.2.1 _ 0 s3 e20 ?_
    obtain rfl := Option.some.inj H
    exact xB.ret oX4_shortenMove (r1 := none) rfl rfl rfl
  · have H := H.2 h11
    refine xB.run oX4_shortenMove 1 (s := (61, [some (.ref 3072), some (.int (zI ways)), some (.long (zJ y9.1)), none, some (.long (zJ y9.2.1)), none, some (.int (zI y9.2.2))], [.long (zJ y9.1)], [r0, r1, r2, zH s3 zL3 0, r4, r5, r6, r7, r8, r9])) rfl ?_
    refine zB.opl oX4_shortenMove rfl (zj_neg y9.1) ?_
    refine xB.run oX4_shortenMove 3 (s := (66, [some (.ref 3072), some (.int (zI ways)), some (.long (zJ (-y9.1))), none, some (.long (zJ y9.2.1)), none, some (.int (zI 0))], [], [r0, r1, r2, zH s3 zL3 0, r4, r5, r6, r7, r8, r9])) rfl ?_
    obtain ⟨y21, e22, H⟩ := zbd H
    refine l_X4_shortenMove_66 r0 r1 r2 r4 r5 r6 r7 r8 r9 ways (-y9.1) y9.2.1 _ 0 s3 e22 ?_
    obtain rfl := Option.some.inj H
    exact xB.ret oX4_shortenMove (r1 := none) rfl rfl rfl
def d_X4_findMove_31 (s8 : zZ) (ks : List Int) (ways : Int) (b : Int) : Nat → Int → zZ → Option (Int × zZ)
  | 0, _, _ => none
  | uN + 1, way, s3 => if (zr way) then (if (2 : Int) ≤ way then some (way, s3) else (if ((0 ≤ b ∧ b < 16) ∧ b < s3 5 0) then ((d_X4_differenceOf s3 s8 ks way b).bind fun y5 => if ((0 ≤ b ∧ b < 16) ∧ b < s3 5 0) then (if (b.toNat < ks.length ∧ b.toNat < 1024) then (if ((0 ≤ b ∧ b < 16) ∧ b < s3 5 0) then (if (b.toNat < ks.length ∧ b.toNat < 1024) then ((d_X4_rowOf s3 (s8 b.toNat 1) way).bind fun y7 => if zr (-y5) then ((d_X9g_add s3 (s8 b.toNat 5) y7 (-y5)).bind fun y9 => if ((0 ≤ b ∧ b < 16) ∧ b < y9 5 0) then (if (b.toNat < ks.length ∧ b.toNat < 1024) then (if ((0 ≤ b ∧ b < 16) ∧ b < y9 5 0) then (if (b.toNat < ks.length ∧ b.toNat < 1024) then ((d_X4_rowOf y9 (s8 b.toNat 2) way).bind fun y11 => if zr y5 then ((d_X9g_add y9 (s8 b.toNat 5) y11 y5).bind fun y13 => d_X4_findMove_31 s8 ks ways b uN (way + 1) y13) else none) else none) else none) else none) else none) else none) else none) else none) else none) else none) else none)) else none
def d_X4_findMove_21 (s8 : zZ) (ks : List Int) (ways : Int) : Nat → Int → zZ → Option (Int × zZ)
  | 0, _, _ => none
  | uN + 1, b, s3 => if (zr b ∧ zr (s3 0 7)) then (if (s3 0 7) ≤ b then some (b, s3) else ((d_X4_findMove_31 s8 ks ways b zF 0 s3).bind fun y27 => d_X4_findMove_21 s8 ks ways uN (b + 1) y27.2)) else none
def d_X4_findMove_140 (s3 : zZ) (s8 : zZ) (ks : List Int) (ways : Int) : Nat → Int → Option (Int)
  | 0, _ => none
  | uN + 1, b => if (zr b) then (if b ≤ 0 then some b else ((d_X9g_leads s3 b).bind fun y35 => if (zr y35) then (if y35 < 0 then some b else (d_X4_findMove_140 s3 s8 ks ways uN (b + (-1)))) else none)) else none
def d_X4_findMove_163 (s8 : zZ) (ks : List Int) (ways : Int) (b : Int) : Nat → Int → zZ → Option (Int × zZ)
  | 0, _, _ => none
  | uN + 1, way, s3 => if (zr way ∧ zr ways) then (if ways ≤ way then some (way, s3) else (if (zr way ∧ zr b) then (if way ≠ b then ((d_X9g_leads s3 way).bind fun y44 => (d_X9g_number s3 y44 b).bind fun y46 => if (0 ≤ way ∧ way < 8) then (d_X4_findMove_163 s8 ks ways b uN (way + 1) (upz s3 43 way.toNat (-y46))) else none) else (if (0 ≤ way ∧ way < 8) then (d_X4_findMove_163 s8 ks ways b uN (way + 1) (upz s3 43 way.toNat (s3 24 7))) else none)) else none)) else none
def d_X4_findMove (s3 : zZ) (s8 : zZ) (ks : List Int) : Option (zZ) := (d_X9g_begin s3 (s3 0 11) (2 * (s3 0 5))).bind fun y1 => (d_X4_findMove_21 s8 ks (2 * (s3 0 5)) zF 0 y1).bind fun y30 => (d_X9g_clearColumns y30.2 (2 * (s3 0 5))).bind fun y32 => (d_X4_findMove_140 y32 s8 ks (2 * (s3 0 5)) zF ((2 * (s3 0 5)) - 1)).bind fun y40 => (d_X4_findMove_163 s8 ks (2 * (s3 0 5)) y40 zF 0 y32).bind fun y52 => (d_X4_shortenMove y52.2 (2 * (s3 0 5))).bind fun y54 => some y54
set_option maxRecDepth 20000 in
theorem l_X4_findMove_31 (r0 : List va_E) (r1 : List va_E) (r2 : List va_E) (r4 : List va_E) (r5 : List va_E) (r6 : List va_E) (r7 : List va_E) (s8 : zZ) (r9 : List va_E) (ks : List Int) (ways : Int) (b : Int) {r : Option Value} {hp1 : xH} : ∀ (uN : Nat) (way : Int) (s3 : zZ) {uX : Int × zZ}, d_X4_findMove_31 s8 ks ways b uN way s3 = some uX → (xBody MX4_findMove 3 122 [some (.ref 3072), some (.int (zI ways)), some (.int (zI b)), some (.int (zI uX.1)), none] [] ([r0, r1, r2, zH uX.2 zL3 0, r4, r5, r6, r7, zH s8 (zLb ks) 0, r9]) r hp1) → xBody MX4_findMove 3 31 [some (.ref 3072), some (.int (zI ways)), some (.int (zI b)), some (.int (zI way)), none] [] ([r0, r1, r2, zH s3 zL3 0, r4, r5, r6, r7, zH s8 (zLb ks) 0, r9]) r hp1 := by
  intro uN
  induction uN with
  | zero => intro way s3 uX H K; cases H
  | succ uN ih =>
    intro way s3 uX H K
    unfold d_X4_findMove_31 at H
    refine xB.run oX4_findMove 2 (s := (33, [some (.ref 3072), some (.int (zI ways)), some (.int (zI b)), some (.int (zI way)), none], [.int (zI 2), .int (zI way)], [r0, r1, r2, zH s3 zL3 0, r4, r5, r6, r7, zH s8 (zLb ks) 0, r9])) rfl ?_
    obtain ⟨g26, H⟩ := zgd H
    have H := zif H
    refine xB.brE oX4_findMove (P := (2 : Int) ≤ way) rfl (zc_ge (a := way) (b := 2) ⟨g26, by decide⟩) (fun h4 => ?_) (fun h4 => ?_)
    · have H := H.1 h4
      obtain rfl := Option.some.inj H
      exact K
    · have H := H.2 h4
      refine xB.run oX4_findMove 4 (s := (42, [some (.ref 3072), some (.int (zI ways)), some (.int (zI b)), some (.int (zI way)), none], [.int (zI b), .ref 3077, .ref 3072], [r0, r1, r2, zH s3 zL3 0, r4, r5, r6, r7, zH s8 (zLb ks) 0, r9])) rfl ?_
      obtain ⟨g25, H⟩ := zgd H
      refine zB.aaldB oX4_findMove (g := 3) (p := 5) (N := 16) rfl rfl (by decide) rfl rfl (by decide) g25 ?_
      refine xB.run oX4_findMove 1 (s := (44, [some (.ref 3072), some (.int (zI ways)), some (.int (zI b)), some (.int (zI way)), none], [.int (zI way), .ref (1024 * 8 + b.toNat), .ref 3072], [r0, r1, r2, zH s3 zL3 0, r4, r5, r6, r7, zH s8 (zLb ks) 0, r9])) rfl ?_
      obtain ⟨y5, e6, H⟩ := zbd H
      refine xB.call oX4_findMove (M2 := MX4_differenceOf) rfl rfl ((t_X4_differenceOf r0 r1 r2 s3 r4 r5 r6 r7 s8 r9 ks way b e6).deep (by decide : 1 ≤ 2)) ?_
      show xBody MX4_findMove 3 47 [some (.ref 3072), some (.int (zI ways)), some (.int (zI b)), some (.int (zI way)), none] [.int (zI y5)] ([r0, r1, r2, zH s3 zL3 0, r4, r5, r6, r7, zH s8 (zLb ks) 0, r9]) _ _
      refine xB.run oX4_findMove 6 (s := (58, [some (.ref 3072), some (.int (zI ways)), some (.int (zI b)), some (.int (zI way)), some (.int (zI y5))], [.int (zI b), .ref 3077, .ref 3096], [r0, r1, r2, zH s3 zL3 0, r4, r5, r6, r7, zH s8 (zLb ks) 0, r9])) rfl ?_
      obtain ⟨g24, H⟩ := zgd H
      refine zB.aaldB oX4_findMove (g := 3) (p := 5) (N := 16) rfl rfl (by decide) rfl rfl (by decide) g24 ?_
      obtain ⟨g23, H⟩ := zgd H
      refine zB.getI oX4_findMove (g := 8) (p := b.toNat) (k := 5) (y := 0) rfl rfl (by omega) rfl (zLb_at _ g23.1) (zks_bar _ 5 5 5 _ rfl rfl rfl) rfl ?_
      refine xB.run oX4_findMove 4 (s := (68, [some (.ref 3072), some (.int (zI ways)), some (.int (zI b)), some (.int (zI way)), some (.int (zI y5))], [.int (zI b), .ref 3077, .ref 3072, .int (zI (s8 b.toNat 5)), .ref 3096], [r0, r1, r2, zH s3 zL3 0, r4, r5, r6, r7, zH s8 (zLb ks) 0, r9])) rfl ?_
      obtain ⟨g22, H⟩ := zgd H
      refine zB.aaldB oX4_findMove (g := 3) (p := 5) (N := 16) rfl rfl (by decide) rfl rfl (by decide) g22 ?_
      obtain ⟨g21, H⟩ := zgd H
      refine zB.getI oX4_findMove (g := 8) (p := b.toNat) (k := 1) (y := 0) rfl rfl (by omega) rfl (zLb_at _ g21.1) (zks_bar _ 1 1 1 _ rfl rfl rfl) rfl ?_
      refine xB.run oX4_findMove 1 (s := (73, [some (.ref 3072), some (.int (zI ways)), some (.int (zI b)), some (.int (zI way)), some (.int (zI y5))], [.int (zI way), .int (zI (s8 b.toNat 1)), .ref 3072, .int (zI (s8 b.toNat 5)), .ref 3096], [r0, r1, r2, zH s3 zL3 0, r4, r5, r6, r7, zH s8 (zLb ks) 0, r9])) rfl ?_
      obtain ⟨y7, e8, H⟩ := zbd H
      refine xB.call oX4_findMove (M2 := MX4_rowOf) rfl rfl ((t_X4_rowOf r0 r1 r2 s3 r4 r5 r6 r7 (zH s8 (zLb ks) 0) r9 (s8 b.toNat 1) way e8).deep (by decide : 2 ≤ 2)) ?_
      show xBody MX4_findMove 3 76 [some (.ref 3072), some (.int (zI ways)), some (.int (zI b)), some (.int (zI way)), some (.int (zI y5))] [.int (zI y7), .int (zI (s8 b.toNat 5)), .ref 3096] ([r0, r1, r2, zH s3 zL3 0, r4, r5, r6, r7, zH s8 (zLb ks) 0, r9]) _ _
      refine xB.run oX4_findMove 1 (s := (78, [some (.ref 3072), some (.int (zI ways)), some (.int (zI b)), some (.int (zI way)), some (.int (zI y5))], [.int (zI y5), .int (zI y7), .int (zI (s8 b.toNat 5)), .ref 3096], [r0, r1, r2, zH s3 zL3 0, r4, r5, r6, r7, zH s8 (zLb ks) 0, r9])) rfl ?_
      refine zB.opi oX4_findMove rfl (zi_neg y5) ?_
      obtain ⟨g20, H⟩ := zgd H
      refine zB.opl oX4_findMove rfl (zi_i2l g20) ?_
      obtain ⟨y9, e10, H⟩ := zbd H
      refine xB.call oX4_findMove (M2 := MX9_add) rfl rfl ((t_X9g_add r0 r1 r2 s3 r4 r5 r6 r7 (zH s8 (zLb ks) 0) r9 (s8 b.toNat 5) y7 (-y5) e10).deep (by decide : 1 ≤ 2)) ?_
      show xBody MX4_findMove 3 83 [some (.ref 3072), some (.int (zI ways)), some (.int (zI b)), some (.int (zI way)), some (.int (zI y5))] [] ([r0, r1, r2, zH y9 zL3 0, r4, r5, r6, r7, zH s8 (zLb ks) 0, r9]) _ _
      refine xB.run oX4_findMove 5 (s := (92, [some (.ref 3072), some (.int (zI ways)), some (.int (zI b)), some (.int (zI way)), some (.int (zI y5))], [.int (zI b), .ref 3077, .ref 3096], [r0, r1, r2, zH y9 zL3 0, r4, r5, r6, r7, zH s8 (zLb ks) 0, r9])) rfl ?_
      obtain ⟨g19, H⟩ := zgd H
      refine zB.aaldB oX4_findMove (g := 3) (p := 5) (N := 16) rfl rfl (by decide) rfl rfl (by decide) g19 ?_
      obtain ⟨g18, H⟩ := zgd H
      refine zB.getI oX4_findMove (g := 8) (p := b.toNat) (k := 5) (y := 0) rfl rfl (by omega) rfl (zLb_at _ g18.1) (zks_bar _ 5 5 5 _ rfl rfl rfl) rfl ?_
      refine xB.run oX4_findMove 4 (s := (102, [some (.ref 3072), some (.int (zI ways)), some (.int (zI b)), some (.int (zI way)), some (.int (zI y5))], [.int (zI b), .ref 3077, .ref 3072, .int (zI (s8 b.toNat 5)), .ref 3096], [r0, r1, r2, zH y9 zL3 0, r4, r5, r6, r7, zH s8 (zLb ks) 0, r9])) rfl ?_
      obtain ⟨g17, H⟩ := zgd H
      refine zB.aaldB oX4_findMove (g := 3) (p := 5) (N := 16) rfl rfl (by decide) rfl rfl (by decide) g17 ?_
      obtain ⟨g16, H⟩ := zgd H
      refine zB.getI oX4_findMove (g := 8) (p := b.toNat) (k := 2) (y := 0) rfl rfl (by omega) rfl (zLb_at _ g16.1) (zks_bar _ 2 2 2 _ rfl rfl rfl) rfl ?_
      refine xB.run oX4_findMove 1 (s := (107, [some (.ref 3072), some (.int (zI ways)), some (.int (zI b)), some (.int (zI way)), some (.int (zI y5))], [.int (zI way), .int (zI (s8 b.toNat 2)), .ref 3072, .int (zI (s8 b.toNat 5)), .ref 3096], [r0, r1, r2, zH y9 zL3 0, r4, r5, r6, r7, zH s8 (zLb ks) 0, r9])) rfl ?_
      obtain ⟨y11, e12, H⟩ := zbd H
      refine xB.call oX4_findMove (M2 := MX4_rowOf) rfl rfl ((t_X4_rowOf r0 r1 r2 y9 r4 r5 r6 r7 (zH s8 (zLb ks) 0) r9 (s8 b.toNat 2) way e12).deep (by decide : 2 ≤ 2)) ?_
      show xBody MX4_findMove 3 110 [some (.ref 3072), some (.int (zI ways)), some (.int (zI b)), some (.int (zI way)), some (.int (zI y5))] [.int (zI y11), .int (zI (s8 b.toNat 5)), .ref 3096] ([r0, r1, r2, zH y9 zL3 0, r4, r5, r6, r7, zH s8 (zLb ks) 0, r9]) _ _
      refine xB.run oX4_findMove 1 (s := (112, [some (.ref 3072), some (.int (zI ways)), some (.int (zI b)), some (.int (zI way)), some (.int (zI y5))], [.int (zI y5), .int (zI y11), .int (zI (s8 b.toNat 5)), .ref 3096], [r0, r1, r2, zH y9 zL3 0, r4, r5, r6, r7, zH s8 (zLb ks) 0, r9])) rfl ?_
      obtain ⟨g15, H⟩ := zgd H
      refine zB.opl oX4_findMove rfl (zi_i2l g15) ?_
      obtain ⟨y13, e14, H⟩ := zbd H
      refine xB.call oX4_findMove (M2 := MX9_add) rfl rfl ((t_X9g_add r0 r1 r2 y9 r4 r5 r6 r7 (zH s8 (zLb ks) 0) r9 (s8 b.toNat 5) y11 y5 e14).deep (by decide : 1 ≤ 2)) ?_
      show xBody MX4_findMove 3 116 [some (.ref 3072), some (.int (zI ways)), some (.int (zI b)), some (.int (zI way)), some (.int (zI y5))] [] ([r0, r1, r2, zH y13 zL3 0, r4, r5, r6, r7, zH s8 (zLb ks) 0, r9]) _ _
      refine zB.inc oX4_findMove rfl (lv2 := [some (.ref 3072), some (.int (zI ways)), some (.int (zI b)), some (.int (zI (way + 1))), some (.int (zI y5))]) (zi_inc (a := 0) (zi_addp1 way) _ rfl) ?_
      refine xB.run oX4_findMove 1 (s := (31, [some (.ref 3072), some (.int (zI ways)), some (.int (zI b)), some (.int (zI (way + 1))), some (.int (zI y5))], [], [r0, r1, r2, zH y13 zL3 0, r4, r5, r6, r7, zH s8 (zLb ks) 0, r9])) rfl ?_
      refine xB.forget (lv1 := [some (.ref 3072), some (.int (zI ways)), some (.int (zI b)), some (.int (zI (way + 1))), none]) (xle_same (xle_same (xle_same (xle_same (xle_none (xle_nil)))))) ?_
      exact ih (way + 1) y13 H K
set_option maxRecDepth 20000 in
theorem l_X4_findMove_21 (r0 : List va_E) (r1 : List va_E) (r2 : List va_E) (r4 : List va_E) (r5 : List va_E) (r6 : List va_E) (r7 : List va_E) (s8 : zZ) (r9 : List va_E) (ks : List Int) (ways : Int) {r : Option Value} {hp1 : xH} : ∀ (uN : Nat) (b : Int) (s3 : zZ) {uX : Int × zZ}, d_X4_findMove_21 s8 ks ways uN b s3 = some uX → (xBody MX4_findMove 3 128 [some (.ref 3072), some (.int (zI ways)), some (.int (zI uX.1)), none, none] [] ([r0, r1, r2, zH uX.2 zL3 0, r4, r5, r6, r7, zH s8 (zLb ks) 0, r9]) r hp1) → xBody MX4_findMove 3 21 [some (.ref 3072), some (.int (zI ways)), some (.int (zI b)), none, none] [] ([r0, r1, r2, zH s3 zL3 0, r4, r5, r6, r7, zH s8 (zLb ks) 0, r9]) r hp1 := by
  intro uN
  induction uN with
  | zero => intro b s3 uX H K; cases H
  | succ uN ih =>
    intro b s3 uX H K
    unfold d_X4_findMove_21 at H
    refine xB.run oX4_findMove 3 (s := (26, [some (.ref 3072), some (.int (zI ways)), some (.int (zI b)), none, none], [.int (zI (s3 0 7)), .int (zI b)], [r0, r1, r2, zH s3 zL3 0, r4, r5, r6, r7, zH s8 (zLb ks) 0, r9])) rfl ?_
    obtain ⟨g29, H⟩ := zgd H
    have H := zif H
    refine xB.brE oX4_findMove (P := (s3 0 7) ≤ b) rfl (zc_ge (a := b) (b := s3 0 7) g29) (fun h3 => ?_) (fun h3 => ?_)
    · have H := H.1 h3
      obtain rfl := Option.some.inj H
      exact K
    · have H := H.2 h3
      refine xB.run oX4_findMove 2 (s := (31, [some (.ref 3072), some (.int (zI ways)), some (.int (zI b)), some (.int (zI 0)), none], [], [r0, r1, r2, zH s3 zL3 0, r4, r5, r6, r7, zH s8 (zLb ks) 0, r9])) rfl ?_
      obtain ⟨y27, e28, H⟩ := zbd H
      refine l_X4_findMove_31 r0 r1 r2 r4 r5 r6 r7 s8 r9 ks ways b _ 0 s3 e28 ?_
      refine zB.inc oX4_findMove rfl (lv2 := [some (.ref 3072), some (.int (zI ways)), some (.int (zI (b + 1))), some (.int (zI y27.1)), none]) (zi_inc (a := 0) (zi_addp1 b) _ rfl) ?_
      refine xB.run oX4_findMove 1 (s := (21, [some (.ref 3072), some (.int (zI ways)), some (.int (zI (b + 1))), some (.int (zI y27.1)), none], [], [r0, r1, r2, zH y27.2 zL3 0, r4, r5, r6, r7, zH s8 (zLb ks) 0, r9])) rfl ?_
      refine xB.forget (lv1 := [some (.ref 3072), some (.int (zI ways)), some (.int (zI (b + 1))), none, none]) (xle_same (xle_same (xle_same (xle_none (xle_same (xle_nil)))))) ?_
      exact ih (b + 1) y27.2 H K
set_option maxRecDepth 20000 in
theorem l_X4_findMove_140 (r0 : List va_E) (r1 : List va_E) (r2 : List va_E) (s3 : zZ) (r4 : List va_E) (r5 : List va_E) (r6 : List va_E) (r7 : List va_E) (s8 : zZ) (r9 : List va_E) (ks : List Int) (ways : Int) {r : Option Value} {hp1 : xH} : ∀ (uN : Nat) (b : Int) {uX : Int}, d_X4_findMove_140 s3 s8 ks ways uN b = some uX → (xBody MX4_findMove 3 161 [some (.ref 3072), some (.int (zI ways)), some (.int (zI uX)), none, none] [] ([r0, r1, r2, zH s3 zL3 0, r4, r5, r6, r7, zH s8 (zLb ks) 0, r9]) r hp1) → xBody MX4_findMove 3 140 [some (.ref 3072), some (.int (zI ways)), some (.int (zI b)), none, none] [] ([r0, r1, r2, zH s3 zL3 0, r4, r5, r6, r7, zH s8 (zLb ks) 0, r9]) r hp1 := by
  intro uN
  induction uN with
  | zero => intro b uX H K; cases H
  | succ uN ih =>
    intro b uX H K
    unfold d_X4_findMove_140 at H
    refine xB.run oX4_findMove 1 (s := (141, [some (.ref 3072), some (.int (zI ways)), some (.int (zI b)), none, none], [.int (zI b)], [r0, r1, r2, zH s3 zL3 0, r4, r5, r6, r7, zH s8 (zLb ks) 0, r9])) rfl ?_
    obtain ⟨g39, H⟩ := zgd H
    have H := zif H
    refine xB.brE oX4_findMove (P := b ≤ 0) rfl (zc_le (a := b) (b := 0) ⟨g39, by decide⟩) (fun h34 => ?_) (fun h34 => ?_)
    · have H := H.1 h34
      obtain rfl := Option.some.inj H
      exact K
    · have H := H.2 h34
      refine xB.run oX4_findMove 3 (s := (149, [some (.ref 3072), some (.int (zI ways)), some (.int (zI b)), none, none], [.int (zI b), .ref 3096], [r0, r1, r2, zH s3 zL3 0, r4, r5, r6, r7, zH s8 (zLb ks) 0, r9])) rfl ?_
      obtain ⟨y35, e36, H⟩ := zbd H
      refine xB.call oX4_findMove (M2 := MX9_leads) rfl rfl ((t_X9g_leads r0 r1 r2 s3 r4 r5 r6 r7 (zH s8 (zLb ks) 0) r9 b e36).deep (by decide : 0 ≤ 2)) ?_
      show xBody MX4_findMove 3 152 [some (.ref 3072), some (.int (zI ways)), some (.int (zI b)), none, none] [.int (zI y35)] ([r0, r1, r2, zH s3 zL3 0, r4, r5, r6, r7, zH s8 (zLb ks) 0, r9]) _ _
      obtain ⟨g38, H⟩ := zgd H
      have H := zif H
      refine xB.brE oX4_findMove (P := y35 < 0) rfl (zc_lt (a := y35) (b := 0) ⟨g38, by decide⟩) (fun h37 => ?_) (fun h37 => ?_)
      · have H := H.1 h37
        obtain rfl := Option.some.inj H
        exact K
      · have H := H.2 h37
        refine zB.inc oX4_findMove rfl (lv2 := [some (.ref 3072), some (.int (zI ways)), some (.int (zI (b + (-1)))), none, none]) (zi_inc (a := 0) (zi_addm1 b) _ rfl) ?_
        refine xB.run oX4_findMove 1 (s := (140, [some (.ref 3072), some (.int (zI ways)), some (.int (zI (b + (-1)))), none, none], [], [r0, r1, r2, zH s3 zL3 0, r4, r5, r6, r7, zH s8 (zLb ks) 0, r9])) rfl ?_
        exact ih (b + (-1)) H K
set_option maxRecDepth 20000 in
theorem l_X4_findMove_163 (r0 : List va_E) (r1 : List va_E) (r2 : List va_E) (r4 : List va_E) (r5 : List va_E) (r6 : List va_E) (r7 : List va_E) (s8 : zZ) (r9 : List va_E) (ks : List Int) (ways : Int) (b : Int) {r : Option Value} {hp1 : xH} : ∀ (uN : Nat) (way : Int) (s3 : zZ) {uX : Int × zZ}, d_X4_findMove_163 s8 ks ways b uN way s3 = some uX → (xBody MX4_findMove 3 212 [some (.ref 3072), some (.int (zI ways)), some (.int (zI b)), some (.int (zI uX.1)), none] [] ([r0, r1, r2, zH uX.2 zL3 0, r4, r5, r6, r7, zH s8 (zLb ks) 0, r9]) r hp1) → xBody MX4_findMove 3 163 [some (.ref 3072), some (.int (zI ways)), some (.int (zI b)), some (.int (zI way)), none] [] ([r0, r1, r2, zH s3 zL3 0, r4, r5, r6, r7, zH s8 (zLb ks) 0, r9]) r hp1 := by
  intro uN
  induction uN with
  | zero => intro way s3 uX H K; cases H
  | succ uN ih =>
    intro way s3 uX H K
    unfold d_X4_findMove_163 at H
    refine xB.run oX4_findMove 2 (s := (165, [some (.ref 3072), some (.int (zI ways)), some (.int (zI b)), some (.int (zI way)), none], [.int (zI ways), .int (zI way)], [r0, r1, r2, zH s3 zL3 0, r4, r5, r6, r7, zH s8 (zLb ks) 0, r9])) rfl ?_
    obtain ⟨g51, H⟩ := zgd H
    have H := zif H
    refine xB.brE oX4_findMove (P := ways ≤ way) rfl (zc_ge (a := way) (b := ways) g51) (fun h42 => ?_) (fun h42 => ?_)
    · have H := H.1 h42
      obtain rfl := Option.some.inj H
      exact K
    · have H := H.2 h42
      refine xB.run oX4_findMove 5 (s := (175, [some (.ref 3072), some (.int (zI ways)), some (.int (zI b)), some (.int (zI way)), none], [.int (zI b), .int (zI way), .int (zI way), .ref 3115], [r0, r1, r2, zH s3 zL3 0, r4, r5, r6, r7, zH s8 (zLb ks) 0, r9])) rfl ?_
      obtain ⟨g50, H⟩ := zgd H
      have H := zif H
      refine xB.brE oX4_findMove (P := way ≠ b) rfl (zc_ne (a := way) (b := b) g50) (fun h43 => ?_) (fun h43 => ?_)
      · have H := H.1 h43
        refine xB.run oX4_findMove 5 (s := (197, [some (.ref 3072), some (.int (zI ways)), some (.int (zI b)), some (.int (zI way)), none], [.int (zI way), .ref 3096, .ref 3096, .int (zI way), .ref 3115], [r0, r1, r2, zH s3 zL3 0, r4, r5, r6, r7, zH s8 (zLb ks) 0, r9])) rfl ?_
        obtain ⟨y44, e45, H⟩ := zbd H
        refine xB.call oX4_findMove (M2 := MX9_leads) rfl rfl ((t_X9g_leads r0 r1 r2 s3 r4 r5 r6 r7 (zH s8 (zLb ks) 0) r9 way e45).deep (by decide : 0 ≤ 2)) ?_
        show xBody MX4_findMove 3 200 [some (.ref 3072), some (.int (zI ways)), some (.int (zI b)), some (.int (zI way)), none] [.int (zI y44), .ref 3096, .int (zI way), .ref 3115] ([r0, r1, r2, zH s3 zL3 0, r4, r5, r6, r7, zH s8 (zLb ks) 0, r9]) _ _
        refine xB.run oX4_findMove 1 (s := (201, [some (.ref 3072), some (.int (zI ways)), some (.int (zI b)), some (.int (zI way)), none], [.int (zI b), .int (zI y44), .ref 3096, .int (zI way), .ref 3115], [r0, r1, r2, zH s3 zL3 0, r4, r5, r6, r7, zH s8 (zLb ks) 0, r9])) rfl ?_
        obtain ⟨y46, e47, H⟩ := zbd H
        refine xB.call oX4_findMove (M2 := MX9_number) rfl rfl ((t_X9g_number r0 r1 r2 s3 r4 r5 r6 r7 (zH s8 (zLb ks) 0) r9 y44 b e47).deep (by decide : 1 ≤ 2)) ?_
        show xBody MX4_findMove 3 204 [some (.ref 3072), some (.int (zI ways)), some (.int (zI b)), some (.int (zI way)), none] [.long (zJ y46), .int (zI way), .ref 3115] ([r0, r1, r2, zH s3 zL3 0, r4, r5, r6, r7, zH s8 (zLb ks) 0, r9]) _ _
        refine zB.opl oX4_findMove rfl (zj_neg y46) ?_
        obtain ⟨g48, H⟩ := zgd H
        refine zB.last oX4_findMove (g := 3) (p := 43) (N := 8) (i := way) (hp1 := [r0, r1, r2, zH (upz s3 43 way.toNat (-y46)) zL3 0, r4, r5, r6, r7, zH s8 (zLb ks) 0, r9]) rfl rfl (by decide) (by decide) rfl rfl (by decide) g48 rfl ?_
        refine zB.inc oX4_findMove rfl (lv2 := [some (.ref 3072), some (.int (zI ways)), some (.int (zI b)), some (.int (zI (way + 1))), none]) (zi_inc (a := 0) (zi_addp1 way) _ rfl) ?_
        refine xB.run oX4_findMove 1 (s := (163, [some (.ref 3072), some (.int (zI ways)), some (.int (zI b)), some (.int (zI (way + 1))), none], [], [r0, r1, r2, zH (upz s3 43 way.toNat (-y46)) zL3 0, r4, r5, r6, r7, zH s8 (zLb ks) 0, r9])) rfl ?_
        exact ih (way + 1) (upz s3 43 way.toNat (-y46)) H K
      · have H := H.2 h43
        refine xB.run oX4_findMove 4 (s := (205, [some (.ref 3072), some (.int (zI ways)), some (.int (zI b)), some (.int (zI way)), none], [.long (zJ (s3 24 7)), .int (zI way), .ref 3115], [r0, r1, r2, zH s3 zL3 0, r4, r5, r6, r7, zH s8 (zLb ks) 0, r9])) rfl ?_
        obtain ⟨g49, H⟩ := zgd H
        refine zB.last oX4_findMove (g := 3) (p := 43) (N := 8) (i := way) (hp1 := [r0, r1, r2, zH (upz s3 43 way.toNat (s3 24 7)) zL3 0, r4, r5, r6, r7, zH s8 (zLb ks) 0, r9]) rfl rfl (by decide) (by decide) rfl rfl (by decide) g49 rfl ?_
        refine zB.inc oX4_findMove rfl (lv2 := [some (.ref 3072), some (.int (zI ways)), some (.int (zI b)), some (.int (zI (way + 1))), none]) (zi_inc (a := 0) (zi_addp1 way) _ rfl) ?_
        refine xB.run oX4_findMove 1 (s := (163, [some (.ref 3072), some (.int (zI ways)), some (.int (zI b)), some (.int (zI (way + 1))), none], [], [r0, r1, r2, zH (upz s3 43 way.toNat (s3 24 7)) zL3 0, r4, r5, r6, r7, zH s8 (zLb ks) 0, r9])) rfl ?_
        exact ih (way + 1) (upz s3 43 way.toNat (s3 24 7)) H K
set_option maxRecDepth 20000 in
theorem t_X4_findMove (r0 : List va_E) (r1 : List va_E) (r2 : List va_E) (s3 : zZ) (r4 : List va_E) (r5 : List va_E) (r6 : List va_E) (r7 : List va_E) (s8 : zZ) (r9 : List va_E) (ks : List Int) {rr : zZ} (H : d_X4_findMove s3 s8 ks = some rr) : xC MX4_findMove 3 [.ref 3072] ([r0, r1, r2, zH s3 zL3 0, r4, r5, r6, r7, zH s8 (zLb ks) 0, r9]) (none) ([r0, r1, r2, zH rr zL3 0, r4, r5, r6, r7, zH s8 (zLb ks) 0, r9]) := by
  refine ⟨Nat.le_of_ble_eq_true rfl, ?_⟩
  show xBody MX4_findMove 3 0 [some (.ref 3072), none, none, none, none] [] ([r0, r1, r2, zH s3 zL3 0, r4, r5, r6, r7, zH s8 (zLb ks) 0, r9]) _ _
  unfold d_X4_findMove at H
  refine xB.run oX4_findMove 3 (s := (5, [some (.ref 3072), none, none, none, none], [.int (zI (s3 0 5)), .int (zI 2)], [r0, r1, r2, zH s3 zL3 0, r4, r5, r6, r7, zH s8 (zLb ks) 0, r9])) rfl ?_
  refine zB.opi oX4_findMove rfl (zi_mul 2 (s3 0 5)) ?_
  refine xB.run oX4_findMove 6 (s := (16, [some (.ref 3072), some (.int (zI (2 * (s3 0 5)))), none, none, none], [.int (zI (2 * (s3 0 5))), .int (zI (s3 0 11)), .ref 3096], [r0, r1, r2, zH s3 zL3 0, r4, r5, r6, r7, zH s8 (zLb ks) 0, r9])) rfl ?_
  obtain ⟨y1, e2, H⟩ := zbd H
  refine xB.call oX4_findMove (M2 := MX9_begin) rfl rfl ((t_X9g_begin r0 r1 r2 s3 r4 r5 r6 r7 (zH s8 (zLb ks) 0) r9 (s3 0 11) (2 * (s3 0 5)) e2).deep (by decide : 1 ≤ 2)) ?_
  show xBody MX4_findMove 3 19 [some (.ref 3072), some (.int (zI (2 * (s3 0 5)))), none, none, none] [] ([r0, r1, r2, zH y1 zL3 0, r4, r5, r6, r7, zH s8 (zLb ks) 0, r9]) _ _
  refine xB.run oX4_findMove 2 (s := (21, [some (.ref 3072), some (.int (zI (2 * (s3 0 5)))), some (.int (zI 0)), none, none], [], [r0, r1, r2, zH y1 zL3 0, r4, r5, r6, r7, zH s8 (zLb ks) 0, r9])) rfl ?_
  obtain ⟨y30, e31, H⟩ := zbd H
  refine l_X4_findMove_21 r0 r1 r2 r4 r5 r6 r7 s8 r9 ks (2 * (s3 0 5)) _ 0 y1 e31 ?_
  refine xB.run oX4_findMove 3 (s := (133, [some (.ref 3072), some (.int (zI (2 * (s3 0 5)))), some (.int (zI y30.1)), none, none], [.int (zI (2 * (s3 0 5))), .ref 3096], [r0, r1, r2, zH y30.2 zL3 0, r4, r5, r6, r7, zH s8 (zLb ks) 0, r9])) rfl ?_
  obtain ⟨y32, e33, H⟩ := zbd H
  refine xB.call oX4_findMove (M2 := MX9_clearColumns) rfl rfl ((t_X9g_clearColumns r0 r1 r2 y30.2 r4 r5 r6 r7 (zH s8 (zLb ks) 0) r9 (2 * (s3 0 5)) e33).deep (by decide : 1 ≤ 2)) ?_
  show xBody MX4_findMove 3 136 [some (.ref 3072), some (.int (zI (2 * (s3 0 5)))), some (.int (zI y30.1)), none, none] [] ([r0, r1, r2, zH y32 zL3 0, r4, r5, r6, r7, zH s8 (zLb ks) 0, r9]) _ _
  refine xB.run oX4_findMove 2 (s := (138, [some (.ref 3072), some (.int (zI (2 * (s3 0 5)))), some (.int (zI y30.1)), none, none], [.int (zI 1), .int (zI (2 * (s3 0 5)))], [r0, r1, r2, zH y32 zL3 0, r4, r5, r6, r7, zH s8 (zLb ks) 0, r9])) rfl ?_
  refine zB.opi oX4_findMove rfl (zi_sub (2 * (s3 0 5)) 1) ?_
  refine xB.run oX4_findMove 1 (s := (140, [some (.ref 3072), some (.int (zI (2 * (s3 0 5)))), some (.int (zI ((2 * (s3 0 5)) - 1))), none, none], [], [r0, r1, r2, zH y32 zL3 0, r4, r5, r6, r7, zH s8 (zLb ks) 0, r9])) rfl ?_
  obtain ⟨y40, e41, H⟩ := zbd H
  refine l_X4_findMove_140 r0 r1 r2 y32 r4 r5 r6 r7 s8 r9 ks (2 * (s3 0 5)) _ ((2 * (s3 0 5)) - 1) e41 ?_
  refine xB.run oX4_findMove 2 (s := (163, [some (.ref 3072), some (.int (zI (2 * (s3 0 5)))), some (.int (zI y40)), some (.int (zI 0)), none], [], [r0, r1, r2, zH y32 zL3 0, r4, r5, r6, r7, zH s8 (zLb ks) 0, r9])) rfl ?_
  obtain ⟨y52, e53, H⟩ := zbd H
  refine l_X4_findMove_163 r0 r1 r2 r4 r5 r6 r7 s8 r9 ks (2 * (s3 0 5)) y40 _ 0 y32 e53 ?_
  refine xB.run oX4_findMove 2 (s := (214, [some (.ref 3072), some (.int (zI (2 * (s3 0 5)))), some (.int (zI y40)), some (.int (zI y52.1)), none], [.int (zI (2 * (s3 0 5))), .ref 3072], [r0, r1, r2, zH y52.2 zL3 0, r4, r5, r6, r7, zH s8 (zLb ks) 0, r9])) rfl ?_
  obtain ⟨y54, e55, H⟩ := zbd H
  refine xB.call oX4_findMove (M2 := MX4_shortenMove) rfl rfl ((t_X4_shortenMove r0 r1 r2 y52.2 r4 r5 r6 r7 (zH s8 (zLb ks) 0) r9 (2 * (s3 0 5)) e55).deep (by decide : 2 ≤ 2)) ?_
  show xBody MX4_findMove 3 217 [some (.ref 3072), some (.int (zI (2 * (s3 0 5)))), some (.int (zI y40)), some (.int (zI y52.1)), none] [] ([r0, r1, r2, zH y54 zL3 0, r4, r5, r6, r7, zH s8 (zLb ks) 0, r9]) _ _
  obtain rfl := Option.some.inj H
  exact xB.ret oX4_findMove (r1 := none) rfl rfl rfl
def d_X4_moveOf (s3 : zZ) (s8 : zZ) (ks : List Int) (jt : Int) (way : Int) : Option (Int × zZ) := (d_X4_findMove s3 s8 ks).bind fun y1 => (d_X4_rowOf y1 jt way).bind fun y3 => if (zr y3) then (if y3 < 0 then some ((-9223372036854775808), y1) else (if (zr y3) then (if (8 : Int) ≤ y3 then some ((-9223372036854775808), y1) else (if (0 ≤ y3 ∧ y3 < 8) then some (y1 43 y3.toNat, y1) else none)) else none)) else none
set_option maxRecDepth 20000 in
theorem t_X4_moveOf (r0 : List va_E) (r1 : List va_E) (r2 : List va_E) (s3 : zZ) (r4 : List va_E) (r5 : List va_E) (r6 : List va_E) (r7 : List va_E) (s8 : zZ) (r9 : List va_E) (ks : List Int) (jt : Int) (way : Int) {rr : Int × zZ} (H : d_X4_moveOf s3 s8 ks jt way = some rr) : xC MX4_moveOf 4 [.ref 3072, .int (zI jt), .int (zI way)] ([r0, r1, r2, zH s3 zL3 0, r4, r5, r6, r7, zH s8 (zLb ks) 0, r9]) (some (.long (zJ rr.1))) ([r0, r1, r2, zH rr.2 zL3 0, r4, r5, r6, r7, zH s8 (zLb ks) 0, r9]) := by
  refine ⟨Nat.le_of_ble_eq_true rfl, ?_⟩
  show xBody MX4_moveOf 4 0 [some (.ref 3072), some (.int (zI jt)), some (.int (zI way)), none] [] ([r0, r1, r2, zH s3 zL3 0, r4, r5, r6, r7, zH s8 (zLb ks) 0, r9]) _ _
  unfold d_X4_moveOf at H
  refine xB.run oX4_moveOf 1 (s := (1, [some (.ref 3072), some (.int (zI jt)), some (.int (zI way)), none], [.ref 3072], [r0, r1, r2, zH s3 zL3 0, r4, r5, r6, r7, zH s8 (zLb ks) 0, r9])) rfl ?_
  obtain ⟨y1, e2, H⟩ := zbd H
  refine xB.call oX4_moveOf (M2 := MX4_findMove) rfl rfl ((t_X4_findMove r0 r1 r2 s3 r4 r5 r6 r7 s8 r9 ks  e2).deep (by decide : 3 ≤ 3)) ?_
  show xBody MX4_moveOf 4 4 [some (.ref 3072), some (.int (zI jt)), some (.int (zI way)), none] [] ([r0, r1, r2, zH y1 zL3 0, r4, r5, r6, r7, zH s8 (zLb ks) 0, r9]) _ _
  refine xB.run oX4_moveOf 3 (s := (7, [some (.ref 3072), some (.int (zI jt)), some (.int (zI way)), none], [.int (zI way), .int (zI jt), .ref 3072], [r0, r1, r2, zH y1 zL3 0, r4, r5, r6, r7, zH s8 (zLb ks) 0, r9])) rfl ?_
  obtain ⟨y3, e4, H⟩ := zbd H
  refine xB.call oX4_moveOf (M2 := MX4_rowOf) rfl rfl ((t_X4_rowOf r0 r1 r2 y1 r4 r5 r6 r7 (zH s8 (zLb ks) 0) r9 jt way e4).deep (by decide : 2 ≤ 3)) ?_
  show xBody MX4_moveOf 4 10 [some (.ref 3072), some (.int (zI jt)), some (.int (zI way)), none] [.int (zI y3)] ([r0, r1, r2, zH y1 zL3 0, r4, r5, r6, r7, zH s8 (zLb ks) 0, r9]) _ _
  refine xB.run oX4_moveOf 2 (s := (12, [some (.ref 3072), some (.int (zI jt)), some (.int (zI way)), some (.int (zI y3))], [.int (zI y3)], [r0, r1, r2, zH y1 zL3 0, r4, r5, r6, r7, zH s8 (zLb ks) 0, r9])) rfl ?_
  obtain ⟨g9, H⟩ := zgd H
  have H := zif H
  refine xB.brE oX4_moveOf (P := y3 < 0) rfl (zc_lt (a := y3) (b := 0) ⟨g9, by decide⟩) (fun h5 => ?_) (fun h5 => ?_)
  · have H := H.1 h5
    refine xB.run oX4_moveOf 1 (s := (33, [some (.ref 3072), some (.int (zI jt)), some (.int (zI way)), some (.int (zI y3))], [.long (zJ (-9223372036854775808))], [r0, r1, r2, zH y1 zL3 0, r4, r5, r6, r7, zH s8 (zLb ks) 0, r9])) rfl ?_
    obtain rfl := Option.some.inj H
    exact xB.ret oX4_moveOf (r1 := some (.long (zJ (-9223372036854775808)))) rfl rfl rfl
  · have H := H.2 h5
    refine xB.run oX4_moveOf 2 (s := (18, [some (.ref 3072), some (.int (zI jt)), some (.int (zI way)), some (.int (zI y3))], [.int (zI 8), .int (zI y3)], [r0, r1, r2, zH y1 zL3 0, r4, r5, r6, r7, zH s8 (zLb ks) 0, r9])) rfl ?_
    obtain ⟨g8, H⟩ := zgd H
    have H := zif H
    refine xB.brE oX4_moveOf (P := (8 : Int) ≤ y3) rfl (zc_ge (a := y3) (b := 8) ⟨g8, by decide⟩) (fun h6 => ?_) (fun h6 => ?_)
    · have H := H.1 h6
      refine xB.run oX4_moveOf 1 (s := (33, [some (.ref 3072), some (.int (zI jt)), some (.int (zI way)), some (.int (zI y3))], [.long (zJ (-9223372036854775808))], [r0, r1, r2, zH y1 zL3 0, r4, r5, r6, r7, zH s8 (zLb ks) 0, r9])) rfl ?_
      obtain rfl := Option.some.inj H
      exact xB.ret oX4_moveOf (r1 := some (.long (zJ (-9223372036854775808)))) rfl rfl rfl
    · have H := H.2 h6
      refine xB.run oX4_moveOf 3 (s := (26, [some (.ref 3072), some (.int (zI jt)), some (.int (zI way)), some (.int (zI y3))], [.int (zI y3), .ref 3115], [r0, r1, r2, zH y1 zL3 0, r4, r5, r6, r7, zH s8 (zLb ks) 0, r9])) rfl ?_
      obtain ⟨g7, H⟩ := zgd H
      refine zB.lald oX4_moveOf (g := 3) (p := 43) (N := 8) (i := y3) rfl rfl (by decide) rfl rfl (by decide) g7 ?_
      refine xB.run oX4_moveOf 1 (s := (33, [some (.ref 3072), some (.int (zI jt)), some (.int (zI way)), some (.int (zI y3))], [.long (zJ (y1 43 y3.toNat))], [r0, r1, r2, zH y1 zL3 0, r4, r5, r6, r7, zH s8 (zLb ks) 0, r9])) rfl ?_
      obtain rfl := Option.some.inj H
      exact xB.ret oX4_moveOf (r1 := some (.long (zJ (y1 43 y3.toNat)))) rfl rfl rfl
def d_X4_firstToPutOn_2 (s3 : zZ) (set : Int) (on_ : Int) : Nat → Int → Option (Sum (Int) (Int))
  | 0, _ => none
  | uN + 1, c => if (zr c) then (if (6 : Int) ≤ c then some (.inl c) else (if (0 ≤ c ∧ c < 32) then (if ((0 ≤ on_ ∧ zr on_) ∧ (0 ≤ ((2 : Int) ^ c.toNat) ∧ zr ((2 : Int) ^ c.toNat))) then (if (zr set ∧ (0 ≤ c ∧ c < 32)) then (if (zr ((set / (2 : Int) ^ c.toNat) % 2)) then (if ((set / (2 : Int) ^ c.toNat) % 2) ≠ 1 then (d_X4_firstToPutOn_2 s3 set on_ uN (c + 1)) else (if (zr ((on_.toNat ||| ((2 : Int) ^ c.toNat).toNat : Nat) : Int) ∧ zr on_) then (if ((on_.toNat ||| ((2 : Int) ^ c.toNat).toNat : Nat) : Int) = on_ then (d_X4_firstToPutOn_2 s3 set on_ uN (c + 1)) else (if (zr ((on_.toNat ||| ((2 : Int) ^ c.toNat).toNat : Nat) : Int)) then (if (64 : Int) ≤ ((on_.toNat ||| ((2 : Int) ^ c.toNat).toNat : Nat) : Int) then (d_X4_firstToPutOn_2 s3 set on_ uN (c + 1)) else (if (0 ≤ ((on_.toNat ||| ((2 : Int) ^ c.toNat).toNat : Nat) : Int) ∧ ((on_.toNat ||| ((2 : Int) ^ c.toNat).toNat : Nat) : Int) < 64) then (if (zr (s3 44 ((on_.toNat ||| ((2 : Int) ^ c.toNat).toNat : Nat) : Int).toNat)) then (if (s3 44 ((on_.toNat ||| ((2 : Int) ^ c.toNat).toNat : Nat) : Int).toNat) = 0 then (d_X4_firstToPutOn_2 s3 set on_ uN (c + 1)) else some (.inr c)) else none) else none)) else none)) else none)) else none) else none) else none) else none)) else none
def d_X4_firstToPutOn (s3 : zZ) (set : Int) (on_ : Int) : Option (Int) := (d_X4_firstToPutOn_2 s3 set on_ zF 0).bind fun y15 => match y15 with | .inl y17 => some (-9) | .inr y18 => some y18
set_option maxRecDepth 20000 in
theorem l_X4_firstToPutOn_2 (r0 : List va_E) (r1 : List va_E) (r2 : List va_E) (s3 : zZ) (r4 : List va_E) (r5 : List va_E) (r6 : List va_E) (r7 : List va_E) (r8 : List va_E) (r9 : List va_E) (set : Int) (on_ : Int) {r : Option Value} {hp1 : xH} : ∀ (uN : Nat) (c : Int) {uX : Sum (Int) (Int)}, d_X4_firstToPutOn_2 s3 set on_ uN c = some uX → ((∀ uY, uX = .inl uY → xBody MX4_firstToPutOn 0 58 [some (.ref 3072), some (.int (zI set)), some (.int (zI on_)), some (.int (zI uY)), none] [] ([r0, r1, r2, zH s3 zL3 0, r4, r5, r6, r7, r8, r9]) r hp1) ∧ (∀ uW, uX = .inr uW → r = some (.int (zI uW)) ∧ hp1 = [r0, r1, r2, zH s3 zL3 0, r4, r5, r6, r7, r8, r9])) → xBody MX4_firstToPutOn 0 2 [some (.ref 3072), some (.int (zI set)), some (.int (zI on_)), some (.int (zI c)), none] [] ([r0, r1, r2, zH s3 zL3 0, r4, r5, r6, r7, r8, r9]) r hp1 := by
  intro uN
  induction uN with
  | zero => intro c uX H K; cases H
  | succ uN ih =>
    intro c uX H K
    unfold d_X4_firstToPutOn_2 at H
    refine xB.run oX4_firstToPutOn 2 (s := (5, [some (.ref 3072), some (.int (zI set)), some (.int (zI on_)), some (.int (zI c)), none], [.int (zI 6), .int (zI c)], [r0, r1, r2, zH s3 zL3 0, r4, r5, r6, r7, r8, r9])) rfl ?_
    obtain ⟨g14, H⟩ := zgd H
    have H := zif H
    refine xB.brE oX4_firstToPutOn (P := (6 : Int) ≤ c) rfl (zc_ge (a := c) (b := 6) ⟨g14, by decide⟩) (fun h1 => ?_) (fun h1 => ?_)
    · have H := H.1 h1
      obtain rfl := Option.some.inj H
      exact K.1 _ rfl
    · have H := H.2 h1
      refine xB.run oX4_firstToPutOn 3 (s := (11, [some (.ref 3072), some (.int (zI set)), some (.int (zI on_)), some (.int (zI c)), none], [.int (zI c), .int (zI 1), .int (zI on_)], [r0, r1, r2, zH s3 zL3 0, r4, r5, r6, r7, r8, r9])) rfl ?_
      obtain ⟨g13, H⟩ := zgd H
      refine zB.opi oX4_firstToPutOn (y := (2 : Int) ^ c.toNat) rfl (zi_shl1 (c := c) g13) ?_
      obtain ⟨g12, H⟩ := zgd H
      refine zB.opi oX4_firstToPutOn rfl (zi_or (a := on_) (b := (2 : Int) ^ c.toNat) g12.1 g12.2) ?_
      refine xB.run oX4_firstToPutOn 3 (s := (17, [some (.ref 3072), some (.int (zI set)), some (.int (zI on_)), some (.int (zI c)), some (.int (zI ((on_.toNat ||| ((2 : Int) ^ c.toNat).toNat : Nat) : Int)))], [.int (zI c), .int (zI set)], [r0, r1, r2, zH s3 zL3 0, r4, r5, r6, r7, r8, r9])) rfl ?_
      obtain ⟨g11, H⟩ := zgd H
      refine zB.opi oX4_firstToPutOn rfl (zi_shr (c := c) g11.1 g11.2) ?_
      refine xB.run oX4_firstToPutOn 1 (s := (19, [some (.ref 3072), some (.int (zI set)), some (.int (zI on_)), some (.int (zI c)), some (.int (zI ((on_.toNat ||| ((2 : Int) ^ c.toNat).toNat : Nat) : Int)))], [.int (zI 1), .int (zI (set / (2 : Int) ^ c.toNat))], [r0, r1, r2, zH s3 zL3 0, r4, r5, r6, r7, r8, r9])) rfl ?_
      refine zB.opi oX4_firstToPutOn rfl (zi_and1 (set / (2 : Int) ^ c.toNat)) ?_
      refine xB.run oX4_firstToPutOn 1 (s := (21, [some (.ref 3072), some (.int (zI set)), some (.int (zI on_)), some (.int (zI c)), some (.int (zI ((on_.toNat ||| ((2 : Int) ^ c.toNat).toNat : Nat) : Int)))], [.int (zI 1), .int (zI ((set / (2 : Int) ^ c.toNat) % 2))], [r0, r1, r2, zH s3 zL3 0, r4, r5, r6, r7, r8, r9])) rfl ?_
      obtain ⟨g10, H⟩ := zgd H
      have H := zif H
      refine xB.brE oX4_firstToPutOn (P := ((set / (2 : Int) ^ c.toNat) % 2) ≠ 1) rfl (zc_ne (a := (set / (2 : Int) ^ c.toNat) % 2) (b := 1) ⟨g10, by decide⟩) (fun h2 => ?_) (fun h2 => ?_)
      · have H := H.1 h2
        refine zB.inc oX4_firstToPutOn rfl (lv2 := [some (.ref 3072), some (.int (zI set)), some (.int (zI on_)), some (.int (zI (c + 1))), some (.int (zI ((on_.toNat ||| ((2 : Int) ^ c.toNat).toNat : Nat) : Int)))]) (zi_inc (a := 0) (zi_addp1 c) _ rfl) ?_
        refine xB.run oX4_firstToPutOn 1 (s := (2, [some (.ref 3072), some (.int (zI set)), some (.int (zI on_)), some (.int (zI (c + 1))), some (.int (zI ((on_.toNat ||| ((2 : Int) ^ c.toNat).toNat : Nat) : Int)))], [], [r0, r1, r2, zH s3 zL3 0, r4, r5, r6, r7, r8, r9])) rfl ?_
        refine xB.forget (lv1 := [some (.ref 3072), some (.int (zI set)), some (.int (zI on_)), some (.int (zI (c + 1))), none]) (xle_same (xle_same (xle_same (xle_same (xle_none (xle_nil)))))) ?_
        exact ih (c + 1) H K
      · have H := H.2 h2
        refine xB.run oX4_firstToPutOn 2 (s := (27, [some (.ref 3072), some (.int (zI set)), some (.int (zI on_)), some (.int (zI c)), some (.int (zI ((on_.toNat ||| ((2 : Int) ^ c.toNat).toNat : Nat) : Int)))], [.int (zI on_), .int (zI ((on_.toNat ||| ((2 : Int) ^ c.toNat).toNat : Nat) : Int))], [r0, r1, r2, zH s3 zL3 0, r4, r5, r6, r7, r8, r9])) rfl ?_
        obtain ⟨g9, H⟩ := zgd H
        have H := zif H
        refine xB.brE oX4_firstToPutOn (P := ((on_.toNat ||| ((2 : Int) ^ c.toNat).toNat : Nat) : Int) = on_) rfl (zc_eq (a := ((on_.toNat ||| ((2 : Int) ^ c.toNat).toNat : Nat) : Int)) (b := on_) g9) (fun h3 => ?_) (fun h3 => ?_)
        · have H := H.1 h3
          refine zB.inc oX4_firstToPutOn rfl (lv2 := [some (.ref 3072), some (.int (zI set)), some (.int (zI on_)), some (.int (zI (c + 1))), some (.int (zI ((on_.toNat ||| ((2 : Int) ^ c.toNat).toNat : Nat) : Int)))]) (zi_inc (a := 0) (zi_addp1 c) _ rfl) ?_
          refine xB.run oX4_firstToPutOn 1 (s := (2, [some (.ref 3072), some (.int (zI set)), some (.int (zI on_)), some (.int (zI (c + 1))), some (.int (zI ((on_.toNat ||| ((2 : Int) ^ c.toNat).toNat : Nat) : Int)))], [], [r0, r1, r2, zH s3 zL3 0, r4, r5, r6, r7, r8, r9])) rfl ?_
          refine xB.forget (lv1 := [some (.ref 3072), some (.int (zI set)), some (.int (zI on_)), some (.int (zI (c + 1))), none]) (xle_same (xle_same (xle_same (xle_same (xle_none (xle_nil)))))) ?_
          exact ih (c + 1) H K
        · have H := H.2 h3
          refine xB.run oX4_firstToPutOn 4 (s := (37, [some (.ref 3072), some (.int (zI set)), some (.int (zI on_)), some (.int (zI c)), some (.int (zI ((on_.toNat ||| ((2 : Int) ^ c.toNat).toNat : Nat) : Int)))], [.int (zI 64), .int (zI ((on_.toNat ||| ((2 : Int) ^ c.toNat).toNat : Nat) : Int))], [r0, r1, r2, zH s3 zL3 0, r4, r5, r6, r7, r8, r9])) rfl ?_
          obtain ⟨g8, H⟩ := zgd H
          have H := zif H
          refine xB.brE oX4_firstToPutOn (P := (64 : Int) ≤ ((on_.toNat ||| ((2 : Int) ^ c.toNat).toNat : Nat) : Int)) rfl (zc_ge (a := ((on_.toNat ||| ((2 : Int) ^ c.toNat).toNat : Nat) : Int)) (b := 64) ⟨g8, by decide⟩) (fun h4 => ?_) (fun h4 => ?_)
          · have H := H.1 h4
            refine zB.inc oX4_firstToPutOn rfl (lv2 := [some (.ref 3072), some (.int (zI set)), some (.int (zI on_)), some (.int (zI (c + 1))), some (.int (zI ((on_.toNat ||| ((2 : Int) ^ c.toNat).toNat : Nat) : Int)))]) (zi_inc (a := 0) (zi_addp1 c) _ rfl) ?_
            refine xB.run oX4_firstToPutOn 1 (s := (2, [some (.ref 3072), some (.int (zI set)), some (.int (zI on_)), some (.int (zI (c + 1))), some (.int (zI ((on_.toNat ||| ((2 : Int) ^ c.toNat).toNat : Nat) : Int)))], [], [r0, r1, r2, zH s3 zL3 0, r4, r5, r6, r7, r8, r9])) rfl ?_
            refine xB.forget (lv1 := [some (.ref 3072), some (.int (zI set)), some (.int (zI on_)), some (.int (zI (c + 1))), none]) (xle_same (xle_same (xle_same (xle_same (xle_none (xle_nil)))))) ?_
            exact ih (c + 1) H K
          · have H := H.2 h4
            refine xB.run oX4_firstToPutOn 3 (s := (46, [some (.ref 3072), some (.int (zI set)), some (.int (zI on_)), some (.int (zI c)), some (.int (zI ((on_.toNat ||| ((2 : Int) ^ c.toNat).toNat : Nat) : Int)))], [.int (zI ((on_.toNat ||| ((2 : Int) ^ c.toNat).toNat : Nat) : Int)), .ref 3116], [r0, r1, r2, zH s3 zL3 0, r4, r5, r6, r7, r8, r9])) rfl ?_
            obtain ⟨g7, H⟩ := zgd H
            refine zB.bald oX4_firstToPutOn (g := 3) (p := 44) (N := 64) (i := ((on_.toNat ||| ((2 : Int) ^ c.toNat).toNat : Nat) : Int)) rfl rfl (by decide) rfl rfl (by decide) g7 ?_
            obtain ⟨g6, H⟩ := zgd H
            have H := zif H
            refine xB.brE oX4_firstToPutOn (P := (s3 44 ((on_.toNat ||| ((2 : Int) ^ c.toNat).toNat : Nat) : Int).toNat) = 0) rfl (zc_eq (a := s3 44 ((on_.toNat ||| ((2 : Int) ^ c.toNat).toNat : Nat) : Int).toNat) (b := 0) ⟨g6, by decide⟩) (fun h5 => ?_) (fun h5 => ?_)
            · have H := H.1 h5
              refine zB.inc oX4_firstToPutOn rfl (lv2 := [some (.ref 3072), some (.int (zI set)), some (.int (zI on_)), some (.int (zI (c + 1))), some (.int (zI ((on_.toNat ||| ((2 : Int) ^ c.toNat).toNat : Nat) : Int)))]) (zi_inc (a := 0) (zi_addp1 c) _ rfl) ?_
              refine xB.run oX4_firstToPutOn 1 (s := (2, [some (.ref 3072), some (.int (zI set)), some (.int (zI on_)), some (.int (zI (c + 1))), some (.int (zI ((on_.toNat ||| ((2 : Int) ^ c.toNat).toNat : Nat) : Int)))], [], [r0, r1, r2, zH s3 zL3 0, r4, r5, r6, r7, r8, r9])) rfl ?_
              refine xB.forget (lv1 := [some (.ref 3072), some (.int (zI set)), some (.int (zI on_)), some (.int (zI (c + 1))), none]) (xle_same (xle_same (xle_same (xle_same (xle_none (xle_nil)))))) ?_
              exact ih (c + 1) H K
            · have H := H.2 h5
              refine xB.run oX4_firstToPutOn 1 (s := (51, [some (.ref 3072), some (.int (zI set)), some (.int (zI on_)), some (.int (zI c)), some (.int (zI ((on_.toNat ||| ((2 : Int) ^ c.toNat).toNat : Nat) : Int)))], [.int (zI c)], [r0, r1, r2, zH s3 zL3 0, r4, r5, r6, r7, r8, r9])) rfl ?_
              obtain rfl := Option.some.inj H
              obtain ⟨kr, kh⟩ := K.2 _ rfl
              subst kr kh
              exact xB.ret oX4_firstToPutOn (r1 := some (.int (zI c))) rfl rfl rfl
set_option maxRecDepth 20000 in
theorem t_X4_firstToPutOn (r0 : List va_E) (r1 : List va_E) (r2 : List va_E) (s3 : zZ) (r4 : List va_E) (r5 : List va_E) (r6 : List va_E) (r7 : List va_E) (r8 : List va_E) (r9 : List va_E) (set : Int) (on_ : Int) {rr : Int} (H : d_X4_firstToPutOn s3 set on_ = some rr) : xC MX4_firstToPutOn 0 [.ref 3072, .int (zI set), .int (zI on_)] ([r0, r1, r2, zH s3 zL3 0, r4, r5, r6, r7, r8, r9]) (some (.int (zI rr))) ([r0, r1, r2, zH s3 zL3 0, r4, r5, r6, r7, r8, r9]) := by
  refine ⟨Nat.le_of_ble_eq_true rfl, ?_⟩
  show xBody MX4_firstToPutOn 0 0 [some (.ref 3072), some (.int (zI set)), some (.int (zI on_)), none, none] [] ([r0, r1, r2, zH s3 zL3 0, r4, r5, r6, r7, r8, r9]) _ _
  unfold d_X4_firstToPutOn at H
  refine xB.run oX4_firstToPutOn 2 (s := (2, [some (.ref 3072), some (.int (zI set)), some (.int (zI on_)), some (.int (zI 0)), none], [], [r0, r1, r2, zH s3 zL3 0, r4, r5, r6, r7, r8, r9])) rfl ?_
  obtain ⟨y15, e16, H⟩ := zbd H
  refine l_X4_firstToPutOn_2 r0 r1 r2 s3 r4 r5 r6 r7 r8 r9 set on_ _ 0 e16 ?_
  refine ⟨fun y17 uQ => ?_, fun y18 uQ => ?_⟩
  · subst uQ
    refine xB.run oX4_firstToPutOn 1 (s := (60, [some (.ref 3072), some (.int (zI set)), some (.int (zI on_)), some (.int (zI y17)), none], [.int (zI (-9))], [r0, r1, r2, zH s3 zL3 0, r4, r5, r6, r7, r8, r9])) rfl ?_
    obtain rfl := Option.some.inj H
    exact xB.ret oX4_firstToPutOn (r1 := some (.int (zI (-9)))) rfl rfl rfl
  · subst uQ
    obtain rfl := Option.some.inj H
    exact ⟨rfl, rfl⟩
def d_X4_noneGives_15 (s3 : zZ) (s8 : zZ) (ks : List Int) (on_ : Int) (b : Int) : Nat → Int → Int → Option (Int × Int)
  | 0, _, _ => none
  | uN + 1, sum, c => if (zr c) then (if (6 : Int) ≤ c then some (sum, c) else (if (zr on_ ∧ (0 ≤ c ∧ c < 32)) then (if (zr ((on_ / (2 : Int) ^ c.toNat) % 2)) then (if ((on_ / (2 : Int) ^ c.toNat) % 2) ≠ 1 then (d_X4_noneGives_15 s3 s8 ks on_ b uN (sum + 0) (c + 1)) else (if ((0 ≤ b ∧ b < 16) ∧ b < s3 5 0) then ((d_X4_upperPush s3 s8 ks c b).bind fun y4 => d_X4_noneGives_15 s3 s8 ks on_ b uN (sum + y4) (c + 1)) else none)) else none) else none)) else none
def d_X4_noneGives_2 (s3 : zZ) (s8 : zZ) (ks : List Int) (on_ : Int) : Nat → Int → Option (Sum (Int) (Int))
  | 0, _ => none
  | uN + 1, b => if (zr b ∧ zr (s3 0 7)) then (if (s3 0 7) ≤ b then some (.inl b) else ((d_X4_noneGives_15 s3 s8 ks on_ b zF 0 0).bind fun y10 => (d_J9_abs_067f4 y10.1).bind fun y12 => if ((0 ≤ b ∧ b < 16) ∧ b < s3 5 0) then (if (b.toNat < ks.length ∧ b.toNat < 1024) then (if zr (s8 b.toNat 3) then ((d_X4_lowerPush s3).bind fun y14 => (d_J9_abs_067f4 y14).bind fun y16 => if (zrl y12 ∧ zrl ((s8 b.toNat 3) * y16)) then (if y12 ≤ ((s8 b.toNat 3) * y16) then (d_X4_noneGives_2 s3 s8 ks on_ uN (b + 1)) else some (.inr 0)) else none) else none) else none) else none)) else none
def d_X4_noneGives (s3 : zZ) (s8 : zZ) (ks : List Int) (on_ : Int) : Option (Int) := (d_X4_noneGives_2 s3 s8 ks on_ zF 0).bind fun y24 => match y24 with | .inl y26 => some 1 | .inr y27 => some y27
set_option maxRecDepth 20000 in
theorem l_X4_noneGives_15 (r0 : List va_E) (r1 : List va_E) (r2 : List va_E) (s3 : zZ) (r4 : List va_E) (r5 : List va_E) (r6 : List va_E) (r7 : List va_E) (s8 : zZ) (r9 : List va_E) (ks : List Int) (on_ : Int) (b : Int) {r : Option Value} {hp1 : xH} : ∀ (uN : Nat) (sum : Int) (c : Int) {uX : Int × Int}, d_X4_noneGives_15 s3 s8 ks on_ b uN sum c = some uX → (xBody MX4_noneGives 3 57 [some (.ref 3072), some (.int (zI on_)), some (.int (zI b)), some (.long (zJ uX.1)), none, some (.int (zI uX.2))] [] ([r0, r1, r2, zH s3 zL3 0, r4, r5, r6, r7, zH s8 (zLb ks) 0, r9]) r hp1) → xBody MX4_noneGives 3 15 [some (.ref 3072), some (.int (zI on_)), some (.int (zI b)), some (.long (zJ sum)), none, some (.int (zI c))] [] ([r0, r1, r2, zH s3 zL3 0, r4, r5, r6, r7, zH s8 (zLb ks) 0, r9]) r hp1 := by
  intro uN
  induction uN with
  | zero => intro sum c uX H K; cases H
  | succ uN ih =>
    intro sum c uX H K
    unfold d_X4_noneGives_15 at H
    refine xB.run oX4_noneGives 2 (s := (19, [some (.ref 3072), some (.int (zI on_)), some (.int (zI b)), some (.long (zJ sum)), none, some (.int (zI c))], [.int (zI 6), .int (zI c)], [r0, r1, r2, zH s3 zL3 0, r4, r5, r6, r7, zH s8 (zLb ks) 0, r9])) rfl ?_
    obtain ⟨g9, H⟩ := zgd H
    have H := zif H
    refine xB.brE oX4_noneGives (P := (6 : Int) ≤ c) rfl (zc_ge (a := c) (b := 6) ⟨g9, by decide⟩) (fun h2 => ?_) (fun h2 => ?_)
    · have H := H.1 h2
      obtain rfl := Option.some.inj H
      exact K
    · have H := H.2 h2
      refine xB.run oX4_noneGives 3 (s := (26, [some (.ref 3072), some (.int (zI on_)), some (.int (zI b)), some (.long (zJ sum)), none, some (.int (zI c))], [.int (zI c), .int (zI on_), .long (zJ sum)], [r0, r1, r2, zH s3 zL3 0, r4, r5, r6, r7, zH s8 (zLb ks) 0, r9])) rfl ?_
      obtain ⟨g8, H⟩ := zgd H
      refine zB.opi oX4_noneGives rfl (zi_shr (c := c) g8.1 g8.2) ?_
      refine xB.run oX4_noneGives 1 (s := (28, [some (.ref 3072), some (.int (zI on_)), some (.int (zI b)), some (.long (zJ sum)), none, some (.int (zI c))], [.int (zI 1), .int (zI (on_ / (2 : Int) ^ c.toNat)), .long (zJ sum)], [r0, r1, r2, zH s3 zL3 0, r4, r5, r6, r7, zH s8 (zLb ks) 0, r9])) rfl ?_
      refine zB.opi oX4_noneGives rfl (zi_and1 (on_ / (2 : Int) ^ c.toNat)) ?_
      refine xB.run oX4_noneGives 1 (s := (30, [some (.ref 3072), some (.int (zI on_)), some (.int (zI b)), some (.long (zJ sum)), none, some (.int (zI c))], [.int (zI 1), .int (zI ((on_ / (2 : Int) ^ c.toNat) % 2)), .long (zJ sum)], [r0, r1, r2, zH s3 zL3 0, r4, r5, r6, r7, zH s8 (zLb ks) 0, r9])) rfl ?_
      obtain ⟨g7, H⟩ := zgd H
      have H := zif H
      refine xB.brE oX4_noneGives (P := ((on_ / (2 : Int) ^ c.toNat) % 2) ≠ 1) rfl (zc_ne (a := (on_ / (2 : Int) ^ c.toNat) % 2) (b := 1) ⟨g7, by decide⟩) (fun h3 => ?_) (fun h3 => ?_)
      · have H := H.1 h3
        refine xB.run oX4_noneGives 1 (s := (49, [some (.ref 3072), some (.int (zI on_)), some (.int (zI b)), some (.long (zJ sum)), none, some (.int (zI c))], [.long (zJ 0), .long (zJ sum)], [r0, r1, r2, zH s3 zL3 0, r4, r5, r6, r7, zH s8 (zLb ks) 0, r9])) rfl ?_
        refine zB.opl oX4_noneGives rfl (zj_add sum 0) ?_
        refine xB.run oX4_noneGives 1 (s := (51, [some (.ref 3072), some (.int (zI on_)), some (.int (zI b)), some (.long (zJ (sum + 0))), none, some (.int (zI c))], [], [r0, r1, r2, zH s3 zL3 0, r4, r5, r6, r7, zH s8 (zLb ks) 0, r9])) rfl ?_
        refine zB.inc oX4_noneGives rfl (lv2 := [some (.ref 3072), some (.int (zI on_)), some (.int (zI b)), some (.long (zJ (sum + 0))), none, some (.int (zI (c + 1)))]) (zi_inc (a := 0) (zi_addp1 c) _ rfl) ?_
        refine xB.run oX4_noneGives 1 (s := (15, [some (.ref 3072), some (.int (zI on_)), some (.int (zI b)), some (.long (zJ (sum + 0))), none, some (.int (zI (c + 1)))], [], [r0, r1, r2, zH s3 zL3 0, r4, r5, r6, r7, zH s8 (zLb ks) 0, r9])) rfl ?_
        exact ih (sum + 0) (c + 1) H K
      · have H := H.2 h3
        refine xB.run oX4_noneGives 5 (s := (41, [some (.ref 3072), some (.int (zI on_)), some (.int (zI b)), some (.long (zJ sum)), none, some (.int (zI c))], [.int (zI b), .ref 3077, .int (zI c), .ref 3072, .long (zJ sum)], [r0, r1, r2, zH s3 zL3 0, r4, r5, r6, r7, zH s8 (zLb ks) 0, r9])) rfl ?_
        obtain ⟨g6, H⟩ := zgd H
        refine zB.aaldB oX4_noneGives (g := 3) (p := 5) (N := 16) rfl rfl (by decide) rfl rfl (by decide) g6 ?_
        obtain ⟨y4, e5, H⟩ := zbd H
        refine xB.call oX4_noneGives (M2 := MX4_upperPush) rfl rfl ((t_X4_upperPush r0 r1 r2 s3 r4 r5 r6 r7 s8 r9 ks c b e5).deep (by decide : 2 ≤ 2)) ?_
        show xBody MX4_noneGives 3 45 [some (.ref 3072), some (.int (zI on_)), some (.int (zI b)), some (.long (zJ sum)), none, some (.int (zI c))] [.long (zJ y4), .long (zJ sum)] ([r0, r1, r2, zH s3 zL3 0, r4, r5, r6, r7, zH s8 (zLb ks) 0, r9]) _ _
        refine xB.run oX4_noneGives 1 (s := (49, [some (.ref 3072), some (.int (zI on_)), some (.int (zI b)), some (.long (zJ sum)), none, some (.int (zI c))], [.long (zJ y4), .long (zJ sum)], [r0, r1, r2, zH s3 zL3 0, r4, r5, r6, r7, zH s8 (zLb ks) 0, r9])) rfl ?_
        refine zB.opl oX4_noneGives rfl (zj_add sum y4) ?_
        refine xB.run oX4_noneGives 1 (s := (51, [some (.ref 3072), some (.int (zI on_)), some (.int (zI b)), some (.long (zJ (sum + y4))), none, some (.int (zI c))], [], [r0, r1, r2, zH s3 zL3 0, r4, r5, r6, r7, zH s8 (zLb ks) 0, r9])) rfl ?_
        refine zB.inc oX4_noneGives rfl (lv2 := [some (.ref 3072), some (.int (zI on_)), some (.int (zI b)), some (.long (zJ (sum + y4))), none, some (.int (zI (c + 1)))]) (zi_inc (a := 0) (zi_addp1 c) _ rfl) ?_
        refine xB.run oX4_noneGives 1 (s := (15, [some (.ref 3072), some (.int (zI on_)), some (.int (zI b)), some (.long (zJ (sum + y4))), none, some (.int (zI (c + 1)))], [], [r0, r1, r2, zH s3 zL3 0, r4, r5, r6, r7, zH s8 (zLb ks) 0, r9])) rfl ?_
        exact ih (sum + y4) (c + 1) H K
set_option maxRecDepth 20000 in
theorem l_X4_noneGives_2 (r0 : List va_E) (r1 : List va_E) (r2 : List va_E) (s3 : zZ) (r4 : List va_E) (r5 : List va_E) (r6 : List va_E) (r7 : List va_E) (s8 : zZ) (r9 : List va_E) (ks : List Int) (on_ : Int) {r : Option Value} {hp1 : xH} : ∀ (uN : Nat) (b : Int) {uX : Sum (Int) (Int)}, d_X4_noneGives_2 s3 s8 ks on_ uN b = some uX → ((∀ uY, uX = .inl uY → xBody MX4_noneGives 3 91 [some (.ref 3072), some (.int (zI on_)), some (.int (zI uY)), none, none, none] [] ([r0, r1, r2, zH s3 zL3 0, r4, r5, r6, r7, zH s8 (zLb ks) 0, r9]) r hp1) ∧ (∀ uW, uX = .inr uW → r = some (.int (zI uW)) ∧ hp1 = [r0, r1, r2, zH s3 zL3 0, r4, r5, r6, r7, zH s8 (zLb ks) 0, r9])) → xBody MX4_noneGives 3 2 [some (.ref 3072), some (.int (zI on_)), some (.int (zI b)), none, none, none] [] ([r0, r1, r2, zH s3 zL3 0, r4, r5, r6, r7, zH s8 (zLb ks) 0, r9]) r hp1 := by
  intro uN
  induction uN with
  | zero => intro b uX H K; cases H
  | succ uN ih =>
    intro b uX H K
    unfold d_X4_noneGives_2 at H
    refine xB.run oX4_noneGives 3 (s := (7, [some (.ref 3072), some (.int (zI on_)), some (.int (zI b)), none, none, none], [.int (zI (s3 0 7)), .int (zI b)], [r0, r1, r2, zH s3 zL3 0, r4, r5, r6, r7, zH s8 (zLb ks) 0, r9])) rfl ?_
    obtain ⟨g23, H⟩ := zgd H
    have H := zif H
    refine xB.brE oX4_noneGives (P := (s3 0 7) ≤ b) rfl (zc_ge (a := b) (b := s3 0 7) g23) (fun h1 => ?_) (fun h1 => ?_)
    · have H := H.1 h1
      obtain rfl := Option.some.inj H
      exact K.1 _ rfl
    · have H := H.2 h1
      refine xB.run oX4_noneGives 4 (s := (15, [some (.ref 3072), some (.int (zI on_)), some (.int (zI b)), some (.long (zJ 0)), none, some (.int (zI 0))], [], [r0, r1, r2, zH s3 zL3 0, r4, r5, r6, r7, zH s8 (zLb ks) 0, r9])) rfl ?_
      obtain ⟨y10, e11, H⟩ := zbd H
      refine l_X4_noneGives_15 r0 r1 r2 s3 r4 r5 r6 r7 s8 r9 ks on_ b _ 0 0 e11 ?_
      refine xB.run oX4_noneGives 1 (s := (58, [some (.ref 3072), some (.int (zI on_)), some (.int (zI b)), some (.long (zJ y10.1)), none, some (.int (zI y10.2))], [.long (zJ y10.1)], [r0, r1, r2, zH s3 zL3 0, r4, r5, r6, r7, zH s8 (zLb ks) 0, r9])) rfl ?_
      obtain ⟨y12, e13, H⟩ := zbd H
      refine xB.call oX4_noneGives (M2 := MJ9_abs_067f4) rfl rfl ((t_J9_abs_067f4 r0 r1 r2 (zH s3 zL3 0) r4 r5 r6 r7 (zH s8 (zLb ks) 0) r9 y10.1 e13).deep (by decide : 0 ≤ 2)) ?_
      show xBody MX4_noneGives 3 61 [some (.ref 3072), some (.int (zI on_)), some (.int (zI b)), some (.long (zJ y10.1)), none, some (.int (zI y10.2))] [.long (zJ y12)] ([r0, r1, r2, zH s3 zL3 0, r4, r5, r6, r7, zH s8 (zLb ks) 0, r9]) _ _
      refine xB.run oX4_noneGives 3 (s := (66, [some (.ref 3072), some (.int (zI on_)), some (.int (zI b)), some (.long (zJ y10.1)), none, some (.int (zI y10.2))], [.int (zI b), .ref 3077, .long (zJ y12)], [r0, r1, r2, zH s3 zL3 0, r4, r5, r6, r7, zH s8 (zLb ks) 0, r9])) rfl ?_
      obtain ⟨g22, H⟩ := zgd H
      refine zB.aaldB oX4_noneGives (g := 3) (p := 5) (N := 16) rfl rfl (by decide) rfl rfl (by decide) g22 ?_
      obtain ⟨g21, H⟩ := zgd H
      refine zB.getI oX4_noneGives (g := 8) (p := b.toNat) (k := 3) (y := 0) rfl rfl (by omega) rfl (zLb_at _ g21.1) (zks_bar _ 3 3 3 _ rfl rfl rfl) rfl ?_
      obtain ⟨g20, H⟩ := zgd H
      refine zB.opl oX4_noneGives rfl (zi_i2l g20) ?_
      refine xB.run oX4_noneGives 1 (s := (72, [some (.ref 3072), some (.int (zI on_)), some (.int (zI b)), some (.long (zJ y10.1)), none, some (.int (zI y10.2))], [.ref 3072, .long (zJ (s8 b.toNat 3)), .long (zJ y12)], [r0, r1, r2, zH s3 zL3 0, r4, r5, r6, r7, zH s8 (zLb ks) 0, r9])) rfl ?_
      obtain ⟨y14, e15, H⟩ := zbd H
      refine xB.call oX4_noneGives (M2 := MX4_lowerPush) rfl rfl ((t_X4_lowerPush r0 r1 r2 s3 r4 r5 r6 r7 (zH s8 (zLb ks) 0) r9  e15).deep (by decide : 0 ≤ 2)) ?_
      show xBody MX4_noneGives 3 75 [some (.ref 3072), some (.int (zI on_)), some (.int (zI b)), some (.long (zJ y10.1)), none, some (.int (zI y10.2))] [.long (zJ y14), .long (zJ (s8 b.toNat 3)), .long (zJ y12)] ([r0, r1, r2, zH s3 zL3 0, r4, r5, r6, r7, zH s8 (zLb ks) 0, r9]) _ _
      obtain ⟨y16, e17, H⟩ := zbd H
      refine xB.call oX4_noneGives (M2 := MJ9_abs_067f4) rfl rfl ((t_J9_abs_067f4 r0 r1 r2 (zH s3 zL3 0) r4 r5 r6 r7 (zH s8 (zLb ks) 0) r9 y14 e17).deep (by decide : 0 ≤ 2)) ?_
      show xBody MX4_noneGives 3 78 [some (.ref 3072), some (.int (zI on_)), some (.int (zI b)), some (.long (zJ y10.1)), none, some (.int (zI y10.2))] [.long (zJ y16), .long (zJ (s8 b.toNat 3)), .long (zJ y12)] ([r0, r1, r2, zH s3 zL3 0, r4, r5, r6, r7, zH s8 (zLb ks) 0, r9]) _ _
      refine zB.opl oX4_noneGives rfl (zj_mul (s8 b.toNat 3) y16) ?_
      refine xB.run oX4_noneGives 1 (s := (80, [some (.ref 3072), some (.int (zI on_)), some (.int (zI b)), some (.long (zJ y10.1)), none, some (.int (zI y10.2))], [.int (lg_cmp (zJ y12) (zJ ((s8 b.toNat 3) * y16)))], [r0, r1, r2, zH s3 zL3 0, r4, r5, r6, r7, zH s8 (zLb ks) 0, r9])) rfl ?_
      obtain ⟨g19, H⟩ := zgd H
      have H := zif H
      refine xB.brE oX4_noneGives (P := y12 ≤ ((s8 b.toNat 3) * y16)) rfl (zl_le (a := y12) (b := (s8 b.toNat 3) * y16) g19) (fun h18 => ?_) (fun h18 => ?_)
      · have H := H.1 h18
        refine zB.inc oX4_noneGives rfl (lv2 := [some (.ref 3072), some (.int (zI on_)), some (.int (zI (b + 1))), some (.long (zJ y10.1)), none, some (.int (zI y10.2))]) (zi_inc (a := 0) (zi_addp1 b) _ rfl) ?_
        refine xB.run oX4_noneGives 1 (s := (2, [some (.ref 3072), some (.int (zI on_)), some (.int (zI (b + 1))), some (.long (zJ y10.1)), none, some (.int (zI y10.2))], [], [r0, r1, r2, zH s3 zL3 0, r4, r5, r6, r7, zH s8 (zLb ks) 0, r9])) rfl ?_
        refine xB.forget (lv1 := [some (.ref 3072), some (.int (zI on_)), some (.int (zI (b + 1))), none, none, none]) (xle_same (xle_same (xle_same (xle_none (xle_same (xle_none (xle_nil))))))) ?_
        exact ih (b + 1) H K
      · have H := H.2 h18
        refine xB.run oX4_noneGives 1 (s := (84, [some (.ref 3072), some (.int (zI on_)), some (.int (zI b)), some (.long (zJ y10.1)), none, some (.int (zI y10.2))], [.int (zI 0)], [r0, r1, r2, zH s3 zL3 0, r4, r5, r6, r7, zH s8 (zLb ks) 0, r9])) rfl ?_
        obtain rfl := Option.some.inj H
        obtain ⟨kr, kh⟩ := K.2 _ rfl
        subst kr kh
        exact xB.ret oX4_noneGives (r1 := some (.int (zI 0))) rfl rfl rfl
set_option maxRecDepth 20000 in
theorem t_X4_noneGives (r0 : List va_E) (r1 : List va_E) (r2 : List va_E) (s3 : zZ) (r4 : List va_E) (r5 : List va_E) (r6 : List va_E) (r7 : List va_E) (s8 : zZ) (r9 : List va_E) (ks : List Int) (on_ : Int) {rr : Int} (H : d_X4_noneGives s3 s8 ks on_ = some rr) : xC MX4_noneGives 3 [.ref 3072, .int (zI on_)] ([r0, r1, r2, zH s3 zL3 0, r4, r5, r6, r7, zH s8 (zLb ks) 0, r9]) (some (.int (zI rr))) ([r0, r1, r2, zH s3 zL3 0, r4, r5, r6, r7, zH s8 (zLb ks) 0, r9]) := by
  refine ⟨Nat.le_of_ble_eq_true rfl, ?_⟩
  show xBody MX4_noneGives 3 0 [some (.ref 3072), some (.int (zI on_)), none, none, none, none] [] ([r0, r1, r2, zH s3 zL3 0, r4, r5, r6, r7, zH s8 (zLb ks) 0, r9]) _ _
  unfold d_X4_noneGives at H
  refine xB.run oX4_noneGives 2 (s := (2, [some (.ref 3072), some (.int (zI on_)), some (.int (zI 0)), none, none, none], [], [r0, r1, r2, zH s3 zL3 0, r4, r5, r6, r7, zH s8 (zLb ks) 0, r9])) rfl ?_
  obtain ⟨y24, e25, H⟩ := zbd H
  refine l_X4_noneGives_2 r0 r1 r2 s3 r4 r5 r6 r7 s8 r9 ks on_ _ 0 e25 ?_
  refine ⟨fun y26 uQ => ?_, fun y27 uQ => ?_⟩
  · subst uQ
    refine xB.run oX4_noneGives 1 (s := (92, [some (.ref 3072), some (.int (zI on_)), some (.int (zI y26)), none, none, none], [.int (zI 1)], [r0, r1, r2, zH s3 zL3 0, r4, r5, r6, r7, zH s8 (zLb ks) 0, r9])) rfl ?_
    obtain rfl := Option.some.inj H
    exact xB.ret oX4_noneGives (r1 := some (.int (zI 1))) rfl rfl rfl
  · subst uQ
    obtain rfl := Option.some.inj H
    exact ⟨rfl, rfl⟩
def d_X4_orderedCase_8 (s8 : zZ) (ks : List Int) (set : Int) (pl : Int) : Nat → Int → zZ → Option (Int × zZ)
  | 0, _, _ => none
  | uN + 1, on_, s3 => if (zr on_) then (if on_ < 0 then some (on_, s3) else (if ((0 ≤ on_ ∧ zr on_) ∧ (0 ≤ set ∧ zr set)) then (if (zr (on_ - ((on_.toNat &&& set.toNat : Nat) : Int))) then (if (on_ - ((on_.toNat &&& set.toNat : Nat) : Int)) ≠ 0 then (if (0 ≤ on_ ∧ on_ < 64) then (d_X4_orderedCase_8 s8 ks set pl uN (on_ + (-1)) (upz s3 44 on_.toNat 0)) else none) else (if (zr on_ ∧ zr set) then (if on_ = set then ((d_X4_noneGives s3 s8 ks on_).bind fun y5 => if (zr y5) then (if y5 = 0 then (if (0 ≤ on_ ∧ on_ < 64) then (d_X4_orderedCase_8 s8 ks set pl uN (on_ + (-1)) (upz s3 44 on_.toNat 0)) else none) else (if (0 ≤ on_ ∧ on_ < 64) then (d_X4_orderedCase_8 s8 ks set pl uN (on_ + (-1)) (upz s3 44 on_.toNat 1)) else none)) else none) else ((d_X4_firstToPutOn s3 set on_).bind fun y11 => if (zr y11) then (if y11 < 0 then (if (0 ≤ on_ ∧ on_ < 64) then (d_X4_orderedCase_8 s8 ks set pl uN (on_ + (-1)) (upz s3 44 on_.toNat 0)) else none) else ((d_X4_noneGives s3 s8 ks on_).bind fun y15 => if (zr y15) then (if y15 = 0 then (if (0 ≤ on_ ∧ on_ < 64) then (d_X4_orderedCase_8 s8 ks set pl uN (on_ + (-1)) (upz s3 44 on_.toNat 0)) else none) else (if (0 ≤ on_ ∧ on_ < 64) then (d_X4_orderedCase_8 s8 ks set pl uN (on_ + (-1)) (upz s3 44 on_.toNat 1)) else none)) else none)) else none)) else none)) else none) else none)) else none
def d_X4_orderedCase_80 (s3 : zZ) (s8 : zZ) (ks : List Int) (set : Int) (pl : Int) : Nat → Int → Int → Int → Option (Int × Int × Int)
  | 0, _, _, _ => none
  | uN + 1, on_, latest, k => if (zr k ∧ zr pl) then (if pl < k then some (on_, latest, k) else (if (zr k) then (if (6 : Int) ≤ k then some (on_, latest, k) else (if (zr (s3 44 0)) then (if (s3 44 0) = 0 then (if ((0 ≤ on_ ∧ zr on_)) then (d_X4_orderedCase_80 s3 s8 ks set pl uN ((on_.toNat ||| (0 : Int).toNat : Nat) : Int) (-9) (k + 1)) else none) else ((d_X4_firstToPutOn s3 set on_).bind fun y32 => if (zr y32) then (if y32 < 0 then (if ((0 ≤ on_ ∧ zr on_)) then (d_X4_orderedCase_80 s3 s8 ks set pl uN ((on_.toNat ||| (0 : Int).toNat : Nat) : Int) y32 (k + 1)) else none) else (if (0 ≤ y32 ∧ y32 < 32) then (if ((0 ≤ on_ ∧ zr on_) ∧ (0 ≤ ((2 : Int) ^ y32.toNat) ∧ zr ((2 : Int) ^ y32.toNat))) then (d_X4_orderedCase_80 s3 s8 ks set pl uN ((on_.toNat ||| ((2 : Int) ^ y32.toNat).toNat : Nat) : Int) y32 (k + 1)) else none) else none)) else none)) else none)) else none)) else none
def d_X4_orderedCase (s3 : zZ) (s8 : zZ) (ks : List Int) (set : Int) (pl : Int) : Option (Int × zZ) := (d_X4_orderedCase_8 s8 ks set pl zF (64 - 1) s3).bind fun y26 => (d_X4_orderedCase_80 y26.2 s8 ks set pl zF 0 (-9) 0).bind fun y42 => some (y42.2.1, y26.2)
set_option maxRecDepth 20000 in
theorem l_X4_orderedCase_8 (r0 : List va_E) (r1 : List va_E) (r2 : List va_E) (r4 : List va_E) (r5 : List va_E) (r6 : List va_E) (r7 : List va_E) (s8 : zZ) (r9 : List va_E) (ks : List Int) (set : Int) (pl : Int) {r : Option Value} {hp1 : xH} : ∀ (uN : Nat) (on_ : Int) (s3 : zZ) {uX : Int × zZ}, d_X4_orderedCase_8 s8 ks set pl uN on_ s3 = some uX → (xBody MX4_orderedCase 4 71 [some (.ref 3072), some (.int (zI set)), some (.int (zI pl)), some (.int (zI uX.1)), none, none] [] ([r0, r1, r2, zH uX.2 zL3 0, r4, r5, r6, r7, zH s8 (zLb ks) 0, r9]) r hp1) → xBody MX4_orderedCase 4 8 [some (.ref 3072), some (.int (zI set)), some (.int (zI pl)), some (.int (zI on_)), none, none] [] ([r0, r1, r2, zH s3 zL3 0, r4, r5, r6, r7, zH s8 (zLb ks) 0, r9]) r hp1 := by
  intro uN
  induction uN with
  | zero => intro on_ s3 uX H K; cases H
  | succ uN ih =>
    intro on_ s3 uX H K
    unfold d_X4_orderedCase_8 at H
    refine xB.run oX4_orderedCase 1 (s := (9, [some (.ref 3072), some (.int (zI set)), some (.int (zI pl)), some (.int (zI on_)), none, none], [.int (zI on_)], [r0, r1, r2, zH s3 zL3 0, r4, r5, r6, r7, zH s8 (zLb ks) 0, r9])) rfl ?_
    obtain ⟨g25, H⟩ := zgd H
    have H := zif H
    refine xB.brE oX4_orderedCase (P := on_ < 0) rfl (zc_lt (a := on_) (b := 0) ⟨g25, by decide⟩) (fun h1 => ?_) (fun h1 => ?_)
    · have H := H.1 h1
      obtain rfl := Option.some.inj H
      exact K
    · have H := H.2 h1
      refine xB.run oX4_orderedCase 3 (s := (15, [some (.ref 3072), some (.int (zI set)), some (.int (zI pl)), some (.int (zI on_)), none, none], [.int (zI (-1)), .int (zI set), .int (zI on_)], [r0, r1, r2, zH s3 zL3 0, r4, r5, r6, r7, zH s8 (zLb ks) 0, r9])) rfl ?_
      refine zB.opi oX4_orderedCase rfl (zi_not set) ?_
      obtain ⟨g24, H⟩ := zgd H
      refine zB.opi oX4_orderedCase rfl (zi_andnot (a := on_) (b := set) g24.1 g24.2) ?_
      obtain ⟨g23, H⟩ := zgd H
      have H := zif H
      refine xB.brE oX4_orderedCase (P := (on_ - ((on_.toNat &&& set.toNat : Nat) : Int)) ≠ 0) rfl (zc_ne (a := on_ - ((on_.toNat &&& set.toNat : Nat) : Int)) (b := 0) ⟨g23, by decide⟩) (fun h2 => ?_) (fun h2 => ?_)
      · have H := H.1 h2
        refine xB.run oX4_orderedCase 8 (s := (64, [some (.ref 3072), some (.int (zI set)), some (.int (zI pl)), some (.int (zI on_)), some (.int (zI 0)), none], [.int (zI 0), .int (zI on_), .ref 3116], [r0, r1, r2, zH s3 zL3 0, r4, r5, r6, r7, zH s8 (zLb ks) 0, r9])) rfl ?_
        obtain ⟨g3, H⟩ := zgd H
        refine zB.bast oX4_orderedCase (g := 3) (p := 44) (N := 64) (i := on_) (hp1 := [r0, r1, r2, zH (upz s3 44 on_.toNat 0) zL3 0, r4, r5, r6, r7, zH s8 (zLb ks) 0, r9]) rfl rfl (by decide) (by decide) rfl rfl (by decide) (by decide) g3 rfl ?_
        refine zB.inc oX4_orderedCase rfl (lv2 := [some (.ref 3072), some (.int (zI set)), some (.int (zI pl)), some (.int (zI (on_ + (-1)))), some (.int (zI 0)), none]) (zi_inc (a := 0) (zi_addm1 on_) _ rfl) ?_
        refine xB.run oX4_orderedCase 1 (s := (8, [some (.ref 3072), some (.int (zI set)), some (.int (zI pl)), some (.int (zI (on_ + (-1)))), some (.int (zI 0)), none], [], [r0, r1, r2, zH (upz s3 44 on_.toNat 0) zL3 0, r4, r5, r6, r7, zH s8 (zLb ks) 0, r9])) rfl ?_
        refine xB.forget (lv1 := [some (.ref 3072), some (.int (zI set)), some (.int (zI pl)), some (.int (zI (on_ + (-1)))), none, none]) (xle_same (xle_same (xle_same (xle_same (xle_none (xle_same (xle_nil))))))) ?_
        exact ih (on_ + (-1)) (upz s3 44 on_.toNat 0) H K
      · have H := H.2 h2
        refine xB.run oX4_orderedCase 10 (s := (39, [some (.ref 3072), some (.int (zI set)), some (.int (zI pl)), some (.int (zI on_)), some (.int (zI 1)), none], [.int (zI set), .int (zI on_), .int (zI on_), .ref 3116], [r0, r1, r2, zH s3 zL3 0, r4, r5, r6, r7, zH s8 (zLb ks) 0, r9])) rfl ?_
        obtain ⟨g22, H⟩ := zgd H
        have H := zif H
        refine xB.brE oX4_orderedCase (P := on_ = set) rfl (zc_eq (a := on_) (b := set) g22) (fun h4 => ?_) (fun h4 => ?_)
        · have H := H.1 h4
          refine xB.run oX4_orderedCase 2 (s := (53, [some (.ref 3072), some (.int (zI set)), some (.int (zI pl)), some (.int (zI on_)), some (.int (zI 1)), none], [.int (zI on_), .ref 3072, .int (zI on_), .ref 3116], [r0, r1, r2, zH s3 zL3 0, r4, r5, r6, r7, zH s8 (zLb ks) 0, r9])) rfl ?_
          obtain ⟨y5, e6, H⟩ := zbd H
          refine xB.call oX4_orderedCase (M2 := MX4_noneGives) rfl rfl ((t_X4_noneGives r0 r1 r2 s3 r4 r5 r6 r7 s8 r9 ks on_ e6).deep (by decide : 3 ≤ 3)) ?_
          show xBody MX4_orderedCase 4 56 [some (.ref 3072), some (.int (zI set)), some (.int (zI pl)), some (.int (zI on_)), some (.int (zI 1)), none] [.int (zI y5), .int (zI on_), .ref 3116] ([r0, r1, r2, zH s3 zL3 0, r4, r5, r6, r7, zH s8 (zLb ks) 0, r9]) _ _
          obtain ⟨g10, H⟩ := zgd H
          have H := zif H
          refine xB.brE oX4_orderedCase (P := y5 = 0) rfl (zc_eq (a := y5) (b := 0) ⟨g10, by decide⟩) (fun h7 => ?_) (fun h7 => ?_)
          · have H := H.1 h7
            refine xB.run oX4_orderedCase 1 (s := (64, [some (.ref 3072), some (.int (zI set)), some (.int (zI pl)), some (.int (zI on_)), some (.int (zI 1)), none], [.int (zI 0), .int (zI on_), .ref 3116], [r0, r1, r2, zH s3 zL3 0, r4, r5, r6, r7, zH s8 (zLb ks) 0, r9])) rfl ?_
            obtain ⟨g8, H⟩ := zgd H
            refine zB.bast oX4_orderedCase (g := 3) (p := 44) (N := 64) (i := on_) (hp1 := [r0, r1, r2, zH (upz s3 44 on_.toNat 0) zL3 0, r4, r5, r6, r7, zH s8 (zLb ks) 0, r9]) rfl rfl (by decide) (by decide) rfl rfl (by decide) (by decide) g8 rfl ?_
            refine zB.inc oX4_orderedCase rfl (lv2 := [some (.ref 3072), some (.int (zI set)), some (.int (zI pl)), some (.int (zI (on_ + (-1)))), some (.int (zI 1)), none]) (zi_inc (a := 0) (zi_addm1 on_) _ rfl) ?_
            refine xB.run oX4_orderedCase 1 (s := (8, [some (.ref 3072), some (.int (zI set)), some (.int (zI pl)), some (.int (zI (on_ + (-1)))), some (.int (zI 1)), none], [], [r0, r1, r2, zH (upz s3 44 on_.toNat 0) zL3 0, r4, r5, r6, r7, zH s8 (zLb ks) 0, r9])) rfl ?_
            refine xB.forget (lv1 := [some (.ref 3072), some (.int (zI set)), some (.int (zI pl)), some (.int (zI (on_ + (-1)))), none, none]) (xle_same (xle_same (xle_same (xle_same (xle_none (xle_same (xle_nil))))))) ?_
            exact ih (on_ + (-1)) (upz s3 44 on_.toNat 0) H K
          · have H := H.2 h7
            refine xB.run oX4_orderedCase 2 (s := (64, [some (.ref 3072), some (.int (zI set)), some (.int (zI pl)), some (.int (zI on_)), some (.int (zI 1)), none], [.int (zI 1), .int (zI on_), .ref 3116], [r0, r1, r2, zH s3 zL3 0, r4, r5, r6, r7, zH s8 (zLb ks) 0, r9])) rfl ?_
            obtain ⟨g9, H⟩ := zgd H
            refine zB.bast oX4_orderedCase (g := 3) (p := 44) (N := 64) (i := on_) (hp1 := [r0, r1, r2, zH (upz s3 44 on_.toNat 1) zL3 0, r4, r5, r6, r7, zH s8 (zLb ks) 0, r9]) rfl rfl (by decide) (by decide) rfl rfl (by decide) (by decide) g9 rfl ?_
            refine zB.inc oX4_orderedCase rfl (lv2 := [some (.ref 3072), some (.int (zI set)), some (.int (zI pl)), some (.int (zI (on_ + (-1)))), some (.int (zI 1)), none]) (zi_inc (a := 0) (zi_addm1 on_) _ rfl) ?_
            refine xB.run oX4_orderedCase 1 (s := (8, [some (.ref 3072), some (.int (zI set)), some (.int (zI pl)), some (.int (zI (on_ + (-1)))), some (.int (zI 1)), none], [], [r0, r1, r2, zH (upz s3 44 on_.toNat 1) zL3 0, r4, r5, r6, r7, zH s8 (zLb ks) 0, r9])) rfl ?_
            refine xB.forget (lv1 := [some (.ref 3072), some (.int (zI set)), some (.int (zI pl)), some (.int (zI (on_ + (-1)))), none, none]) (xle_same (xle_same (xle_same (xle_same (xle_none (xle_same (xle_nil))))))) ?_
            exact ih (on_ + (-1)) (upz s3 44 on_.toNat 1) H K
        · have H := H.2 h4
          refine xB.run oX4_orderedCase 3 (s := (45, [some (.ref 3072), some (.int (zI set)), some (.int (zI pl)), some (.int (zI on_)), some (.int (zI 1)), none], [.int (zI on_), .int (zI set), .ref 3072, .int (zI on_), .ref 3116], [r0, r1, r2, zH s3 zL3 0, r4, r5, r6, r7, zH s8 (zLb ks) 0, r9])) rfl ?_
          obtain ⟨y11, e12, H⟩ := zbd H
          refine xB.call oX4_orderedCase (M2 := MX4_firstToPutOn) rfl rfl ((t_X4_firstToPutOn r0 r1 r2 s3 r4 r5 r6 r7 (zH s8 (zLb ks) 0) r9 set on_ e12).deep (by decide : 0 ≤ 3)) ?_
          show xBody MX4_orderedCase 4 48 [some (.ref 3072), some (.int (zI set)), some (.int (zI pl)), some (.int (zI on_)), some (.int (zI 1)), none] [.int (zI y11), .int (zI on_), .ref 3116] ([r0, r1, r2, zH s3 zL3 0, r4, r5, r6, r7, zH s8 (zLb ks) 0, r9]) _ _
          obtain ⟨g21, H⟩ := zgd H
          have H := zif H
          refine xB.brE oX4_orderedCase (P := y11 < 0) rfl (zc_lt (a := y11) (b := 0) ⟨g21, by decide⟩) (fun h13 => ?_) (fun h13 => ?_)
          · have H := H.1 h13
            refine xB.run oX4_orderedCase 1 (s := (64, [some (.ref 3072), some (.int (zI set)), some (.int (zI pl)), some (.int (zI on_)), some (.int (zI 1)), none], [.int (zI 0), .int (zI on_), .ref 3116], [r0, r1, r2, zH s3 zL3 0, r4, r5, r6, r7, zH s8 (zLb ks) 0, r9])) rfl ?_
            obtain ⟨g14, H⟩ := zgd H
            refine zB.bast oX4_orderedCase (g := 3) (p := 44) (N := 64) (i := on_) (hp1 := [r0, r1, r2, zH (upz s3 44 on_.toNat 0) zL3 0, r4, r5, r6, r7, zH s8 (zLb ks) 0, r9]) rfl rfl (by decide) (by decide) rfl rfl (by decide) (by decide) g14 rfl ?_
            refine zB.inc oX4_orderedCase rfl (lv2 := [some (.ref 3072), some (.int (zI set)), some (.int (zI pl)), some (.int (zI (on_ + (-1)))), some (.int (zI 1)), none]) (zi_inc (a := 0) (zi_addm1 on_) _ rfl) ?_
            refine xB.run oX4_orderedCase 1 (s := (8, [some (.ref 3072), some (.int (zI set)), some (.int (zI pl)), some (.int (zI (on_ + (-1)))), some (.int (zI 1)), none], [], [r0, r1, r2, zH (upz s3 44 on_.toNat 0) zL3 0, r4, r5, r6, r7, zH s8 (zLb ks) 0, r9])) rfl ?_
            refine xB.forget (lv1 := [some (.ref 3072), some (.int (zI set)), some (.int (zI pl)), some (.int (zI (on_ + (-1)))), none, none]) (xle_same (xle_same (xle_same (xle_same (xle_none (xle_same (xle_nil))))))) ?_
            exact ih (on_ + (-1)) (upz s3 44 on_.toNat 0) H K
          · have H := H.2 h13
            refine xB.run oX4_orderedCase 2 (s := (53, [some (.ref 3072), some (.int (zI set)), some (.int (zI pl)), some (.int (zI on_)), some (.int (zI 1)), none], [.int (zI on_), .ref 3072, .int (zI on_), .ref 3116], [r0, r1, r2, zH s3 zL3 0, r4, r5, r6, r7, zH s8 (zLb ks) 0, r9])) rfl ?_
            obtain ⟨y15, e16, H⟩ := zbd H
            refine xB.call oX4_orderedCase (M2 := MX4_noneGives) rfl rfl ((t_X4_noneGives r0 r1 r2 s3 r4 r5 r6 r7 s8 r9 ks on_ e16).deep (by decide : 3 ≤ 3)) ?_
            show xBody MX4_orderedCase 4 56 [some (.ref 3072), some (.int (zI set)), some (.int (zI pl)), some (.int (zI on_)), some (.int (zI 1)), none] [.int (zI y15), .int (zI on_), .ref 3116] ([r0, r1, r2, zH s3 zL3 0, r4, r5, r6, r7, zH s8 (zLb ks) 0, r9]) _ _
            obtain ⟨g20, H⟩ := zgd H
            have H := zif H
            refine xB.brE oX4_orderedCase (P := y15 = 0) rfl (zc_eq (a := y15) (b := 0) ⟨g20, by decide⟩) (fun h17 => ?_) (fun h17 => ?_)
            · have H := H.1 h17
              refine xB.run oX4_orderedCase 1 (s := (64, [some (.ref 3072), some (.int (zI set)), some (.int (zI pl)), some (.int (zI on_)), some (.int (zI 1)), none], [.int (zI 0), .int (zI on_), .ref 3116], [r0, r1, r2, zH s3 zL3 0, r4, r5, r6, r7, zH s8 (zLb ks) 0, r9])) rfl ?_
              obtain ⟨g18, H⟩ := zgd H
              refine zB.bast oX4_orderedCase (g := 3) (p := 44) (N := 64) (i := on_) (hp1 := [r0, r1, r2, zH (upz s3 44 on_.toNat 0) zL3 0, r4, r5, r6, r7, zH s8 (zLb ks) 0, r9]) rfl rfl (by decide) (by decide) rfl rfl (by decide) (by decide) g18 rfl ?_
              refine zB.inc oX4_orderedCase rfl (lv2 := [some (.ref 3072), some (.int (zI set)), some (.int (zI pl)), some (.int (zI (on_ + (-1)))), some (.int (zI 1)), none]) (zi_inc (a := 0) (zi_addm1 on_) _ rfl) ?_
              refine xB.run oX4_orderedCase 1 (s := (8, [some (.ref 3072), some (.int (zI set)), some (.int (zI pl)), some (.int (zI (on_ + (-1)))), some (.int (zI 1)), none], [], [r0, r1, r2, zH (upz s3 44 on_.toNat 0) zL3 0, r4, r5, r6, r7, zH s8 (zLb ks) 0, r9])) rfl ?_
              refine xB.forget (lv1 := [some (.ref 3072), some (.int (zI set)), some (.int (zI pl)), some (.int (zI (on_ + (-1)))), none, none]) (xle_same (xle_same (xle_same (xle_same (xle_none (xle_same (xle_nil))))))) ?_
              exact ih (on_ + (-1)) (upz s3 44 on_.toNat 0) H K
            · have H := H.2 h17
              refine xB.run oX4_orderedCase 2 (s := (64, [some (.ref 3072), some (.int (zI set)), some (.int (zI pl)), some (.int (zI on_)), some (.int (zI 1)), none], [.int (zI 1), .int (zI on_), .ref 3116], [r0, r1, r2, zH s3 zL3 0, r4, r5, r6, r7, zH s8 (zLb ks) 0, r9])) rfl ?_
              obtain ⟨g19, H⟩ := zgd H
              refine zB.bast oX4_orderedCase (g := 3) (p := 44) (N := 64) (i := on_) (hp1 := [r0, r1, r2, zH (upz s3 44 on_.toNat 1) zL3 0, r4, r5, r6, r7, zH s8 (zLb ks) 0, r9]) rfl rfl (by decide) (by decide) rfl rfl (by decide) (by decide) g19 rfl ?_
              refine zB.inc oX4_orderedCase rfl (lv2 := [some (.ref 3072), some (.int (zI set)), some (.int (zI pl)), some (.int (zI (on_ + (-1)))), some (.int (zI 1)), none]) (zi_inc (a := 0) (zi_addm1 on_) _ rfl) ?_
              refine xB.run oX4_orderedCase 1 (s := (8, [some (.ref 3072), some (.int (zI set)), some (.int (zI pl)), some (.int (zI (on_ + (-1)))), some (.int (zI 1)), none], [], [r0, r1, r2, zH (upz s3 44 on_.toNat 1) zL3 0, r4, r5, r6, r7, zH s8 (zLb ks) 0, r9])) rfl ?_
              refine xB.forget (lv1 := [some (.ref 3072), some (.int (zI set)), some (.int (zI pl)), some (.int (zI (on_ + (-1)))), none, none]) (xle_same (xle_same (xle_same (xle_same (xle_none (xle_same (xle_nil))))))) ?_
              exact ih (on_ + (-1)) (upz s3 44 on_.toNat 1) H K
set_option maxRecDepth 20000 in
theorem l_X4_orderedCase_80 (r0 : List va_E) (r1 : List va_E) (r2 : List va_E) (s3 : zZ) (r4 : List va_E) (r5 : List va_E) (r6 : List va_E) (r7 : List va_E) (s8 : zZ) (r9 : List va_E) (ks : List Int) (set : Int) (pl : Int) {r : Option Value} {hp1 : xH} : ∀ (uN : Nat) (on_ : Int) (latest : Int) (k : Int) {uX : Int × Int × Int}, d_X4_orderedCase_80 s3 s8 ks set pl uN on_ latest k = some uX → (xBody MX4_orderedCase 4 137 [some (.ref 3072), some (.int (zI set)), some (.int (zI pl)), some (.int (zI uX.1)), some (.int (zI uX.2.1)), some (.int (zI uX.2.2))] [] ([r0, r1, r2, zH s3 zL3 0, r4, r5, r6, r7, zH s8 (zLb ks) 0, r9]) r hp1) → xBody MX4_orderedCase 4 80 [some (.ref 3072), some (.int (zI set)), some (.int (zI pl)), some (.int (zI on_)), some (.int (zI latest)), some (.int (zI k))] [] ([r0, r1, r2, zH s3 zL3 0, r4, r5, r6, r7, zH s8 (zLb ks) 0, r9]) r hp1 := by
  intro uN
  induction uN with
  | zero => intro on_ latest k uX H K; cases H
  | succ uN ih =>
    intro on_ latest k uX H K
    unfold d_X4_orderedCase_80 at H
    refine xB.run oX4_orderedCase 2 (s := (83, [some (.ref 3072), some (.int (zI set)), some (.int (zI pl)), some (.int (zI on_)), some (.int (zI latest)), some (.int (zI k))], [.int (zI pl), .int (zI k)], [r0, r1, r2, zH s3 zL3 0, r4, r5, r6, r7, zH s8 (zLb ks) 0, r9])) rfl ?_
    obtain ⟨g41, H⟩ := zgd H
    have H := zif H
    refine xB.brE oX4_orderedCase (P := pl < k) rfl (zc_gt (a := k) (b := pl) g41) (fun h28 => ?_) (fun h28 => ?_)
    · have H := H.1 h28
      obtain rfl := Option.some.inj H
      exact K
    · have H := H.2 h28
      refine xB.run oX4_orderedCase 2 (s := (90, [some (.ref 3072), some (.int (zI set)), some (.int (zI pl)), some (.int (zI on_)), some (.int (zI latest)), some (.int (zI k))], [.int (zI 6), .int (zI k)], [r0, r1, r2, zH s3 zL3 0, r4, r5, r6, r7, zH s8 (zLb ks) 0, r9])) rfl ?_
      obtain ⟨g40, H⟩ := zgd H
      have H := zif H
      refine xB.brE oX4_orderedCase (P := (6 : Int) ≤ k) rfl (zc_ge (a := k) (b := 6) ⟨g40, by decide⟩) (fun h29 => ?_) (fun h29 => ?_)
      · have H := H.1 h29
        obtain rfl := Option.some.inj H
        exact K
      · have H := H.2 h29
        refine xB.run oX4_orderedCase 3 (s := (98, [some (.ref 3072), some (.int (zI set)), some (.int (zI pl)), some (.int (zI on_)), some (.int (zI latest)), some (.int (zI k))], [.int (zI 0), .ref 3116], [r0, r1, r2, zH s3 zL3 0, r4, r5, r6, r7, zH s8 (zLb ks) 0, r9])) rfl ?_
        refine zB.bald oX4_orderedCase (g := 3) (p := 44) (N := 64) (i := 0) rfl rfl (by decide) rfl rfl (by decide) (by decide) ?_
        obtain ⟨g39, H⟩ := zgd H
        have H := zif H
        refine xB.brE oX4_orderedCase (P := (s3 44 0) = 0) rfl (zc_eq (a := s3 44 0) (b := 0) ⟨g39, by decide⟩) (fun h30 => ?_) (fun h30 => ?_)
        · have H := H.1 h30
          refine xB.run oX4_orderedCase 6 (s := (129, [some (.ref 3072), some (.int (zI set)), some (.int (zI pl)), some (.int (zI on_)), some (.int (zI (-9))), some (.int (zI k))], [.int (zI 0), .int (zI on_)], [r0, r1, r2, zH s3 zL3 0, r4, r5, r6, r7, zH s8 (zLb ks) 0, r9])) rfl ?_
          obtain ⟨g31, H⟩ := zgd H
          refine zB.opi oX4_orderedCase rfl (zi_or (a := on_) (b := 0) g31 (by decide)) ?_
          refine xB.run oX4_orderedCase 1 (s := (131, [some (.ref 3072), some (.int (zI set)), some (.int (zI pl)), some (.int (zI ((on_.toNat ||| (0 : Int).toNat : Nat) : Int))), some (.int (zI (-9))), some (.int (zI k))], [], [r0, r1, r2, zH s3 zL3 0, r4, r5, r6, r7, zH s8 (zLb ks) 0, r9])) rfl ?_
          refine zB.inc oX4_orderedCase rfl (lv2 := [some (.ref 3072), some (.int (zI set)), some (.int (zI pl)), some (.int (zI ((on_.toNat ||| (0 : Int).toNat : Nat) : Int))), some (.int (zI (-9))), some (.int (zI (k + 1)))]) (zi_inc (a := 0) (zi_addp1 k) _ rfl) ?_
          refine xB.run oX4_orderedCase 1 (s := (80, [some (.ref 3072), some (.int (zI set)), some (.int (zI pl)), some (.int (zI ((on_.toNat ||| (0 : Int).toNat : Nat) : Int))), some (.int (zI (-9))), some (.int (zI (k + 1)))], [], [r0, r1, r2, zH s3 zL3 0, r4, r5, r6, r7, zH s8 (zLb ks) 0, r9])) rfl ?_
          exact ih ((on_.toNat ||| (0 : Int).toNat : Nat) : Int) (-9) (k + 1) H K
        · have H := H.2 h30
          refine xB.run oX4_orderedCase 3 (s := (105, [some (.ref 3072), some (.int (zI set)), some (.int (zI pl)), some (.int (zI on_)), some (.int (zI latest)), some (.int (zI k))], [.int (zI on_), .int (zI set), .ref 3072], [r0, r1, r2, zH s3 zL3 0, r4, r5, r6, r7, zH s8 (zLb ks) 0, r9])) rfl ?_
          obtain ⟨y32, e33, H⟩ := zbd H
          refine xB.call oX4_orderedCase (M2 := MX4_firstToPutOn) rfl rfl ((t_X4_firstToPutOn r0 r1 r2 s3 r4 r5 r6 r7 (zH s8 (zLb ks) 0) r9 set on_ e33).deep (by decide : 0 ≤ 3)) ?_
          show xBody MX4_orderedCase 4 108 [some (.ref 3072), some (.int (zI set)), some (.int (zI pl)), some (.int (zI on_)), some (.int (zI latest)), some (.int (zI k))] [.int (zI y32)] ([r0, r1, r2, zH s3 zL3 0, r4, r5, r6, r7, zH s8 (zLb ks) 0, r9]) _ _
          refine xB.run oX4_orderedCase 4 (s := (118, [some (.ref 3072), some (.int (zI set)), some (.int (zI pl)), some (.int (zI on_)), some (.int (zI y32)), some (.int (zI k))], [.int (zI y32), .int (zI on_)], [r0, r1, r2, zH s3 zL3 0, r4, r5, r6, r7, zH s8 (zLb ks) 0, r9])) rfl ?_
          obtain ⟨g38, H⟩ := zgd H
          have H := zif H
          refine xB.brE oX4_orderedCase (P := y32 < 0) rfl (zc_lt (a := y32) (b := 0) ⟨g38, by decide⟩) (fun h34 => ?_) (fun h34 => ?_)
          · have H := H.1 h34
            refine xB.run oX4_orderedCase 1 (s := (129, [some (.ref 3072), some (.int (zI set)), some (.int (zI pl)), some (.int (zI on_)), some (.int (zI y32)), some (.int (zI k))], [.int (zI 0), .int (zI on_)], [r0, r1, r2, zH s3 zL3 0, r4, r5, r6, r7, zH s8 (zLb ks) 0, r9])) rfl ?_
            obtain ⟨g35, H⟩ := zgd H
            refine zB.opi oX4_orderedCase rfl (zi_or (a := on_) (b := 0) g35 (by decide)) ?_
            refine xB.run oX4_orderedCase 1 (s := (131, [some (.ref 3072), some (.int (zI set)), some (.int (zI pl)), some (.int (zI ((on_.toNat ||| (0 : Int).toNat : Nat) : Int))), some (.int (zI y32)), some (.int (zI k))], [], [r0, r1, r2, zH s3 zL3 0, r4, r5, r6, r7, zH s8 (zLb ks) 0, r9])) rfl ?_
            refine zB.inc oX4_orderedCase rfl (lv2 := [some (.ref 3072), some (.int (zI set)), some (.int (zI pl)), some (.int (zI ((on_.toNat ||| (0 : Int).toNat : Nat) : Int))), some (.int (zI y32)), some (.int (zI (k + 1)))]) (zi_inc (a := 0) (zi_addp1 k) _ rfl) ?_
            refine xB.run oX4_orderedCase 1 (s := (80, [some (.ref 3072), some (.int (zI set)), some (.int (zI pl)), some (.int (zI ((on_.toNat ||| (0 : Int).toNat : Nat) : Int))), some (.int (zI y32)), some (.int (zI (k + 1)))], [], [r0, r1, r2, zH s3 zL3 0, r4, r5, r6, r7, zH s8 (zLb ks) 0, r9])) rfl ?_
            exact ih ((on_.toNat ||| (0 : Int).toNat : Nat) : Int) y32 (k + 1) H K
          · have H := H.2 h34
            refine xB.run oX4_orderedCase 2 (s := (124, [some (.ref 3072), some (.int (zI set)), some (.int (zI pl)), some (.int (zI on_)), some (.int (zI y32)), some (.int (zI k))], [.int (zI y32), .int (zI 1), .int (zI on_)], [r0, r1, r2, zH s3 zL3 0, r4, r5, r6, r7, zH s8 (zLb ks) 0, r9])) rfl ?_
            obtain ⟨g37, H⟩ := zgd H
            refine zB.opi oX4_orderedCase (y := (2 : Int) ^ y32.toNat) rfl (zi_shl1 (c := y32) g37) ?_
            refine xB.run oX4_orderedCase 1 (s := (129, [some (.ref 3072), some (.int (zI set)), some (.int (zI pl)), some (.int (zI on_)), some (.int (zI y32)), some (.int (zI k))], [.int (zI ((2 : Int) ^ y32.toNat)), .int (zI on_)], [r0, r1, r2, zH s3 zL3 0, r4, r5, r6, r7, zH s8 (zLb ks) 0, r9])) rfl ?_
            obtain ⟨g36, H⟩ := zgd H
            refine zB.opi oX4_orderedCase rfl (zi_or (a := on_) (b := (2 : Int) ^ y32.toNat) g36.1 g36.2) ?_
            refine xB.run oX4_orderedCase 1 (s := (131, [some (.ref 3072), some (.int (zI set)), some (.int (zI pl)), some (.int (zI ((on_.toNat ||| ((2 : Int) ^ y32.toNat).toNat : Nat) : Int))), some (.int (zI y32)), some (.int (zI k))], [], [r0, r1, r2, zH s3 zL3 0, r4, r5, r6, r7, zH s8 (zLb ks) 0, r9])) rfl ?_
            refine zB.inc oX4_orderedCase rfl (lv2 := [some (.ref 3072), some (.int (zI set)), some (.int (zI pl)), some (.int (zI ((on_.toNat ||| ((2 : Int) ^ y32.toNat).toNat : Nat) : Int))), some (.int (zI y32)), some (.int (zI (k + 1)))]) (zi_inc (a := 0) (zi_addp1 k) _ rfl) ?_
            refine xB.run oX4_orderedCase 1 (s := (80, [some (.ref 3072), some (.int (zI set)), some (.int (zI pl)), some (.int (zI ((on_.toNat ||| ((2 : Int) ^ y32.toNat).toNat : Nat) : Int))), some (.int (zI y32)), some (.int (zI (k + 1)))], [], [r0, r1, r2, zH s3 zL3 0, r4, r5, r6, r7, zH s8 (zLb ks) 0, r9])) rfl ?_
            exact ih ((on_.toNat ||| ((2 : Int) ^ y32.toNat).toNat : Nat) : Int) y32 (k + 1) H K
set_option maxRecDepth 20000 in
theorem t_X4_orderedCase (r0 : List va_E) (r1 : List va_E) (r2 : List va_E) (s3 : zZ) (r4 : List va_E) (r5 : List va_E) (r6 : List va_E) (r7 : List va_E) (s8 : zZ) (r9 : List va_E) (ks : List Int) (set : Int) (pl : Int) {rr : Int × zZ} (H : d_X4_orderedCase s3 s8 ks set pl = some rr) : xC MX4_orderedCase 4 [.ref 3072, .int (zI set), .int (zI pl)] ([r0, r1, r2, zH s3 zL3 0, r4, r5, r6, r7, zH s8 (zLb ks) 0, r9]) (some (.int (zI rr.1))) ([r0, r1, r2, zH rr.2 zL3 0, r4, r5, r6, r7, zH s8 (zLb ks) 0, r9]) := by
  refine ⟨Nat.le_of_ble_eq_true rfl, ?_⟩
  show xBody MX4_orderedCase 4 0 [some (.ref 3072), some (.int (zI set)), some (.int (zI pl)), none, none, none] [] ([r0, r1, r2, zH s3 zL3 0, r4, r5, r6, r7, zH s8 (zLb ks) 0, r9]) _ _
  unfold d_X4_orderedCase at H
  refine xB.run oX4_orderedCase 4 (s := (6, [some (.ref 3072), some (.int (zI set)), some (.int (zI pl)), none, none, none], [.int (zI 1), .int (zI 64)], [r0, r1, r2, zH s3 zL3 0, r4, r5, r6, r7, zH s8 (zLb ks) 0, r9])) rfl ?_
  refine zB.opi oX4_orderedCase rfl (zi_sub 64 1) ?_
  refine xB.run oX4_orderedCase 1 (s := (8, [some (.ref 3072), some (.int (zI set)), some (.int (zI pl)), some (.int (zI (64 - 1))), none, none], [], [r0, r1, r2, zH s3 zL3 0, r4, r5, r6, r7, zH s8 (zLb ks) 0, r9])) rfl ?_
  obtain ⟨y26, e27, H⟩ := zbd H
  refine l_X4_orderedCase_8 r0 r1 r2 r4 r5 r6 r7 s8 r9 ks set pl _ (64 - 1) s3 e27 ?_
  refine xB.run oX4_orderedCase 6 (s := (80, [some (.ref 3072), some (.int (zI set)), some (.int (zI pl)), some (.int (zI 0)), some (.int (zI (-9))), some (.int (zI 0))], [], [r0, r1, r2, zH y26.2 zL3 0, r4, r5, r6, r7, zH s8 (zLb ks) 0, r9])) rfl ?_
  obtain ⟨y42, e43, H⟩ := zbd H
  refine l_X4_orderedCase_80 r0 r1 r2 y26.2 r4 r5 r6 r7 s8 r9 ks set pl _ 0 (-9) 0 e43 ?_
  refine xB.run oX4_orderedCase 1 (s := (139, [some (.ref 3072), some (.int (zI set)), some (.int (zI pl)), some (.int (zI y42.1)), some (.int (zI y42.2.1)), some (.int (zI y42.2.2))], [.int (zI y42.2.1)], [r0, r1, r2, zH y26.2 zL3 0, r4, r5, r6, r7, zH s8 (zLb ks) 0, r9])) rfl ?_
  obtain rfl := Option.some.inj H
  exact xB.ret oX4_orderedCase (r1 := some (.int (zI y42.2.1))) rfl rfl rfl
