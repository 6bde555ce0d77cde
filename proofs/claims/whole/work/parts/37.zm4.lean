/-! 37.zm4 -/
def d_X12_limit_45 (s7 : zZ) (c : Int) (wh : Int) : Nat → Int → Int → Int → Int → Option (Int × Int × Int × Int)
  | 0, _, _, _, _ => none
  | uN + 1, best, bu, bd, b => if (zr b ∧ zr (s7 0 25)) then (if (s7 0 25) ≤ b then some (best, bu, bd, b) else (if (0 ≤ b ∧ b < 16) then (if zr (s7 19 b.toNat) then ((d_X12_downOf s7 b).bind fun y11 => (d_X12_size y11).bind fun y13 => (d_X12_upOf s7 b).bind fun y15 => (d_X12_size y15).bind fun y17 => if (zrl y17) then (if y17 = 0 then (d_X12_limit_45 s7 c wh uN best bu bd (b + 1)) else (if (zr best) then (if best = (-9) then (d_X12_limit_45 s7 c wh uN b ((s7 19 b.toNat) * y13) y17 (b + 1)) else (if (zrl (((s7 19 b.toNat) * y13) * bd) ∧ zrl (bu * y17)) then (if (bu * y17) ≤ (((s7 19 b.toNat) * y13) * bd) then (d_X12_limit_45 s7 c wh uN best bu bd (b + 1)) else (d_X12_limit_45 s7 c wh uN b ((s7 19 b.toNat) * y13) y17 (b + 1))) else none)) else none)) else none) else none) else none)) else none
def d_X12_limit (s7 : zZ) (c : Int) (wh : Int) : Option (Int × zZ) := (d_X12_isCase c).bind fun y1 => if (zr y1) then (if y1 = 0 then some ((-9223372036854775808), s7) else (if zr wh then ((d_X12_within wh 0 2).bind fun y4 => if (zr y4) then (if y4 = 0 then some ((-9223372036854775808), s7) else (if (0 ≤ c ∧ c < 32) then ((d_X12_isTold s7 ((2 : Int) ^ c.toNat)).bind fun y7 => if (zr y7.1) then (if y7.1 ≠ 0 then ((d_X12_limit_45 y7.2 c wh zF (-9) 0 1 0).bind fun y28 => if (zr y28.1) then (if y28.1 = (-9) then (if zr y28.1 then some (y28.1, y7.2) else none) else (if (zr wh) then (if wh ≠ 2 then ((d_X12_part y28.2.1 y28.2.2.1 wh).bind fun y33 => some (y33, y7.2)) else (if zr y28.1 then some (y28.1, y7.2) else none)) else none)) else none) else some ((-9223372036854775808), y7.2)) else none) else none)) else none) else none)) else none
set_option maxRecDepth 20000 in
theorem l_X12_limit_45 (r0 : List va_E) (r1 : List va_E) (r2 : List va_E) (r3 : List va_E) (r4 : List va_E) (r5 : List va_E) (r6 : List va_E) (s7 : zZ) (r8 : List va_E) (r9 : List va_E) (c : Int) (wh : Int) {r : Option Value} {hp1 : xH} : ∀ (uN : Nat) (best : Int) (bu : Int) (bd : Int) (b : Int) {uX : Int × Int × Int × Int}, d_X12_limit_45 s7 c wh uN best bu bd b = some uX → (xBody MX12_limit 6 129 [some (.ref 7168), some (.int (zI c)), some (.int (zI wh)), some (.int (zI uX.1)), some (.long (zJ uX.2.1)), none, some (.long (zJ uX.2.2.1)), none, some (.int (zI uX.2.2.2)), none, none, none, none] [] ([r0, r1, r2, r3, r4, r5, r6, zH s7 zL7 0, r8, r9]) r hp1) → xBody MX12_limit 6 45 [some (.ref 7168), some (.int (zI c)), some (.int (zI wh)), some (.int (zI best)), some (.long (zJ bu)), none, some (.long (zJ bd)), none, some (.int (zI b)), none, none, none, none] [] ([r0, r1, r2, r3, r4, r5, r6, zH s7 zL7 0, r8, r9]) r hp1 := by
  intro uN
  induction uN with
  | zero => intro best bu bd b uX H K; cases H
  | succ uN ih =>
    intro best bu bd b uX H K
    unfold d_X12_limit_45 at H
    refine xB.run oX12_limit 3 (s := (51, [some (.ref 7168), some (.int (zI c)), some (.int (zI wh)), some (.int (zI best)), some (.long (zJ bu)), none, some (.long (zJ bd)), none, some (.int (zI b)), none, none, none, none], [.int (zI (s7 0 25)), .int (zI b)], [r0, r1, r2, r3, r4, r5, r6, zH s7 zL7 0, r8, r9])) rfl ?_
    obtain ⟨g27, H⟩ := zgd H
    have H := zif H
    refine xB.brE oX12_limit (P := (s7 0 25) ≤ b) rfl (zc_ge (a := b) (b := s7 0 25) g27) (fun h10 => ?_) (fun h10 => ?_)
    · have H := H.1 h10
      obtain rfl := Option.some.inj H
      exact K
    · have H := H.2 h10
      refine xB.run oX12_limit 3 (s := (60, [some (.ref 7168), some (.int (zI c)), some (.int (zI wh)), some (.int (zI best)), some (.long (zJ bu)), none, some (.long (zJ bd)), none, some (.int (zI b)), none, none, none, none], [.int (zI b), .ref 7187], [r0, r1, r2, r3, r4, r5, r6, zH s7 zL7 0, r8, r9])) rfl ?_
      obtain ⟨g26, H⟩ := zgd H
      refine zB.iald oX12_limit (g := 7) (p := 19) (N := 16) (i := b) rfl rfl (by decide) rfl rfl (by decide) g26 ?_
      obtain ⟨g25, H⟩ := zgd H
      refine zB.opl oX12_limit rfl (zi_i2l g25) ?_
      refine xB.run oX12_limit 2 (s := (65, [some (.ref 7168), some (.int (zI c)), some (.int (zI wh)), some (.int (zI best)), some (.long (zJ bu)), none, some (.long (zJ bd)), none, some (.int (zI b)), none, none, none, none], [.int (zI b), .ref 7168, .long (zJ (s7 19 b.toNat))], [r0, r1, r2, r3, r4, r5, r6, zH s7 zL7 0, r8, r9])) rfl ?_
      obtain ⟨y11, e12, H⟩ := zbd H
      refine xB.call oX12_limit (M2 := MX12_downOf) rfl rfl ((t_X12_downOf r0 r1 r2 r3 r4 r5 r6 s7 r8 r9 b e12).deep (by decide : 0 ≤ 5)) ?_
      show xBody MX12_limit 6 68 [some (.ref 7168), some (.int (zI c)), some (.int (zI wh)), some (.int (zI best)), some (.long (zJ bu)), none, some (.long (zJ bd)), none, some (.int (zI b)), none, none, none, none] [.long (zJ y11), .long (zJ (s7 19 b.toNat))] ([r0, r1, r2, r3, r4, r5, r6, zH s7 zL7 0, r8, r9]) _ _
      obtain ⟨y13, e14, H⟩ := zbd H
      refine xB.call oX12_limit (M2 := MX12_size) rfl rfl ((t_X12_size r0 r1 r2 r3 r4 r5 r6 (zH s7 zL7 0) r8 r9 y11 e14).deep (by decide : 0 ≤ 5)) ?_
      show xBody MX12_limit 6 71 [some (.ref 7168), some (.int (zI c)), some (.int (zI wh)), some (.int (zI best)), some (.long (zJ bu)), none, some (.long (zJ bd)), none, some (.int (zI b)), none, none, none, none] [.long (zJ y13), .long (zJ (s7 19 b.toNat))] ([r0, r1, r2, r3, r4, r5, r6, zH s7 zL7 0, r8, r9]) _ _
      refine zB.opl oX12_limit rfl (zj_mul (s7 19 b.toNat) y13) ?_
      refine xB.run oX12_limit 3 (s := (77, [some (.ref 7168), some (.int (zI c)), some (.int (zI wh)), some (.int (zI best)), some (.long (zJ bu)), none, some (.long (zJ bd)), none, some (.int (zI b)), some (.long (zJ ((s7 19 b.toNat) * y13))), none, none, none], [.int (zI b), .ref 7168], [r0, r1, r2, r3, r4, r5, r6, zH s7 zL7 0, r8, r9])) rfl ?_
      obtain ⟨y15, e16, H⟩ := zbd H
      refine xB.call oX12_limit (M2 := MX12_upOf) rfl rfl ((t_X12_upOf r0 r1 r2 r3 r4 r5 r6 s7 r8 r9 b e16).deep (by decide : 0 ≤ 5)) ?_
      show xBody MX12_limit 6 80 [some (.ref 7168), some (.int (zI c)), some (.int (zI wh)), some (.int (zI best)), some (.long (zJ bu)), none, some (.long (zJ bd)), none, some (.int (zI b)), some (.long (zJ ((s7 19 b.toNat) * y13))), none, none, none] [.long (zJ y15)] ([r0, r1, r2, r3, r4, r5, r6, zH s7 zL7 0, r8, r9]) _ _
      obtain ⟨y17, e18, H⟩ := zbd H
      refine xB.call oX12_limit (M2 := MX12_size) rfl rfl ((t_X12_size r0 r1 r2 r3 r4 r5 r6 (zH s7 zL7 0) r8 r9 y15 e18).deep (by decide : 0 ≤ 5)) ?_
      show xBody MX12_limit 6 83 [some (.ref 7168), some (.int (zI c)), some (.int (zI wh)), some (.int (zI best)), some (.long (zJ bu)), none, some (.long (zJ bd)), none, some (.int (zI b)), some (.long (zJ ((s7 19 b.toNat) * y13))), none, none, none] [.long (zJ y17)] ([r0, r1, r2, r3, r4, r5, r6, zH s7 zL7 0, r8, r9]) _ _
      refine xB.run oX12_limit 4 (s := (89, [some (.ref 7168), some (.int (zI c)), some (.int (zI wh)), some (.int (zI best)), some (.long (zJ bu)), none, some (.long (zJ bd)), none, some (.int (zI b)), some (.long (zJ ((s7 19 b.toNat) * y13))), none, some (.long (zJ y17)), none], [.int (lg_cmp (zJ y17) (zJ 0))], [r0, r1, r2, r3, r4, r5, r6, zH s7 zL7 0, r8, r9])) rfl ?_
      obtain ⟨g24, H⟩ := zgd H
      have H := zif H
      refine xB.brE oX12_limit (P := y17 = 0) rfl (zl_eq (a := y17) (b := 0) ⟨g24, by decide⟩) (fun h19 => ?_) (fun h19 => ?_)
      · have H := H.1 h19
        refine zB.inc oX12_limit rfl (lv2 := [some (.ref 7168), some (.int (zI c)), some (.int (zI wh)), some (.int (zI best)), some (.long (zJ bu)), none, some (.long (zJ bd)), none, some (.int (zI (b + 1))), some (.long (zJ ((s7 19 b.toNat) * y13))), none, some (.long (zJ y17)), none]) (zi_inc (a := 0) (zi_addp1 b) _ rfl) ?_
        refine xB.run oX12_limit 1 (s := (45, [some (.ref 7168), some (.int (zI c)), some (.int (zI wh)), some (.int (zI best)), some (.long (zJ bu)), none, some (.long (zJ bd)), none, some (.int (zI (b + 1))), some (.long (zJ ((s7 19 b.toNat) * y13))), none, some (.long (zJ y17)), none], [], [r0, r1, r2, r3, r4, r5, r6, zH s7 zL7 0, r8, r9])) rfl ?_
        refine xB.forget (lv1 := [some (.ref 7168), some (.int (zI c)), some (.int (zI wh)), some (.int (zI best)), some (.long (zJ bu)), none, some (.long (zJ bd)), none, some (.int (zI (b + 1))), none, none, none, none]) (xle_same (xle_same (xle_same (xle_same (xle_same (xle_same (xle_same (xle_same (xle_same (xle_none (xle_same (xle_none (xle_same (xle_nil)))))))))))))) ?_
        exact ih best bu bd (b + 1) H K
      · have H := H.2 h19
        refine xB.run oX12_limit 2 (s := (95, [some (.ref 7168), some (.int (zI c)), some (.int (zI wh)), some (.int (zI best)), some (.long (zJ bu)), none, some (.long (zJ bd)), none, some (.int (zI b)), some (.long (zJ ((s7 19 b.toNat) * y13))), none, some (.long (zJ y17)), none], [.int (zI (-9)), .int (zI best)], [r0, r1, r2, r3, r4, r5, r6, zH s7 zL7 0, r8, r9])) rfl ?_
        obtain ⟨g23, H⟩ := zgd H
        have H := zif H
        refine xB.brE oX12_limit (P := best = (-9)) rfl (zc_eq (a := best) (b := (-9)) ⟨g23, by decide⟩) (fun h20 => ?_) (fun h20 => ?_)
        · have H := H.1 h20
          refine xB.run oX12_limit 6 (s := (123, [some (.ref 7168), some (.int (zI c)), some (.int (zI wh)), some (.int (zI b)), some (.long (zJ ((s7 19 b.toNat) * y13))), none, some (.long (zJ y17)), none, some (.int (zI b)), some (.long (zJ ((s7 19 b.toNat) * y13))), none, some (.long (zJ y17)), none], [], [r0, r1, r2, r3, r4, r5, r6, zH s7 zL7 0, r8, r9])) rfl ?_
          refine zB.inc oX12_limit rfl (lv2 := [some (.ref 7168), some (.int (zI c)), some (.int (zI wh)), some (.int (zI b)), some (.long (zJ ((s7 19 b.toNat) * y13))), none, some (.long (zJ y17)), none, some (.int (zI (b + 1))), some (.long (zJ ((s7 19 b.toNat) * y13))), none, some (.long (zJ y17)), none]) (zi_inc (a := 0) (zi_addp1 b) _ rfl) ?_
          refine xB.run oX12_limit 1 (s := (45, [some (.ref 7168), some (.int (zI c)), some (.int (zI wh)), some (.int (zI b)), some (.long (zJ ((s7 19 b.toNat) * y13))), none, some (.long (zJ y17)), none, some (.int (zI (b + 1))), some (.long (zJ ((s7 19 b.toNat) * y13))), none, some (.long (zJ y17)), none], [], [r0, r1, r2, r3, r4, r5, r6, zH s7 zL7 0, r8, r9])) rfl ?_
          refine xB.forget (lv1 := [some (.ref 7168), some (.int (zI c)), some (.int (zI wh)), some (.int (zI b)), some (.long (zJ ((s7 19 b.toNat) * y13))), none, some (.long (zJ y17)), none, some (.int (zI (b + 1))), none, none, none, none]) (xle_same (xle_same (xle_same (xle_same (xle_same (xle_same (xle_same (xle_same (xle_same (xle_none (xle_same (xle_none (xle_same (xle_nil)))))))))))))) ?_
          exact ih b ((s7 19 b.toNat) * y13) y17 (b + 1) H K
        · have H := H.2 h20
          refine xB.run oX12_limit 2 (s := (102, [some (.ref 7168), some (.int (zI c)), some (.int (zI wh)), some (.int (zI best)), some (.long (zJ bu)), none, some (.long (zJ bd)), none, some (.int (zI b)), some (.long (zJ ((s7 19 b.toNat) * y13))), none, some (.long (zJ y17)), none], [.long (zJ bd), .long (zJ ((s7 19 b.toNat) * y13))], [r0, r1, r2, r3, r4, r5, r6, zH s7 zL7 0, r8, r9])) rfl ?_
          refine zB.opl oX12_limit rfl (zj_mul ((s7 19 b.toNat) * y13) bd) ?_
          refine xB.run oX12_limit 2 (s := (107, [some (.ref 7168), some (.int (zI c)), some (.int (zI wh)), some (.int (zI best)), some (.long (zJ bu)), none, some (.long (zJ bd)), none, some (.int (zI b)), some (.long (zJ ((s7 19 b.toNat) * y13))), none, some (.long (zJ y17)), none], [.long (zJ y17), .long (zJ bu), .long (zJ (((s7 19 b.toNat) * y13) * bd))], [r0, r1, r2, r3, r4, r5, r6, zH s7 zL7 0, r8, r9])) rfl ?_
          refine zB.opl oX12_limit rfl (zj_mul bu y17) ?_
          refine xB.run oX12_limit 1 (s := (109, [some (.ref 7168), some (.int (zI c)), some (.int (zI wh)), some (.int (zI best)), some (.long (zJ bu)), none, some (.long (zJ bd)), none, some (.int (zI b)), some (.long (zJ ((s7 19 b.toNat) * y13))), none, some (.long (zJ y17)), none], [.int (lg_cmp (zJ (((s7 19 b.toNat) * y13) * bd)) (zJ (bu * y17)))], [r0, r1, r2, r3, r4, r5, r6, zH s7 zL7 0, r8, r9])) rfl ?_
          obtain ⟨g22, H⟩ := zgd H
          have H := zif H
          refine xB.brE oX12_limit (P := (bu * y17) ≤ (((s7 19 b.toNat) * y13) * bd)) rfl (zl_ge (a := ((s7 19 b.toNat) * y13) * bd) (b := bu * y17) g22) (fun h21 => ?_) (fun h21 => ?_)
          · have H := H.1 h21
            refine zB.inc oX12_limit rfl (lv2 := [some (.ref 7168), some (.int (zI c)), some (.int (zI wh)), some (.int (zI best)), some (.long (zJ bu)), none, some (.long (zJ bd)), none, some (.int (zI (b + 1))), some (.long (zJ ((s7 19 b.toNat) * y13))), none, some (.long (zJ y17)), none]) (zi_inc (a := 0) (zi_addp1 b) _ rfl) ?_
            refine xB.run oX12_limit 1 (s := (45, [some (.ref 7168), some (.int (zI c)), some (.int (zI wh)), some (.int (zI best)), some (.long (zJ bu)), none, some (.long (zJ bd)), none, some (.int (zI (b + 1))), some (.long (zJ ((s7 19 b.toNat) * y13))), none, some (.long (zJ y17)), none], [], [r0, r1, r2, r3, r4, r5, r6, zH s7 zL7 0, r8, r9])) rfl ?_
            refine xB.forget (lv1 := [some (.ref 7168), some (.int (zI c)), some (.int (zI wh)), some (.int (zI best)), some (.long (zJ bu)), none, some (.long (zJ bd)), none, some (.int (zI (b + 1))), none, none, none, none]) (xle_same (xle_same (xle_same (xle_same (xle_same (xle_same (xle_same (xle_same (xle_same (xle_none (xle_same (xle_none (xle_same (xle_nil)))))))))))))) ?_
            exact ih best bu bd (b + 1) H K
          · have H := H.2 h21
            refine xB.run oX12_limit 6 (s := (123, [some (.ref 7168), some (.int (zI c)), some (.int (zI wh)), some (.int (zI b)), some (.long (zJ ((s7 19 b.toNat) * y13))), none, some (.long (zJ y17)), none, some (.int (zI b)), some (.long (zJ ((s7 19 b.toNat) * y13))), none, some (.long (zJ y17)), none], [], [r0, r1, r2, r3, r4, r5, r6, zH s7 zL7 0, r8, r9])) rfl ?_
            refine zB.inc oX12_limit rfl (lv2 := [some (.ref 7168), some (.int (zI c)), some (.int (zI wh)), some (.int (zI b)), some (.long (zJ ((s7 19 b.toNat) * y13))), none, some (.long (zJ y17)), none, some (.int (zI (b + 1))), some (.long (zJ ((s7 19 b.toNat) * y13))), none, some (.long (zJ y17)), none]) (zi_inc (a := 0) (zi_addp1 b) _ rfl) ?_
            refine xB.run oX12_limit 1 (s := (45, [some (.ref 7168), some (.int (zI c)), some (.int (zI wh)), some (.int (zI b)), some (.long (zJ ((s7 19 b.toNat) * y13))), none, some (.long (zJ y17)), none, some (.int (zI (b + 1))), some (.long (zJ ((s7 19 b.toNat) * y13))), none, some (.long (zJ y17)), none], [], [r0, r1, r2, r3, r4, r5, r6, zH s7 zL7 0, r8, r9])) rfl ?_
            refine xB.forget (lv1 := [some (.ref 7168), some (.int (zI c)), some (.int (zI wh)), some (.int (zI b)), some (.long (zJ ((s7 19 b.toNat) * y13))), none, some (.long (zJ y17)), none, some (.int (zI (b + 1))), none, none, none, none]) (xle_same (xle_same (xle_same (xle_same (xle_same (xle_same (xle_same (xle_same (xle_same (xle_none (xle_same (xle_none (xle_same (xle_nil)))))))))))))) ?_
            exact ih b ((s7 19 b.toNat) * y13) y17 (b + 1) H K
set_option maxRecDepth 20000 in
theorem t_X12_limit (r0 : List va_E) (r1 : List va_E) (r2 : List va_E) (r3 : List va_E) (r4 : List va_E) (r5 : List va_E) (r6 : List va_E) (s7 : zZ) (r8 : List va_E) (r9 : List va_E) (c : Int) (wh : Int) {rr : Int × zZ} (H : d_X12_limit s7 c wh = some rr) : xC MX12_limit 6 [.ref 7168, .int (zI c), .int (zI wh)] ([r0, r1, r2, r3, r4, r5, r6, zH s7 zL7 0, r8, r9]) (some (.long (zJ rr.1))) ([r0, r1, r2, r3, r4, r5, r6, zH rr.2 zL7 0, r8, r9]) := by
  refine ⟨Nat.le_of_ble_eq_true rfl, ?_⟩
  show xBody MX12_limit 6 0 [some (.ref 7168), some (.int (zI c)), some (.int (zI wh)), none, none, none, none, none, none, none, none, none, none] [] ([r0, r1, r2, r3, r4, r5, r6, zH s7 zL7 0, r8, r9]) _ _
  unfold d_X12_limit at H
  refine xB.run oX12_limit 1 (s := (1, [some (.ref 7168), some (.int (zI c)), some (.int (zI wh)), none, none, none, none, none, none, none, none, none, none], [.int (zI c)], [r0, r1, r2, r3, r4, r5, r6, zH s7 zL7 0, r8, r9])) rfl ?_
  obtain ⟨y1, e2, H⟩ := zbd H
  refine xB.call oX12_limit (M2 := MX12_isCase) rfl rfl ((t_X12_isCase r0 r1 r2 r3 r4 r5 r6 (zH s7 zL7 0) r8 r9 c e2).deep (by decide : 1 ≤ 5)) ?_
  show xBody MX12_limit 6 4 [some (.ref 7168), some (.int (zI c)), some (.int (zI wh)), none, none, none, none, none, none, none, none, none, none] [.int (zI y1)] ([r0, r1, r2, r3, r4, r5, r6, zH s7 zL7 0, r8, r9]) _ _
  obtain ⟨g42, H⟩ := zgd H
  have H := zif H
  refine xB.brE oX12_limit (P := y1 = 0) rfl (zc_eq (a := y1) (b := 0) ⟨g42, by decide⟩) (fun h3 => ?_) (fun h3 => ?_)
  · have H := H.1 h3
    refine xB.run oX12_limit 1 (s := (32, [some (.ref 7168), some (.int (zI c)), some (.int (zI wh)), none, none, none, none, none, none, none, none, none, none], [.long (zJ (-9223372036854775808))], [r0, r1, r2, r3, r4, r5, r6, zH s7 zL7 0, r8, r9])) rfl ?_
    obtain rfl := Option.some.inj H
    exact xB.ret oX12_limit (r1 := some (.long (zJ (-9223372036854775808)))) rfl rfl rfl
  · have H := H.2 h3
    refine xB.run oX12_limit 1 (s := (8, [some (.ref 7168), some (.int (zI c)), some (.int (zI wh)), none, none, none, none, none, none, none, none, none, none], [.int (zI wh)], [r0, r1, r2, r3, r4, r5, r6, zH s7 zL7 0, r8, r9])) rfl ?_
    obtain ⟨g41, H⟩ := zgd H
    refine zB.opl oX12_limit rfl (zi_i2l g41) ?_
    refine xB.run oX12_limit 2 (s := (13, [some (.ref 7168), some (.int (zI c)), some (.int (zI wh)), none, none, none, none, none, none, none, none, none, none], [.long (zJ 2), .long (zJ 0), .long (zJ wh)], [r0, r1, r2, r3, r4, r5, r6, zH s7 zL7 0, r8, r9])) rfl ?_
    obtain ⟨y4, e5, H⟩ := zbd H
    refine xB.call oX12_limit (M2 := MX12_within) rfl rfl ((t_X12_within r0 r1 r2 r3 r4 r5 r6 (zH s7 zL7 0) r8 r9 wh 0 2 e5).deep (by decide : 0 ≤ 5)) ?_
    show xBody MX12_limit 6 16 [some (.ref 7168), some (.int (zI c)), some (.int (zI wh)), none, none, none, none, none, none, none, none, none, none] [.int (zI y4)] ([r0, r1, r2, r3, r4, r5, r6, zH s7 zL7 0, r8, r9]) _ _
    obtain ⟨g40, H⟩ := zgd H
    have H := zif H
    refine xB.brE oX12_limit (P := y4 = 0) rfl (zc_eq (a := y4) (b := 0) ⟨g40, by decide⟩) (fun h6 => ?_) (fun h6 => ?_)
    · have H := H.1 h6
      refine xB.run oX12_limit 1 (s := (32, [some (.ref 7168), some (.int (zI c)), some (.int (zI wh)), none, none, none, none, none, none, none, none, none, none], [.long (zJ (-9223372036854775808))], [r0, r1, r2, r3, r4, r5, r6, zH s7 zL7 0, r8, r9])) rfl ?_
      obtain rfl := Option.some.inj H
      exact xB.ret oX12_limit (r1 := some (.long (zJ (-9223372036854775808)))) rfl rfl rfl
    · have H := H.2 h6
      refine xB.run oX12_limit 3 (s := (22, [some (.ref 7168), some (.int (zI c)), some (.int (zI wh)), none, none, none, none, none, none, none, none, none, none], [.int (zI c), .int (zI 1), .ref 7168], [r0, r1, r2, r3, r4, r5, r6, zH s7 zL7 0, r8, r9])) rfl ?_
      obtain ⟨g39, H⟩ := zgd H
      refine zB.opi oX12_limit (y := (2 : Int) ^ c.toNat) rfl (zi_shl1 (c := c) g39) ?_
      obtain ⟨y7, e8, H⟩ := zbd H
      refine xB.call oX12_limit (M2 := MX12_isTold) rfl rfl ((t_X12_isTold r0 r1 r2 r3 r4 r5 r6 s7 r8 r9 ((2 : Int) ^ c.toNat) e8).deep (by decide : 5 ≤ 5)) ?_
      show xBody MX12_limit 6 26 [some (.ref 7168), some (.int (zI c)), some (.int (zI wh)), none, none, none, none, none, none, none, none, none, none] [.int (zI y7.1)] ([r0, r1, r2, r3, r4, r5, r6, zH y7.2 zL7 0, r8, r9]) _ _
      obtain ⟨g38, H⟩ := zgd H
      have H := zif H
      refine xB.brE oX12_limit (P := y7.1 ≠ 0) rfl (zc_ne (a := y7.1) (b := 0) ⟨g38, by decide⟩) (fun h9 => ?_) (fun h9 => ?_)
      · have H := H.1 h9
        refine xB.run oX12_limit 8 (s := (45, [some (.ref 7168), some (.int (zI c)), some (.int (zI wh)), some (.int (zI (-9))), some (.long (zJ 0)), none, some (.long (zJ 1)), none, some (.int (zI 0)), none, none, none, none], [], [r0, r1, r2, r3, r4, r5, r6, zH y7.2 zL7 0, r8, r9])) rfl ?_
        obtain ⟨y28, e29, H⟩ := zbd H
        refine l_X12_limit_45 r0 r1 r2 r3 r4 r5 r6 y7.2 r8 r9 c wh _ (-9) 0 1 0 e29 ?_
        refine xB.run oX12_limit 2 (s := (132, [some (.ref 7168), some (.int (zI c)), some (.int (zI wh)), some (.int (zI y28.1)), some (.long (zJ y28.2.1)), none, some (.long (zJ y28.2.2.1)), none, some (.int (zI y28.2.2.2)), none, none, none, none], [.int (zI (-9)), .int (zI y28.1)], [r0, r1, r2, r3, r4, r5, r6, zH y7.2 zL7 0, r8, r9])) rfl ?_
        obtain ⟨g37, H⟩ := zgd H
        have H := zif H
        refine xB.brE oX12_limit (P := y28.1 = (-9)) rfl (zc_eq (a := y28.1) (b := (-9)) ⟨g37, by decide⟩) (fun h30 => ?_) (fun h30 => ?_)
        · have H := H.1 h30
          refine xB.run oX12_limit 1 (s := (141, [some (.ref 7168), some (.int (zI c)), some (.int (zI wh)), some (.int (zI y28.1)), some (.long (zJ y28.2.1)), none, some (.long (zJ y28.2.2.1)), none, some (.int (zI y28.2.2.2)), none, none, none, none], [.int (zI y28.1)], [r0, r1, r2, r3, r4, r5, r6, zH y7.2 zL7 0, r8, r9])) rfl ?_
          obtain ⟨g31, H⟩ := zgd H
          refine zB.opl oX12_limit rfl (zi_i2l g31) ?_
          refine xB.run oX12_limit 1 (s := (153, [some (.ref 7168), some (.int (zI c)), some (.int (zI wh)), some (.int (zI y28.1)), some (.long (zJ y28.2.1)), none, some (.long (zJ y28.2.2.1)), none, some (.int (zI y28.2.2.2)), none, none, none, none], [.long (zJ y28.1)], [r0, r1, r2, r3, r4, r5, r6, zH y7.2 zL7 0, r8, r9])) rfl ?_
          obtain rfl := Option.some.inj H
          exact xB.ret oX12_limit (r1 := some (.long (zJ y28.1))) rfl rfl rfl
        · have H := H.2 h30
          refine xB.run oX12_limit 2 (s := (137, [some (.ref 7168), some (.int (zI c)), some (.int (zI wh)), some (.int (zI y28.1)), some (.long (zJ y28.2.1)), none, some (.long (zJ y28.2.2.1)), none, some (.int (zI y28.2.2.2)), none, none, none, none], [.int (zI 2), .int (zI wh)], [r0, r1, r2, r3, r4, r5, r6, zH y7.2 zL7 0, r8, r9])) rfl ?_
          obtain ⟨g36, H⟩ := zgd H
          have H := zif H
          refine xB.brE oX12_limit (P := wh ≠ 2) rfl (zc_ne (a := wh) (b := 2) ⟨g36, by decide⟩) (fun h32 => ?_) (fun h32 => ?_)
          · have H := H.1 h32
            refine xB.run oX12_limit 3 (s := (150, [some (.ref 7168), some (.int (zI c)), some (.int (zI wh)), some (.int (zI y28.1)), some (.long (zJ y28.2.1)), none, some (.long (zJ y28.2.2.1)), none, some (.int (zI y28.2.2.2)), none, none, none, none], [.int (zI wh), .long (zJ y28.2.2.1), .long (zJ y28.2.1)], [r0, r1, r2, r3, r4, r5, r6, zH y7.2 zL7 0, r8, r9])) rfl ?_
            obtain ⟨y33, e34, H⟩ := zbd H
            refine xB.call oX12_limit (M2 := MX12_part) rfl rfl ((t_X12_part r0 r1 r2 r3 r4 r5 r6 (zH y7.2 zL7 0) r8 r9 y28.2.1 y28.2.2.1 wh e34).deep (by decide : 2 ≤ 5)) ?_
            show xBody MX12_limit 6 153 [some (.ref 7168), some (.int (zI c)), some (.int (zI wh)), some (.int (zI y28.1)), some (.long (zJ y28.2.1)), none, some (.long (zJ y28.2.2.1)), none, some (.int (zI y28.2.2.2)), none, none, none, none] [.long (zJ y33)] ([r0, r1, r2, r3, r4, r5, r6, zH y7.2 zL7 0, r8, r9]) _ _
            obtain rfl := Option.some.inj H
            exact xB.ret oX12_limit (r1 := some (.long (zJ y33))) rfl rfl rfl
          · have H := H.2 h32
            refine xB.run oX12_limit 1 (s := (141, [some (.ref 7168), some (.int (zI c)), some (.int (zI wh)), some (.int (zI y28.1)), some (.long (zJ y28.2.1)), none, some (.long (zJ y28.2.2.1)), none, some (.int (zI y28.2.2.2)), none, none, none, none], [.int (zI y28.1)], [r0, r1, r2, r3, r4, r5, r6, zH y7.2 zL7 0, r8, r9])) rfl ?_
            obtain ⟨g35, H⟩ := zgd H
            refine zB.opl oX12_limit rfl (zi_i2l g35) ?_
            refine xB.run oX12_limit 1 (s := (153, [some (.ref 7168), some (.int (zI c)), some (.int (zI wh)), some (.int (zI y28.1)), some (.long (zJ y28.2.1)), none, some (.long (zJ y28.2.2.1)), none, some (.int (zI y28.2.2.2)), none, none, none, none], [.long (zJ y28.1)], [r0, r1, r2, r3, r4, r5, r6, zH y7.2 zL7 0, r8, r9])) rfl ?_
            obtain rfl := Option.some.inj H
            exact xB.ret oX12_limit (r1 := some (.long (zJ y28.1))) rfl rfl rfl
      · have H := H.2 h9
        refine xB.run oX12_limit 1 (s := (32, [some (.ref 7168), some (.int (zI c)), some (.int (zI wh)), none, none, none, none, none, none, none, none, none, none], [.long (zJ (-9223372036854775808))], [r0, r1, r2, r3, r4, r5, r6, zH y7.2 zL7 0, r8, r9])) rfl ?_
        obtain rfl := Option.some.inj H
        exact xB.ret oX12_limit (r1 := some (.long (zJ (-9223372036854775808)))) rfl rfl rfl
def d_X12_needs_36 (c : Int) : Nat → Int → Int → zZ → Option (Int × Int × zZ)
  | 0, _, _, _ => none
  | uN + 1, bits, b, s7 => if (zr b ∧ zr (s7 0 25)) then (if (s7 0 25) ≤ b then some (bits, b, s7) else (if (0 ≤ b ∧ b < 16) then (if (zr (s7 20 b.toNat)) then (if (s7 20 b.toNat) ≠ 0 then (d_X12_needs_36 c uN bits (b + 1) s7) else ((d_X12_layNet s7 b).bind fun y13 => (d_X12_doesStand y13).bind fun y15 => if (zr y15) then (if y15 = 0 then (if (0 ≤ b ∧ b < 32) then (if ((0 ≤ bits ∧ zr bits) ∧ (0 ≤ ((2 : Int) ^ b.toNat) ∧ zr ((2 : Int) ^ b.toNat))) then (d_X12_needs_36 c uN ((bits.toNat ||| ((2 : Int) ^ b.toNat).toNat : Nat) : Int) (b + 1) y13) else none) else none) else (if ((0 ≤ bits ∧ zr bits)) then (d_X12_needs_36 c uN ((bits.toNat ||| (0 : Int).toNat : Nat) : Int) (b + 1) y13) else none)) else none)) else none) else none)) else none
def d_X12_needs (s7 : zZ) (c : Int) : Option (Int × zZ) := (d_X12_isCase c).bind fun y1 => if (zr y1) then (if y1 ≠ 0 then (if (0 ≤ c ∧ c < 32) then ((d_X12_carry s7 ((2 : Int) ^ c.toNat)).bind fun y4 => (d_X12_layNet y4 (-9)).bind fun y6 => (d_X12_doesStand y6).bind fun y8 => if (zr y8) then (if y8 ≠ 0 then ((d_X12_needs_36 c zF 0 0 y6).bind fun y25 => some (y25.1, y25.2.2)) else some ((-3), y6)) else none) else none) else some ((-1), s7)) else none
set_option maxRecDepth 20000 in
theorem l_X12_needs_36 (r0 : List va_E) (r1 : List va_E) (r2 : List va_E) (r3 : List va_E) (r4 : List va_E) (r5 : List va_E) (r6 : List va_E) (r8 : List va_E) (r9 : List va_E) (c : Int) {r : Option Value} {hp1 : xH} : ∀ (uN : Nat) (bits : Int) (b : Int) (s7 : zZ) {uX : Int × Int × zZ}, d_X12_needs_36 c uN bits b s7 = some uX → (xBody MX12_needs 5 81 [some (.ref 7168), some (.int (zI c)), some (.int (zI uX.1)), some (.int (zI uX.2.1))] [] ([r0, r1, r2, r3, r4, r5, r6, zH uX.2.2 zL7 0, r8, r9]) r hp1) → xBody MX12_needs 5 36 [some (.ref 7168), some (.int (zI c)), some (.int (zI bits)), some (.int (zI b))] [] ([r0, r1, r2, r3, r4, r5, r6, zH s7 zL7 0, r8, r9]) r hp1 := by
  intro uN
  induction uN with
  | zero => intro bits b s7 uX H K; cases H
  | succ uN ih =>
    intro bits b s7 uX H K
    unfold d_X12_needs_36 at H
    refine xB.run oX12_needs 3 (s := (41, [some (.ref 7168), some (.int (zI c)), some (.int (zI bits)), some (.int (zI b))], [.int (zI (s7 0 25)), .int (zI b)], [r0, r1, r2, r3, r4, r5, r6, zH s7 zL7 0, r8, r9])) rfl ?_
    obtain ⟨g24, H⟩ := zgd H
    have H := zif H
    refine xB.brE oX12_needs (P := (s7 0 25) ≤ b) rfl (zc_ge (a := b) (b := s7 0 25) g24) (fun h11 => ?_) (fun h11 => ?_)
    · have H := H.1 h11
      obtain rfl := Option.some.inj H
      exact K
    · have H := H.2 h11
      refine xB.run oX12_needs 3 (s := (49, [some (.ref 7168), some (.int (zI c)), some (.int (zI bits)), some (.int (zI b))], [.int (zI b), .ref 7188], [r0, r1, r2, r3, r4, r5, r6, zH s7 zL7 0, r8, r9])) rfl ?_
      obtain ⟨g23, H⟩ := zgd H
      refine zB.bald oX12_needs (g := 7) (p := 20) (N := 16) (i := b) rfl rfl (by decide) rfl rfl (by decide) g23 ?_
      obtain ⟨g22, H⟩ := zgd H
      have H := zif H
      refine xB.brE oX12_needs (P := (s7 20 b.toNat) ≠ 0) rfl (zc_ne (a := s7 20 b.toNat) (b := 0) ⟨g22, by decide⟩) (fun h12 => ?_) (fun h12 => ?_)
      · have H := H.1 h12
        refine zB.inc oX12_needs rfl (lv2 := [some (.ref 7168), some (.int (zI c)), some (.int (zI bits)), some (.int (zI (b + 1)))]) (zi_inc (a := 0) (zi_addp1 b) _ rfl) ?_
        refine xB.run oX12_needs 1 (s := (36, [some (.ref 7168), some (.int (zI c)), some (.int (zI bits)), some (.int (zI (b + 1)))], [], [r0, r1, r2, r3, r4, r5, r6, zH s7 zL7 0, r8, r9])) rfl ?_
        exact ih bits (b + 1) s7 H K
      · have H := H.2 h12
        refine xB.run oX12_needs 2 (s := (55, [some (.ref 7168), some (.int (zI c)), some (.int (zI bits)), some (.int (zI b))], [.int (zI b), .ref 7168], [r0, r1, r2, r3, r4, r5, r6, zH s7 zL7 0, r8, r9])) rfl ?_
        obtain ⟨y13, e14, H⟩ := zbd H
        refine xB.call oX12_needs (M2 := MX12_layNet) rfl rfl ((t_X12_layNet r0 r1 r2 r3 r4 r5 r6 s7 r8 r9 b e14).deep (by decide : 4 ≤ 4)) ?_
        show xBody MX12_needs 5 58 [some (.ref 7168), some (.int (zI c)), some (.int (zI bits)), some (.int (zI b))] [] ([r0, r1, r2, r3, r4, r5, r6, zH y13 zL7 0, r8, r9]) _ _
        refine xB.run oX12_needs 2 (s := (60, [some (.ref 7168), some (.int (zI c)), some (.int (zI bits)), some (.int (zI b))], [.ref 7168, .int (zI bits)], [r0, r1, r2, r3, r4, r5, r6, zH y13 zL7 0, r8, r9])) rfl ?_
        obtain ⟨y15, e16, H⟩ := zbd H
        refine xB.call oX12_needs (M2 := MX12_doesStand) rfl rfl ((t_X12_doesStand r0 r1 r2 r3 r4 r5 r6 y13 r8 r9  e16).deep (by decide : 0 ≤ 4)) ?_
        show xBody MX12_needs 5 63 [some (.ref 7168), some (.int (zI c)), some (.int (zI bits)), some (.int (zI b))] [.int (zI y15), .int (zI bits)] ([r0, r1, r2, r3, r4, r5, r6, zH y13 zL7 0, r8, r9]) _ _
        obtain ⟨g21, H⟩ := zgd H
        have H := zif H
        refine xB.brE oX12_needs (P := y15 = 0) rfl (zc_eq (a := y15) (b := 0) ⟨g21, by decide⟩) (fun h17 => ?_) (fun h17 => ?_)
        · have H := H.1 h17
          refine xB.run oX12_needs 2 (s := (72, [some (.ref 7168), some (.int (zI c)), some (.int (zI bits)), some (.int (zI b))], [.int (zI b), .int (zI 1), .int (zI bits)], [r0, r1, r2, r3, r4, r5, r6, zH y13 zL7 0, r8, r9])) rfl ?_
          obtain ⟨g19, H⟩ := zgd H
          refine zB.opi oX12_needs (y := (2 : Int) ^ b.toNat) rfl (zi_shl1 (c := b) g19) ?_
          obtain ⟨g18, H⟩ := zgd H
          refine zB.opi oX12_needs rfl (zi_or (a := bits) (b := (2 : Int) ^ b.toNat) g18.1 g18.2) ?_
          refine xB.run oX12_needs 1 (s := (75, [some (.ref 7168), some (.int (zI c)), some (.int (zI ((bits.toNat ||| ((2 : Int) ^ b.toNat).toNat : Nat) : Int))), some (.int (zI b))], [], [r0, r1, r2, r3, r4, r5, r6, zH y13 zL7 0, r8, r9])) rfl ?_
          refine zB.inc oX12_needs rfl (lv2 := [some (.ref 7168), some (.int (zI c)), some (.int (zI ((bits.toNat ||| ((2 : Int) ^ b.toNat).toNat : Nat) : Int))), some (.int (zI (b + 1)))]) (zi_inc (a := 0) (zi_addp1 b) _ rfl) ?_
          refine xB.run oX12_needs 1 (s := (36, [some (.ref 7168), some (.int (zI c)), some (.int (zI ((bits.toNat ||| ((2 : Int) ^ b.toNat).toNat : Nat) : Int))), some (.int (zI (b + 1)))], [], [r0, r1, r2, r3, r4, r5, r6, zH y13 zL7 0, r8, r9])) rfl ?_
          exact ih ((bits.toNat ||| ((2 : Int) ^ b.toNat).toNat : Nat) : Int) (b + 1) y13 H K
        · have H := H.2 h17
          refine xB.run oX12_needs 2 (s := (73, [some (.ref 7168), some (.int (zI c)), some (.int (zI bits)), some (.int (zI b))], [.int (zI 0), .int (zI bits)], [r0, r1, r2, r3, r4, r5, r6, zH y13 zL7 0, r8, r9])) rfl ?_
          obtain ⟨g20, H⟩ := zgd H
          refine zB.opi oX12_needs rfl (zi_or (a := bits) (b := 0) g20 (by decide)) ?_
          refine xB.run oX12_needs 1 (s := (75, [some (.ref 7168), some (.int (zI c)), some (.int (zI ((bits.toNat ||| (0 : Int).toNat : Nat) : Int))), some (.int (zI b))], [], [r0, r1, r2, r3, r4, r5, r6, zH y13 zL7 0, r8, r9])) rfl ?_
          refine zB.inc oX12_needs rfl (lv2 := [some (.ref 7168), some (.int (zI c)), some (.int (zI ((bits.toNat ||| (0 : Int).toNat : Nat) : Int))), some (.int (zI (b + 1)))]) (zi_inc (a := 0) (zi_addp1 b) _ rfl) ?_
          refine xB.run oX12_needs 1 (s := (36, [some (.ref 7168), some (.int (zI c)), some (.int (zI ((bits.toNat ||| (0 : Int).toNat : Nat) : Int))), some (.int (zI (b + 1)))], [], [r0, r1, r2, r3, r4, r5, r6, zH y13 zL7 0, r8, r9])) rfl ?_
          exact ih ((bits.toNat ||| (0 : Int).toNat : Nat) : Int) (b + 1) y13 H K
set_option maxRecDepth 20000 in
theorem t_X12_needs (r0 : List va_E) (r1 : List va_E) (r2 : List va_E) (r3 : List va_E) (r4 : List va_E) (r5 : List va_E) (r6 : List va_E) (s7 : zZ) (r8 : List va_E) (r9 : List va_E) (c : Int) {rr : Int × zZ} (H : d_X12_needs s7 c = some rr) : xC MX12_needs 5 [.ref 7168, .int (zI c)] ([r0, r1, r2, r3, r4, r5, r6, zH s7 zL7 0, r8, r9]) (some (.int (zI rr.1))) ([r0, r1, r2, r3, r4, r5, r6, zH rr.2 zL7 0, r8, r9]) := by
  refine ⟨Nat.le_of_ble_eq_true rfl, ?_⟩
  show xBody MX12_needs 5 0 [some (.ref 7168), some (.int (zI c)), none, none] [] ([r0, r1, r2, r3, r4, r5, r6, zH s7 zL7 0, r8, r9]) _ _
  unfold d_X12_needs at H
  refine xB.run oX12_needs 1 (s := (1, [some (.ref 7168), some (.int (zI c)), none, none], [.int (zI c)], [r0, r1, r2, r3, r4, r5, r6, zH s7 zL7 0, r8, r9])) rfl ?_
  obtain ⟨y1, e2, H⟩ := zbd H
  refine xB.call oX12_needs (M2 := MX12_isCase) rfl rfl ((t_X12_isCase r0 r1 r2 r3 r4 r5 r6 (zH s7 zL7 0) r8 r9 c e2).deep (by decide : 1 ≤ 4)) ?_
  show xBody MX12_needs 5 4 [some (.ref 7168), some (.int (zI c)), none, none] [.int (zI y1)] ([r0, r1, r2, r3, r4, r5, r6, zH s7 zL7 0, r8, r9]) _ _
  obtain ⟨g29, H⟩ := zgd H
  have H := zif H
  refine xB.brE oX12_needs (P := y1 ≠ 0) rfl (zc_ne (a := y1) (b := 0) ⟨g29, by decide⟩) (fun h3 => ?_) (fun h3 => ?_)
  · have H := H.1 h3
    refine xB.run oX12_needs 3 (s := (12, [some (.ref 7168), some (.int (zI c)), none, none], [.int (zI c), .int (zI 1), .ref 7168], [r0, r1, r2, r3, r4, r5, r6, zH s7 zL7 0, r8, r9])) rfl ?_
    obtain ⟨g28, H⟩ := zgd H
    refine zB.opi oX12_needs (y := (2 : Int) ^ c.toNat) rfl (zi_shl1 (c := c) g28) ?_
    obtain ⟨y4, e5, H⟩ := zbd H
    refine xB.call oX12_needs (M2 := MX12_carry) rfl rfl ((t_X12_carry r0 r1 r2 r3 r4 r5 r6 s7 r8 r9 ((2 : Int) ^ c.toNat) e5).deep (by decide : 0 ≤ 4)) ?_
    show xBody MX12_needs 5 16 [some (.ref 7168), some (.int (zI c)), none, none] [] ([r0, r1, r2, r3, r4, r5, r6, zH y4 zL7 0, r8, r9]) _ _
    refine xB.run oX12_needs 2 (s := (19, [some (.ref 7168), some (.int (zI c)), none, none], [.int (zI (-9)), .ref 7168], [r0, r1, r2, r3, r4, r5, r6, zH y4 zL7 0, r8, r9])) rfl ?_
    obtain ⟨y6, e7, H⟩ := zbd H
    refine xB.call oX12_needs (M2 := MX12_layNet) rfl rfl ((t_X12_layNet r0 r1 r2 r3 r4 r5 r6 y4 r8 r9 (-9) e7).deep (by decide : 4 ≤ 4)) ?_
    show xBody MX12_needs 5 22 [some (.ref 7168), some (.int (zI c)), none, none] [] ([r0, r1, r2, r3, r4, r5, r6, zH y6 zL7 0, r8, r9]) _ _
    refine xB.run oX12_needs 1 (s := (23, [some (.ref 7168), some (.int (zI c)), none, none], [.ref 7168], [r0, r1, r2, r3, r4, r5, r6, zH y6 zL7 0, r8, r9])) rfl ?_
    obtain ⟨y8, e9, H⟩ := zbd H
    refine xB.call oX12_needs (M2 := MX12_doesStand) rfl rfl ((t_X12_doesStand r0 r1 r2 r3 r4 r5 r6 y6 r8 r9  e9).deep (by decide : 0 ≤ 4)) ?_
    show xBody MX12_needs 5 26 [some (.ref 7168), some (.int (zI c)), none, none] [.int (zI y8)] ([r0, r1, r2, r3, r4, r5, r6, zH y6 zL7 0, r8, r9]) _ _
    obtain ⟨g27, H⟩ := zgd H
    have H := zif H
    refine xB.brE oX12_needs (P := y8 ≠ 0) rfl (zc_ne (a := y8) (b := 0) ⟨g27, by decide⟩) (fun h10 => ?_) (fun h10 => ?_)
    · have H := H.1 h10
      refine xB.run oX12_needs 4 (s := (36, [some (.ref 7168), some (.int (zI c)), some (.int (zI 0)), some (.int (zI 0))], [], [r0, r1, r2, r3, r4, r5, r6, zH y6 zL7 0, r8, r9])) rfl ?_
      obtain ⟨y25, e26, H⟩ := zbd H
      refine l_X12_needs_36 r0 r1 r2 r3 r4 r5 r6 r8 r9 c _ 0 0 y6 e26 ?_
      refine xB.run oX12_needs 1 (s := (82, [some (.ref 7168), some (.int (zI c)), some (.int (zI y25.1)), some (.int (zI y25.2.1))], [.int (zI y25.1)], [r0, r1, r2, r3, r4, r5, r6, zH y25.2.2 zL7 0, r8, r9])) rfl ?_
      obtain rfl := Option.some.inj H
      exact xB.ret oX12_needs (r1 := some (.int (zI y25.1))) rfl rfl rfl
    · have H := H.2 h10
      refine xB.run oX12_needs 1 (s := (31, [some (.ref 7168), some (.int (zI c)), none, none], [.int (zI (-3))], [r0, r1, r2, r3, r4, r5, r6, zH y6 zL7 0, r8, r9])) rfl ?_
      obtain rfl := Option.some.inj H
      exact xB.ret oX12_needs (r1 := some (.int (zI (-3)))) rfl rfl rfl
  · have H := H.2 h3
    refine xB.run oX12_needs 1 (s := (8, [some (.ref 7168), some (.int (zI c)), none, none], [.int (zI (-1))], [r0, r1, r2, r3, r4, r5, r6, zH s7 zL7 0, r8, r9])) rfl ?_
    obtain rfl := Option.some.inj H
    exact xB.ret oX12_needs (r1 := some (.int (zI (-1)))) rfl rfl rfl
def d_X12_doesNoneGive_8 (s7 : zZ) (set : Int) (told : Int) : Nat → Int → Option (Sum (Int) (Int × zZ))
  | 0, _ => none
  | uN + 1, b => if (zr b ∧ zr (s7 0 25)) then (if (s7 0 25) ≤ b then some (.inl b) else ((d_X12_upOf s7 b).bind fun y4 => (d_X12_size y4).bind fun y6 => if (0 ≤ b ∧ b < 16) then (if zr (s7 19 b.toNat) then ((d_X12_downOf s7 b).bind fun y8 => (d_X12_size y8).bind fun y10 => if (zrl y6 ∧ zrl ((s7 19 b.toNat) * y10)) then (if y6 ≤ ((s7 19 b.toNat) * y10) then (d_X12_doesNoneGive_8 s7 set told uN (b + 1)) else some (.inr (0, s7))) else none) else none) else none)) else none
def d_X12_doesNoneGive (s7 : zZ) (set : Int) : Option (Int × zZ) := (d_X12_isTold s7 set).bind fun y1 => (d_X12_doesNoneGive_8 y1.2 set y1.1 zF 0).bind fun y17 => match y17 with | .inl y19 => if (y1.1 = 0 ∨ y1.1 = 1) then some (y1.1, y1.2) else none | .inr y20 => some y20
set_option maxRecDepth 20000 in
theorem l_X12_doesNoneGive_8 (r0 : List va_E) (r1 : List va_E) (r2 : List va_E) (r3 : List va_E) (r4 : List va_E) (r5 : List va_E) (r6 : List va_E) (s7 : zZ) (r8 : List va_E) (r9 : List va_E) (set : Int) (told : Int) {r : Option Value} {hp1 : xH} : ∀ (uN : Nat) (b : Int) {uX : Sum (Int) (Int × zZ)}, d_X12_doesNoneGive_8 s7 set told uN b = some uX → ((∀ uY, uX = .inl uY → xBody MX12_doesNoneGive 6 52 [some (.ref 7168), some (.int (zI set)), some (.int (zI told)), some (.int (zI uY))] [] ([r0, r1, r2, r3, r4, r5, r6, zH s7 zL7 0, r8, r9]) r hp1) ∧ (∀ uW, uX = .inr uW → r = some (.int (zI uW.1)) ∧ hp1 = [r0, r1, r2, r3, r4, r5, r6, zH uW.2 zL7 0, r8, r9])) → xBody MX12_doesNoneGive 6 8 [some (.ref 7168), some (.int (zI set)), some (.int (zI told)), some (.int (zI b))] [] ([r0, r1, r2, r3, r4, r5, r6, zH s7 zL7 0, r8, r9]) r hp1 := by
  intro uN
  induction uN with
  | zero => intro b uX H K; cases H
  | succ uN ih =>
    intro b uX H K
    unfold d_X12_doesNoneGive_8 at H
    refine xB.run oX12_doesNoneGive 3 (s := (13, [some (.ref 7168), some (.int (zI set)), some (.int (zI told)), some (.int (zI b))], [.int (zI (s7 0 25)), .int (zI b)], [r0, r1, r2, r3, r4, r5, r6, zH s7 zL7 0, r8, r9])) rfl ?_
    obtain ⟨g16, H⟩ := zgd H
    have H := zif H
    refine xB.brE oX12_doesNoneGive (P := (s7 0 25) ≤ b) rfl (zc_ge (a := b) (b := s7 0 25) g16) (fun h3 => ?_) (fun h3 => ?_)
    · have H := H.1 h3
      obtain rfl := Option.some.inj H
      exact K.1 _ rfl
    · have H := H.2 h3
      refine xB.run oX12_doesNoneGive 2 (s := (18, [some (.ref 7168), some (.int (zI set)), some (.int (zI told)), some (.int (zI b))], [.int (zI b), .ref 7168], [r0, r1, r2, r3, r4, r5, r6, zH s7 zL7 0, r8, r9])) rfl ?_
      obtain ⟨y4, e5, H⟩ := zbd H
      refine xB.call oX12_doesNoneGive (M2 := MX12_upOf) rfl rfl ((t_X12_upOf r0 r1 r2 r3 r4 r5 r6 s7 r8 r9 b e5).deep (by decide : 0 ≤ 5)) ?_
      show xBody MX12_doesNoneGive 6 21 [some (.ref 7168), some (.int (zI set)), some (.int (zI told)), some (.int (zI b))] [.long (zJ y4)] ([r0, r1, r2, r3, r4, r5, r6, zH s7 zL7 0, r8, r9]) _ _
      obtain ⟨y6, e7, H⟩ := zbd H
      refine xB.call oX12_doesNoneGive (M2 := MX12_size) rfl rfl ((t_X12_size r0 r1 r2 r3 r4 r5 r6 (zH s7 zL7 0) r8 r9 y4 e7).deep (by decide : 0 ≤ 5)) ?_
      show xBody MX12_doesNoneGive 6 24 [some (.ref 7168), some (.int (zI set)), some (.int (zI told)), some (.int (zI b))] [.long (zJ y6)] ([r0, r1, r2, r3, r4, r5, r6, zH s7 zL7 0, r8, r9]) _ _
      refine xB.run oX12_doesNoneGive 3 (s := (29, [some (.ref 7168), some (.int (zI set)), some (.int (zI told)), some (.int (zI b))], [.int (zI b), .ref 7187, .long (zJ y6)], [r0, r1, r2, r3, r4, r5, r6, zH s7 zL7 0, r8, r9])) rfl ?_
      obtain ⟨g15, H⟩ := zgd H
      refine zB.iald oX12_doesNoneGive (g := 7) (p := 19) (N := 16) (i := b) rfl rfl (by decide) rfl rfl (by decide) g15 ?_
      obtain ⟨g14, H⟩ := zgd H
      refine zB.opl oX12_doesNoneGive rfl (zi_i2l g14) ?_
      refine xB.run oX12_doesNoneGive 2 (s := (33, [some (.ref 7168), some (.int (zI set)), some (.int (zI told)), some (.int (zI b))], [.int (zI b), .ref 7168, .long (zJ (s7 19 b.toNat)), .long (zJ y6)], [r0, r1, r2, r3, r4, r5, r6, zH s7 zL7 0, r8, r9])) rfl ?_
      obtain ⟨y8, e9, H⟩ := zbd H
      refine xB.call oX12_doesNoneGive (M2 := MX12_downOf) rfl rfl ((t_X12_downOf r0 r1 r2 r3 r4 r5 r6 s7 r8 r9 b e9).deep (by decide : 0 ≤ 5)) ?_
      show xBody MX12_doesNoneGive 6 36 [some (.ref 7168), some (.int (zI set)), some (.int (zI told)), some (.int (zI b))] [.long (zJ y8), .long (zJ (s7 19 b.toNat)), .long (zJ y6)] ([r0, r1, r2, r3, r4, r5, r6, zH s7 zL7 0, r8, r9]) _ _
      obtain ⟨y10, e11, H⟩ := zbd H
      refine xB.call oX12_doesNoneGive (M2 := MX12_size) rfl rfl ((t_X12_size r0 r1 r2 r3 r4 r5 r6 (zH s7 zL7 0) r8 r9 y8 e11).deep (by decide : 0 ≤ 5)) ?_
      show xBody MX12_doesNoneGive 6 39 [some (.ref 7168), some (.int (zI set)), some (.int (zI told)), some (.int (zI b))] [.long (zJ y10), .long (zJ (s7 19 b.toNat)), .long (zJ y6)] ([r0, r1, r2, r3, r4, r5, r6, zH s7 zL7 0, r8, r9]) _ _
      refine zB.opl oX12_doesNoneGive rfl (zj_mul (s7 19 b.toNat) y10) ?_
      refine xB.run oX12_doesNoneGive 1 (s := (41, [some (.ref 7168), some (.int (zI set)), some (.int (zI told)), some (.int (zI b))], [.int (lg_cmp (zJ y6) (zJ ((s7 19 b.toNat) * y10)))], [r0, r1, r2, r3, r4, r5, r6, zH s7 zL7 0, r8, r9])) rfl ?_
      obtain ⟨g13, H⟩ := zgd H
      have H := zif H
      refine xB.brE oX12_doesNoneGive (P := y6 ≤ ((s7 19 b.toNat) * y10)) rfl (zl_le (a := y6) (b := (s7 19 b.toNat) * y10) g13) (fun h12 => ?_) (fun h12 => ?_)
      · have H := H.1 h12
        refine zB.inc oX12_doesNoneGive rfl (lv2 := [some (.ref 7168), some (.int (zI set)), some (.int (zI told)), some (.int (zI (b + 1)))]) (zi_inc (a := 0) (zi_addp1 b) _ rfl) ?_
        refine xB.run oX12_doesNoneGive 1 (s := (8, [some (.ref 7168), some (.int (zI set)), some (.int (zI told)), some (.int (zI (b + 1)))], [], [r0, r1, r2, r3, r4, r5, r6, zH s7 zL7 0, r8, r9])) rfl ?_
        exact ih (b + 1) H K
      · have H := H.2 h12
        refine xB.run oX12_doesNoneGive 1 (s := (45, [some (.ref 7168), some (.int (zI set)), some (.int (zI told)), some (.int (zI b))], [.int (zI 0)], [r0, r1, r2, r3, r4, r5, r6, zH s7 zL7 0, r8, r9])) rfl ?_
        obtain rfl := Option.some.inj H
        obtain ⟨kr, kh⟩ := K.2 _ rfl
        subst kr kh
        exact xB.ret oX12_doesNoneGive (r1 := some (.int (zI 0))) rfl rfl rfl
set_option maxRecDepth 20000 in
theorem t_X12_doesNoneGive (r0 : List va_E) (r1 : List va_E) (r2 : List va_E) (r3 : List va_E) (r4 : List va_E) (r5 : List va_E) (r6 : List va_E) (s7 : zZ) (r8 : List va_E) (r9 : List va_E) (set : Int) {rr : Int × zZ} (H : d_X12_doesNoneGive s7 set = some rr) : xC MX12_doesNoneGive 6 [.ref 7168, .int (zI set)] ([r0, r1, r2, r3, r4, r5, r6, zH s7 zL7 0, r8, r9]) (some (.int (zI rr.1))) ([r0, r1, r2, r3, r4, r5, r6, zH rr.2 zL7 0, r8, r9]) := by
  refine ⟨Nat.le_of_ble_eq_true rfl, ?_⟩
  show xBody MX12_doesNoneGive 6 0 [some (.ref 7168), some (.int (zI set)), none, none] [] ([r0, r1, r2, r3, r4, r5, r6, zH s7 zL7 0, r8, r9]) _ _
  unfold d_X12_doesNoneGive at H
  refine xB.run oX12_doesNoneGive 2 (s := (2, [some (.ref 7168), some (.int (zI set)), none, none], [.int (zI set), .ref 7168], [r0, r1, r2, r3, r4, r5, r6, zH s7 zL7 0, r8, r9])) rfl ?_
  obtain ⟨y1, e2, H⟩ := zbd H
  refine xB.call oX12_doesNoneGive (M2 := MX12_isTold) rfl rfl ((t_X12_isTold r0 r1 r2 r3 r4 r5 r6 s7 r8 r9 set e2).deep (by decide : 5 ≤ 5)) ?_
  show xBody MX12_doesNoneGive 6 5 [some (.ref 7168), some (.int (zI set)), none, none] [.int (zI y1.1)] ([r0, r1, r2, r3, r4, r5, r6, zH y1.2 zL7 0, r8, r9]) _ _
  refine xB.run oX12_doesNoneGive 3 (s := (8, [some (.ref 7168), some (.int (zI set)), some (.int (zI y1.1)), some (.int (zI 0))], [], [r0, r1, r2, r3, r4, r5, r6, zH y1.2 zL7 0, r8, r9])) rfl ?_
  obtain ⟨y17, e18, H⟩ := zbd H
  refine l_X12_doesNoneGive_8 r0 r1 r2 r3 r4 r5 r6 y1.2 r8 r9 set y1.1 _ 0 e18 ?_
  refine ⟨fun y19 uQ => ?_, fun y20 uQ => ?_⟩
  · subst uQ
    refine xB.run oX12_doesNoneGive 1 (s := (53, [some (.ref 7168), some (.int (zI set)), some (.int (zI y1.1)), some (.int (zI y19))], [.int (zI y1.1)], [r0, r1, r2, r3, r4, r5, r6, zH y1.2 zL7 0, r8, r9])) rfl ?_
    obtain ⟨g21, H⟩ := zgd H
    obtain rfl := Option.some.inj H
    exact zB.retb oX12_doesNoneGive rfl g21
  · subst uQ
    obtain rfl := Option.some.inj H
    exact ⟨rfl, rfl⟩
def d_X12_findOrder_31 (s7 : zZ) (set : Int) (on_ : Int) : Nat → Int → Int → Option (Int × Int)
  | 0, _, _ => none
  | uN + 1, may, c => if (zr c) then (if (6 : Int) ≤ c then some (may, c) else (if (zr may) then (if may ≠ 0 then some (may, c) else (if (zr set ∧ (0 ≤ c ∧ c < 32)) then (if (zr ((set / (2 : Int) ^ c.toNat) % 2)) then (if ((set / (2 : Int) ^ c.toNat) % 2) ≠ 1 then (d_X12_findOrder_31 s7 set on_ uN 0 (c + 1)) else (if (zr on_ ∧ (0 ≤ c ∧ c < 32)) then (if (zr ((on_ / (2 : Int) ^ c.toNat) % 2)) then (if ((on_ / (2 : Int) ^ c.toNat) % 2) ≠ 0 then (d_X12_findOrder_31 s7 set on_ uN 0 (c + 1)) else (if (0 ≤ c ∧ c < 32) then (if ((0 ≤ on_ ∧ zr on_) ∧ (0 ≤ ((2 : Int) ^ c.toNat) ∧ zr ((2 : Int) ^ c.toNat))) then (if (0 ≤ ((on_.toNat ||| ((2 : Int) ^ c.toNat).toNat : Nat) : Int) ∧ ((on_.toNat ||| ((2 : Int) ^ c.toNat).toNat : Nat) : Int) < 64) then (if (zr (s7 26 ((on_.toNat ||| ((2 : Int) ^ c.toNat).toNat : Nat) : Int).toNat)) then (if (s7 26 ((on_.toNat ||| ((2 : Int) ^ c.toNat).toNat : Nat) : Int).toNat) = 0 then (d_X12_findOrder_31 s7 set on_ uN 0 (c + 1)) else (d_X12_findOrder_31 s7 set on_ uN 1 (c + 1))) else none) else none) else none) else none)) else none) else none)) else none) else none)) else none)) else none
def d_X12_findOrder_2 (set : Int) : Nat → Int → zZ → Option (Int × zZ)
  | 0, _, _ => none
  | uN + 1, on_, s7 => if (zr on_) then (if on_ < 0 then some (on_, s7) else (if ((0 ≤ on_ ∧ zr on_) ∧ (0 ≤ set ∧ zr set)) then (if (zr (on_ - ((on_.toNat &&& set.toNat : Nat) : Int))) then (if (on_ - ((on_.toNat &&& set.toNat : Nat) : Int)) = 0 then (if (zr on_ ∧ zr set) then (if on_ ≠ set then ((d_X12_findOrder_31 s7 set on_ zF 0 0).bind fun y19 => if (zr y19.1) then (if y19.1 = 0 then (if (0 ≤ on_ ∧ on_ < 64) then (d_X12_findOrder_2 set uN (on_ + (-1)) (upz s7 26 on_.toNat 0)) else none) else (if (zr on_) then (if on_ = 0 then (if (0 ≤ on_ ∧ on_ < 64) then (d_X12_findOrder_2 set uN (on_ + (-1)) (upz s7 26 on_.toNat 1)) else none) else ((d_X12_doesNoneGive s7 on_).bind fun y25 => if (zr y25.1) then (if y25.1 = 0 then (if (0 ≤ on_ ∧ on_ < 64) then (d_X12_findOrder_2 set uN (on_ + (-1)) (upz y25.2 26 on_.toNat 0)) else none) else (if (0 ≤ on_ ∧ on_ < 64) then (d_X12_findOrder_2 set uN (on_ + (-1)) (upz y25.2 26 on_.toNat 1)) else none)) else none)) else none)) else none) else ((d_X12_findOrder_31 s7 set on_ zF 1 0).bind fun y33 => if (zr y33.1) then (if y33.1 = 0 then (if (0 ≤ on_ ∧ on_ < 64) then (d_X12_findOrder_2 set uN (on_ + (-1)) (upz s7 26 on_.toNat 0)) else none) else (if (zr on_) then (if on_ = 0 then (if (0 ≤ on_ ∧ on_ < 64) then (d_X12_findOrder_2 set uN (on_ + (-1)) (upz s7 26 on_.toNat 1)) else none) else ((d_X12_doesNoneGive s7 on_).bind fun y39 => if (zr y39.1) then (if y39.1 = 0 then (if (0 ≤ on_ ∧ on_ < 64) then (d_X12_findOrder_2 set uN (on_ + (-1)) (upz y39.2 26 on_.toNat 0)) else none) else (if (0 ≤ on_ ∧ on_ < 64) then (d_X12_findOrder_2 set uN (on_ + (-1)) (upz y39.2 26 on_.toNat 1)) else none)) else none)) else none)) else none)) else none) else (d_X12_findOrder_2 set uN (on_ + (-1)) s7)) else none) else none)) else none
def d_X12_findOrder (s7 : zZ) (set : Int) : Option (zZ) := (d_X12_findOrder_2 set zF set s7).bind fun y51 => some y51.2
set_option maxRecDepth 20000 in
theorem l_X12_findOrder_31 (r0 : List va_E) (r1 : List va_E) (r2 : List va_E) (r3 : List va_E) (r4 : List va_E) (r5 : List va_E) (r6 : List va_E) (s7 : zZ) (r8 : List va_E) (r9 : List va_E) (set : Int) (on_ : Int) {r : Option Value} {hp1 : xH} : ∀ (uN : Nat) (may : Int) (c : Int) {uX : Int × Int}, d_X12_findOrder_31 s7 set on_ uN may c = some uX → (xBody MX12_findOrder 7 87 [some (.ref 7168), some (.int (zI set)), some (.int (zI on_)), some (.int (zI uX.1)), some (.int (zI uX.2))] [] ([r0, r1, r2, r3, r4, r5, r6, zH s7 zL7 0, r8, r9]) r hp1) → xBody MX12_findOrder 7 31 [some (.ref 7168), some (.int (zI set)), some (.int (zI on_)), some (.int (zI may)), some (.int (zI c))] [] ([r0, r1, r2, r3, r4, r5, r6, zH s7 zL7 0, r8, r9]) r hp1 := by
  intro uN
  induction uN with
  | zero => intro may c uX H K; cases H
  | succ uN ih =>
    intro may c uX H K
    unfold d_X12_findOrder_31 at H
    refine xB.run oX12_findOrder 2 (s := (35, [some (.ref 7168), some (.int (zI set)), some (.int (zI on_)), some (.int (zI may)), some (.int (zI c))], [.int (zI 6), .int (zI c)], [r0, r1, r2, r3, r4, r5, r6, zH s7 zL7 0, r8, r9])) rfl ?_
    obtain ⟨g18, H⟩ := zgd H
    have H := zif H
    refine xB.brE oX12_findOrder (P := (6 : Int) ≤ c) rfl (zc_ge (a := c) (b := 6) ⟨g18, by decide⟩) (fun h4 => ?_) (fun h4 => ?_)
    · have H := H.1 h4
      obtain rfl := Option.some.inj H
      exact K
    · have H := H.2 h4
      refine xB.run oX12_findOrder 1 (s := (39, [some (.ref 7168), some (.int (zI set)), some (.int (zI on_)), some (.int (zI may)), some (.int (zI c))], [.int (zI may)], [r0, r1, r2, r3, r4, r5, r6, zH s7 zL7 0, r8, r9])) rfl ?_
      obtain ⟨g17, H⟩ := zgd H
      have H := zif H
      refine xB.brE oX12_findOrder (P := may ≠ 0) rfl (zc_ne (a := may) (b := 0) ⟨g17, by decide⟩) (fun h5 => ?_) (fun h5 => ?_)
      · have H := H.1 h5
        obtain rfl := Option.some.inj H
        exact K
      · have H := H.2 h5
        refine xB.run oX12_findOrder 2 (s := (45, [some (.ref 7168), some (.int (zI set)), some (.int (zI on_)), some (.int (zI may)), some (.int (zI c))], [.int (zI c), .int (zI set)], [r0, r1, r2, r3, r4, r5, r6, zH s7 zL7 0, r8, r9])) rfl ?_
        obtain ⟨g16, H⟩ := zgd H
        refine zB.opi oX12_findOrder rfl (zi_shr (c := c) g16.1 g16.2) ?_
        refine xB.run oX12_findOrder 1 (s := (47, [some (.ref 7168), some (.int (zI set)), some (.int (zI on_)), some (.int (zI may)), some (.int (zI c))], [.int (zI 1), .int (zI (set / (2 : Int) ^ c.toNat))], [r0, r1, r2, r3, r4, r5, r6, zH s7 zL7 0, r8, r9])) rfl ?_
        refine zB.opi oX12_findOrder rfl (zi_and1 (set / (2 : Int) ^ c.toNat)) ?_
        refine xB.run oX12_findOrder 1 (s := (49, [some (.ref 7168), some (.int (zI set)), some (.int (zI on_)), some (.int (zI may)), some (.int (zI c))], [.int (zI 1), .int (zI ((set / (2 : Int) ^ c.toNat) % 2))], [r0, r1, r2, r3, r4, r5, r6, zH s7 zL7 0, r8, r9])) rfl ?_
        obtain ⟨g15, H⟩ := zgd H
        have H := zif H
        refine xB.brE oX12_findOrder (P := ((set / (2 : Int) ^ c.toNat) % 2) ≠ 1) rfl (zc_ne (a := (set / (2 : Int) ^ c.toNat) % 2) (b := 1) ⟨g15, by decide⟩) (fun h6 => ?_) (fun h6 => ?_)
        · have H := H.1 h6
          refine xB.run oX12_findOrder 2 (s := (81, [some (.ref 7168), some (.int (zI set)), some (.int (zI on_)), some (.int (zI 0)), some (.int (zI c))], [], [r0, r1, r2, r3, r4, r5, r6, zH s7 zL7 0, r8, r9])) rfl ?_
          refine zB.inc oX12_findOrder rfl (lv2 := [some (.ref 7168), some (.int (zI set)), some (.int (zI on_)), some (.int (zI 0)), some (.int (zI (c + 1)))]) (zi_inc (a := 0) (zi_addp1 c) _ rfl) ?_
          refine xB.run oX12_findOrder 1 (s := (31, [some (.ref 7168), some (.int (zI set)), some (.int (zI on_)), some (.int (zI 0)), some (.int (zI (c + 1)))], [], [r0, r1, r2, r3, r4, r5, r6, zH s7 zL7 0, r8, r9])) rfl ?_
          exact ih 0 (c + 1) H K
        · have H := H.2 h6
          refine xB.run oX12_findOrder 2 (s := (55, [some (.ref 7168), some (.int (zI set)), some (.int (zI on_)), some (.int (zI may)), some (.int (zI c))], [.int (zI c), .int (zI on_)], [r0, r1, r2, r3, r4, r5, r6, zH s7 zL7 0, r8, r9])) rfl ?_
          obtain ⟨g14, H⟩ := zgd H
          refine zB.opi oX12_findOrder rfl (zi_shr (c := c) g14.1 g14.2) ?_
          refine xB.run oX12_findOrder 1 (s := (57, [some (.ref 7168), some (.int (zI set)), some (.int (zI on_)), some (.int (zI may)), some (.int (zI c))], [.int (zI 1), .int (zI (on_ / (2 : Int) ^ c.toNat))], [r0, r1, r2, r3, r4, r5, r6, zH s7 zL7 0, r8, r9])) rfl ?_
          refine zB.opi oX12_findOrder rfl (zi_and1 (on_ / (2 : Int) ^ c.toNat)) ?_
          obtain ⟨g13, H⟩ := zgd H
          have H := zif H
          refine xB.brE oX12_findOrder (P := ((on_ / (2 : Int) ^ c.toNat) % 2) ≠ 0) rfl (zc_ne (a := (on_ / (2 : Int) ^ c.toNat) % 2) (b := 0) ⟨g13, by decide⟩) (fun h7 => ?_) (fun h7 => ?_)
          · have H := H.1 h7
            refine xB.run oX12_findOrder 2 (s := (81, [some (.ref 7168), some (.int (zI set)), some (.int (zI on_)), some (.int (zI 0)), some (.int (zI c))], [], [r0, r1, r2, r3, r4, r5, r6, zH s7 zL7 0, r8, r9])) rfl ?_
            refine zB.inc oX12_findOrder rfl (lv2 := [some (.ref 7168), some (.int (zI set)), some (.int (zI on_)), some (.int (zI 0)), some (.int (zI (c + 1)))]) (zi_inc (a := 0) (zi_addp1 c) _ rfl) ?_
            refine xB.run oX12_findOrder 1 (s := (31, [some (.ref 7168), some (.int (zI set)), some (.int (zI on_)), some (.int (zI 0)), some (.int (zI (c + 1)))], [], [r0, r1, r2, r3, r4, r5, r6, zH s7 zL7 0, r8, r9])) rfl ?_
            exact ih 0 (c + 1) H K
          · have H := H.2 h7
            refine xB.run oX12_findOrder 5 (s := (69, [some (.ref 7168), some (.int (zI set)), some (.int (zI on_)), some (.int (zI may)), some (.int (zI c))], [.int (zI c), .int (zI 1), .int (zI on_), .ref 7194], [r0, r1, r2, r3, r4, r5, r6, zH s7 zL7 0, r8, r9])) rfl ?_
            obtain ⟨g12, H⟩ := zgd H
            refine zB.opi oX12_findOrder (y := (2 : Int) ^ c.toNat) rfl (zi_shl1 (c := c) g12) ?_
            obtain ⟨g11, H⟩ := zgd H
            refine zB.opi oX12_findOrder rfl (zi_or (a := on_) (b := (2 : Int) ^ c.toNat) g11.1 g11.2) ?_
            obtain ⟨g10, H⟩ := zgd H
            refine zB.bald oX12_findOrder (g := 7) (p := 26) (N := 64) (i := ((on_.toNat ||| ((2 : Int) ^ c.toNat).toNat : Nat) : Int)) rfl rfl (by decide) rfl rfl (by decide) g10 ?_
            obtain ⟨g9, H⟩ := zgd H
            have H := zif H
            refine xB.brE oX12_findOrder (P := (s7 26 ((on_.toNat ||| ((2 : Int) ^ c.toNat).toNat : Nat) : Int).toNat) = 0) rfl (zc_eq (a := s7 26 ((on_.toNat ||| ((2 : Int) ^ c.toNat).toNat : Nat) : Int).toNat) (b := 0) ⟨g9, by decide⟩) (fun h8 => ?_) (fun h8 => ?_)
            · have H := H.1 h8
              refine xB.run oX12_findOrder 2 (s := (81, [some (.ref 7168), some (.int (zI set)), some (.int (zI on_)), some (.int (zI 0)), some (.int (zI c))], [], [r0, r1, r2, r3, r4, r5, r6, zH s7 zL7 0, r8, r9])) rfl ?_
              refine zB.inc oX12_findOrder rfl (lv2 := [some (.ref 7168), some (.int (zI set)), some (.int (zI on_)), some (.int (zI 0)), some (.int (zI (c + 1)))]) (zi_inc (a := 0) (zi_addp1 c) _ rfl) ?_
              refine xB.run oX12_findOrder 1 (s := (31, [some (.ref 7168), some (.int (zI set)), some (.int (zI on_)), some (.int (zI 0)), some (.int (zI (c + 1)))], [], [r0, r1, r2, r3, r4, r5, r6, zH s7 zL7 0, r8, r9])) rfl ?_
              exact ih 0 (c + 1) H K
            · have H := H.2 h8
              refine xB.run oX12_findOrder 3 (s := (81, [some (.ref 7168), some (.int (zI set)), some (.int (zI on_)), some (.int (zI 1)), some (.int (zI c))], [], [r0, r1, r2, r3, r4, r5, r6, zH s7 zL7 0, r8, r9])) rfl ?_
              refine zB.inc oX12_findOrder rfl (lv2 := [some (.ref 7168), some (.int (zI set)), some (.int (zI on_)), some (.int (zI 1)), some (.int (zI (c + 1)))]) (zi_inc (a := 0) (zi_addp1 c) _ rfl) ?_
              refine xB.run oX12_findOrder 1 (s := (31, [some (.ref 7168), some (.int (zI set)), some (.int (zI on_)), some (.int (zI 1)), some (.int (zI (c + 1)))], [], [r0, r1, r2, r3, r4, r5, r6, zH s7 zL7 0, r8, r9])) rfl ?_
              exact ih 1 (c + 1) H K
set_option maxRecDepth 20000 in
theorem l_X12_findOrder_2 (r0 : List va_E) (r1 : List va_E) (r2 : List va_E) (r3 : List va_E) (r4 : List va_E) (r5 : List va_E) (r6 : List va_E) (r8 : List va_E) (r9 : List va_E) (set : Int) {r : Option Value} {hp1 : xH} : ∀ (uN : Nat) (on_ : Int) (s7 : zZ) {uX : Int × zZ}, d_X12_findOrder_2 set uN on_ s7 = some uX → (xBody MX12_findOrder 7 120 [some (.ref 7168), some (.int (zI set)), some (.int (zI uX.1)), none, none] [] ([r0, r1, r2, r3, r4, r5, r6, zH uX.2 zL7 0, r8, r9]) r hp1) → xBody MX12_findOrder 7 2 [some (.ref 7168), some (.int (zI set)), some (.int (zI on_)), none, none] [] ([r0, r1, r2, r3, r4, r5, r6, zH s7 zL7 0, r8, r9]) r hp1 := by
  intro uN
  induction uN with
  | zero => intro on_ s7 uX H K; cases H
  | succ uN ih =>
    intro on_ s7 uX H K
    unfold d_X12_findOrder_2 at H
    refine xB.run oX12_findOrder 1 (s := (3, [some (.ref 7168), some (.int (zI set)), some (.int (zI on_)), none, none], [.int (zI on_)], [r0, r1, r2, r3, r4, r5, r6, zH s7 zL7 0, r8, r9])) rfl ?_
    obtain ⟨g50, H⟩ := zgd H
    have H := zif H
    refine xB.brE oX12_findOrder (P := on_ < 0) rfl (zc_lt (a := on_) (b := 0) ⟨g50, by decide⟩) (fun h1 => ?_) (fun h1 => ?_)
    · have H := H.1 h1
      obtain rfl := Option.some.inj H
      exact K
    · have H := H.2 h1
      refine xB.run oX12_findOrder 3 (s := (9, [some (.ref 7168), some (.int (zI set)), some (.int (zI on_)), none, none], [.int (zI (-1)), .int (zI set), .int (zI on_)], [r0, r1, r2, r3, r4, r5, r6, zH s7 zL7 0, r8, r9])) rfl ?_
      refine zB.opi oX12_findOrder rfl (zi_not set) ?_
      obtain ⟨g49, H⟩ := zgd H
      refine zB.opi oX12_findOrder rfl (zi_andnot (a := on_) (b := set) g49.1 g49.2) ?_
      obtain ⟨g48, H⟩ := zgd H
      have H := zif H
      refine xB.brE oX12_findOrder (P := (on_ - ((on_.toNat &&& set.toNat : Nat) : Int)) = 0) rfl (zc_eq (a := on_ - ((on_.toNat &&& set.toNat : Nat) : Int)) (b := 0) ⟨g48, by decide⟩) (fun h2 => ?_) (fun h2 => ?_)
      · have H := H.1 h2
        refine xB.run oX12_findOrder 2 (s := (19, [some (.ref 7168), some (.int (zI set)), some (.int (zI on_)), none, none], [.int (zI set), .int (zI on_)], [r0, r1, r2, r3, r4, r5, r6, zH s7 zL7 0, r8, r9])) rfl ?_
        obtain ⟨g47, H⟩ := zgd H
        have H := zif H
        refine xB.brE oX12_findOrder (P := on_ ≠ set) rfl (zc_ne (a := on_) (b := set) g47) (fun h3 => ?_) (fun h3 => ?_)
        · have H := H.1 h3
          refine xB.run oX12_findOrder 4 (s := (31, [some (.ref 7168), some (.int (zI set)), some (.int (zI on_)), some (.int (zI 0)), some (.int (zI 0))], [], [r0, r1, r2, r3, r4, r5, r6, zH s7 zL7 0, r8, r9])) rfl ?_
          obtain ⟨y19, e20, H⟩ := zbd H
          refine l_X12_findOrder_31 r0 r1 r2 r3 r4 r5 r6 s7 r8 r9 set on_ _ 0 0 e20 ?_
          refine xB.run oX12_findOrder 4 (s := (93, [some (.ref 7168), some (.int (zI set)), some (.int (zI on_)), some (.int (zI y19.1)), some (.int (zI y19.2))], [.int (zI y19.1), .int (zI on_), .ref 7194], [r0, r1, r2, r3, r4, r5, r6, zH s7 zL7 0, r8, r9])) rfl ?_
          obtain ⟨g32, H⟩ := zgd H
          have H := zif H
          refine xB.brE oX12_findOrder (P := y19.1 = 0) rfl (zc_eq (a := y19.1) (b := 0) ⟨g32, by decide⟩) (fun h21 => ?_) (fun h21 => ?_)
          · have H := H.1 h21
            refine xB.run oX12_findOrder 1 (s := (113, [some (.ref 7168), some (.int (zI set)), some (.int (zI on_)), some (.int (zI y19.1)), some (.int (zI y19.2))], [.int (zI 0), .int (zI on_), .ref 7194], [r0, r1, r2, r3, r4, r5, r6, zH s7 zL7 0, r8, r9])) rfl ?_
            obtain ⟨g22, H⟩ := zgd H
            refine zB.bast oX12_findOrder (g := 7) (p := 26) (N := 64) (i := on_) (hp1 := [r0, r1, r2, r3, r4, r5, r6, zH (upz s7 26 on_.toNat 0) zL7 0, r8, r9]) rfl rfl (by decide) (by decide) rfl rfl (by decide) (by decide) g22 rfl ?_
            refine zB.inc oX12_findOrder rfl (lv2 := [some (.ref 7168), some (.int (zI set)), some (.int (zI (on_ + (-1)))), some (.int (zI y19.1)), some (.int (zI y19.2))]) (zi_inc (a := 0) (zi_addm1 on_) _ rfl) ?_
            refine xB.run oX12_findOrder 1 (s := (2, [some (.ref 7168), some (.int (zI set)), some (.int (zI (on_ + (-1)))), some (.int (zI y19.1)), some (.int (zI y19.2))], [], [r0, r1, r2, r3, r4, r5, r6, zH (upz s7 26 on_.toNat 0) zL7 0, r8, r9])) rfl ?_
            refine xB.forget (lv1 := [some (.ref 7168), some (.int (zI set)), some (.int (zI (on_ + (-1)))), none, none]) (xle_same (xle_same (xle_same (xle_none (xle_none (xle_nil)))))) ?_
            exact ih (on_ + (-1)) (upz s7 26 on_.toNat 0) H K
          · have H := H.2 h21
            refine xB.run oX12_findOrder 1 (s := (97, [some (.ref 7168), some (.int (zI set)), some (.int (zI on_)), some (.int (zI y19.1)), some (.int (zI y19.2))], [.int (zI on_), .int (zI on_), .ref 7194], [r0, r1, r2, r3, r4, r5, r6, zH s7 zL7 0, r8, r9])) rfl ?_
            obtain ⟨g31, H⟩ := zgd H
            have H := zif H
            refine xB.brE oX12_findOrder (P := on_ = 0) rfl (zc_eq (a := on_) (b := 0) ⟨g31, by decide⟩) (fun h23 => ?_) (fun h23 => ?_)
            · have H := H.1 h23
              refine xB.run oX12_findOrder 2 (s := (113, [some (.ref 7168), some (.int (zI set)), some (.int (zI on_)), some (.int (zI y19.1)), some (.int (zI y19.2))], [.int (zI 1), .int (zI on_), .ref 7194], [r0, r1, r2, r3, r4, r5, r6, zH s7 zL7 0, r8, r9])) rfl ?_
              obtain ⟨g24, H⟩ := zgd H
              refine zB.bast oX12_findOrder (g := 7) (p := 26) (N := 64) (i := on_) (hp1 := [r0, r1, r2, r3, r4, r5, r6, zH (upz s7 26 on_.toNat 1) zL7 0, r8, r9]) rfl rfl (by decide) (by decide) rfl rfl (by decide) (by decide) g24 rfl ?_
              refine zB.inc oX12_findOrder rfl (lv2 := [some (.ref 7168), some (.int (zI set)), some (.int (zI (on_ + (-1)))), some (.int (zI y19.1)), some (.int (zI y19.2))]) (zi_inc (a := 0) (zi_addm1 on_) _ rfl) ?_
              refine xB.run oX12_findOrder 1 (s := (2, [some (.ref 7168), some (.int (zI set)), some (.int (zI (on_ + (-1)))), some (.int (zI y19.1)), some (.int (zI y19.2))], [], [r0, r1, r2, r3, r4, r5, r6, zH (upz s7 26 on_.toNat 1) zL7 0, r8, r9])) rfl ?_
              refine xB.forget (lv1 := [some (.ref 7168), some (.int (zI set)), some (.int (zI (on_ + (-1)))), none, none]) (xle_same (xle_same (xle_same (xle_none (xle_none (xle_nil)))))) ?_
              exact ih (on_ + (-1)) (upz s7 26 on_.toNat 1) H K
            · have H := H.2 h23
              refine xB.run oX12_findOrder 2 (s := (102, [some (.ref 7168), some (.int (zI set)), some (.int (zI on_)), some (.int (zI y19.1)), some (.int (zI y19.2))], [.int (zI on_), .ref 7168, .int (zI on_), .ref 7194], [r0, r1, r2, r3, r4, r5, r6, zH s7 zL7 0, r8, r9])) rfl ?_
              obtain ⟨y25, e26, H⟩ := zbd H
              refine xB.call oX12_findOrder (M2 := MX12_doesNoneGive) rfl rfl ((t_X12_doesNoneGive r0 r1 r2 r3 r4 r5 r6 s7 r8 r9 on_ e26).deep (by decide : 6 ≤ 6)) ?_
              show xBody MX12_findOrder 7 105 [some (.ref 7168), some (.int (zI set)), some (.int (zI on_)), some (.int (zI y19.1)), some (.int (zI y19.2))] [.int (zI y25.1), .int (zI on_), .ref 7194] ([r0, r1, r2, r3, r4, r5, r6, zH y25.2 zL7 0, r8, r9]) _ _
              obtain ⟨g30, H⟩ := zgd H
              have H := zif H
              refine xB.brE oX12_findOrder (P := y25.1 = 0) rfl (zc_eq (a := y25.1) (b := 0) ⟨g30, by decide⟩) (fun h27 => ?_) (fun h27 => ?_)
              · have H := H.1 h27
                refine xB.run oX12_findOrder 1 (s := (113, [some (.ref 7168), some (.int (zI set)), some (.int (zI on_)), some (.int (zI y19.1)), some (.int (zI y19.2))], [.int (zI 0), .int (zI on_), .ref 7194], [r0, r1, r2, r3, r4, r5, r6, zH y25.2 zL7 0, r8, r9])) rfl ?_
                obtain ⟨g28, H⟩ := zgd H
                refine zB.bast oX12_findOrder (g := 7) (p := 26) (N := 64) (i := on_) (hp1 := [r0, r1, r2, r3, r4, r5, r6, zH (upz y25.2 26 on_.toNat 0) zL7 0, r8, r9]) rfl rfl (by decide) (by decide) rfl rfl (by decide) (by decide) g28 rfl ?_
                refine zB.inc oX12_findOrder rfl (lv2 := [some (.ref 7168), some (.int (zI set)), some (.int (zI (on_ + (-1)))), some (.int (zI y19.1)), some (.int (zI y19.2))]) (zi_inc (a := 0) (zi_addm1 on_) _ rfl) ?_
                refine xB.run oX12_findOrder 1 (s := (2, [some (.ref 7168), some (.int (zI set)), some (.int (zI (on_ + (-1)))), some (.int (zI y19.1)), some (.int (zI y19.2))], [], [r0, r1, r2, r3, r4, r5, r6, zH (upz y25.2 26 on_.toNat 0) zL7 0, r8, r9])) rfl ?_
                refine xB.forget (lv1 := [some (.ref 7168), some (.int (zI set)), some (.int (zI (on_ + (-1)))), none, none]) (xle_same (xle_same (xle_same (xle_none (xle_none (xle_nil)))))) ?_
                exact ih (on_ + (-1)) (upz y25.2 26 on_.toNat 0) H K
              · have H := H.2 h27
                refine xB.run oX12_findOrder 2 (s := (113, [some (.ref 7168), some (.int (zI set)), some (.int (zI on_)), some (.int (zI y19.1)), some (.int (zI y19.2))], [.int (zI 1), .int (zI on_), .ref 7194], [r0, r1, r2, r3, r4, r5, r6, zH y25.2 zL7 0, r8, r9])) rfl ?_
                obtain ⟨g29, H⟩ := zgd H
                refine zB.bast oX12_findOrder (g := 7) (p := 26) (N := 64) (i := on_) (hp1 := [r0, r1, r2, r3, r4, r5, r6, zH (upz y25.2 26 on_.toNat 1) zL7 0, r8, r9]) rfl rfl (by decide) (by decide) rfl rfl (by decide) (by decide) g29 rfl ?_
                refine zB.inc oX12_findOrder rfl (lv2 := [some (.ref 7168), some (.int (zI set)), some (.int (zI (on_ + (-1)))), some (.int (zI y19.1)), some (.int (zI y19.2))]) (zi_inc (a := 0) (zi_addm1 on_) _ rfl) ?_
                refine xB.run oX12_findOrder 1 (s := (2, [some (.ref 7168), some (.int (zI set)), some (.int (zI (on_ + (-1)))), some (.int (zI y19.1)), some (.int (zI y19.2))], [], [r0, r1, r2, r3, r4, r5, r6, zH (upz y25.2 26 on_.toNat 1) zL7 0, r8, r9])) rfl ?_
                refine xB.forget (lv1 := [some (.ref 7168), some (.int (zI set)), some (.int (zI (on_ + (-1)))), none, none]) (xle_same (xle_same (xle_same (xle_none (xle_none (xle_nil)))))) ?_
                exact ih (on_ + (-1)) (upz y25.2 26 on_.toNat 1) H K
        · have H := H.2 h3
          refine xB.run oX12_findOrder 5 (s := (31, [some (.ref 7168), some (.int (zI set)), some (.int (zI on_)), some (.int (zI 1)), some (.int (zI 0))], [], [r0, r1, r2, r3, r4, r5, r6, zH s7 zL7 0, r8, r9])) rfl ?_
          obtain ⟨y33, e34, H⟩ := zbd H
          refine l_X12_findOrder_31 r0 r1 r2 r3 r4 r5 r6 s7 r8 r9 set on_ _ 1 0 e34 ?_
          refine xB.run oX12_findOrder 4 (s := (93, [some (.ref 7168), some (.int (zI set)), some (.int (zI on_)), some (.int (zI y33.1)), some (.int (zI y33.2))], [.int (zI y33.1), .int (zI on_), .ref 7194], [r0, r1, r2, r3, r4, r5, r6, zH s7 zL7 0, r8, r9])) rfl ?_
          obtain ⟨g46, H⟩ := zgd H
          have H := zif H
          refine xB.brE oX12_findOrder (P := y33.1 = 0) rfl (zc_eq (a := y33.1) (b := 0) ⟨g46, by decide⟩) (fun h35 => ?_) (fun h35 => ?_)
          · have H := H.1 h35
            refine xB.run oX12_findOrder 1 (s := (113, [some (.ref 7168), some (.int (zI set)), some (.int (zI on_)), some (.int (zI y33.1)), some (.int (zI y33.2))], [.int (zI 0), .int (zI on_), .ref 7194], [r0, r1, r2, r3, r4, r5, r6, zH s7 zL7 0, r8, r9])) rfl ?_
            obtain ⟨g36, H⟩ := zgd H
            refine zB.bast oX12_findOrder (g := 7) (p := 26) (N := 64) (i := on_) (hp1 := [r0, r1, r2, r3, r4, r5, r6, zH (upz s7 26 on_.toNat 0) zL7 0, r8, r9]) rfl rfl (by decide) (by decide) rfl rfl (by decide) (by decide) g36 rfl ?_
            refine zB.inc oX12_findOrder rfl (lv2 := [some (.ref 7168), some (.int (zI set)), some (.int (zI (on_ + (-1)))), some (.int (zI y33.1)), some (.int (zI y33.2))]) (zi_inc (a := 0) (zi_addm1 on_) _ rfl) ?_
            refine xB.run oX12_findOrder 1 (s := (2, [some (.ref 7168), some (.int (zI set)), some (.int (zI (on_ + (-1)))), some (.int (zI y33.1)), some (.int (zI y33.2))], [], [r0, r1, r2, r3, r4, r5, r6, zH (upz s7 26 on_.toNat 0) zL7 0, r8, r9])) rfl ?_
            refine xB.forget (lv1 := [some (.ref 7168), some (.int (zI set)), some (.int (zI (on_ + (-1)))), none, none]) (xle_same (xle_same (xle_same (xle_none (xle_none (xle_nil)))))) ?_
            exact ih (on_ + (-1)) (upz s7 26 on_.toNat 0) H K
          · have H := H.2 h35
            refine xB.run oX12_findOrder 1 (s := (97, [some (.ref 7168), some (.int (zI set)), some (.int (zI on_)), some (.int (zI y33.1)), some (.int (zI y33.2))], [.int (zI on_), .int (zI on_), .ref 7194], [r0, r1, r2, r3, r4, r5, r6, zH s7 zL7 0, r8, r9])) rfl ?_
            obtain ⟨g45, H⟩ := zgd H
            have H := zif H
            refine xB.brE oX12_findOrder (P := on_ = 0) rfl (zc_eq (a := on_) (b := 0) ⟨g45, by decide⟩) (fun h37 => ?_) (fun h37 => ?_)
            · have H := H.1 h37
              refine xB.run oX12_findOrder 2 (s := (113, [some (.ref 7168), some (.int (zI set)), some (.int (zI on_)), some (.int (zI y33.1)), some (.int (zI y33.2))], [.int (zI 1), .int (zI on_), .ref 7194], [r0, r1, r2, r3, r4, r5, r6, zH s7 zL7 0, r8, r9])) rfl ?_
              obtain ⟨g38, H⟩ := zgd H
              refine zB.bast oX12_findOrder (g := 7) (p := 26) (N := 64) (i := on_) (hp1 := [r0, r1, r2, r3, r4, r5, r6, zH (upz s7 26 on_.toNat 1) zL7 0, r8, r9]) rfl rfl (by decide) (by decide) rfl rfl (by decide) (by decide) g38 rfl ?_
              refine zB.inc oX12_findOrder rfl (lv2 := [some (.ref 7168), some (.int (zI set)), some (.int (zI (on_ + (-1)))), some (.int (zI y33.1)), some (.int (zI y33.2))]) (zi_inc (a := 0) (zi_addm1 on_) _ rfl) ?_
              refine xB.run oX12_findOrder 1 (s := (2, [some (.ref 7168), some (.int (zI set)), some (.int (zI (on_ + (-1)))), some (.int (zI y33.1)), some (.int (zI y33.2))], [], [r0, r1, r2, r3, r4, r5, r6, zH (upz s7 26 on_.toNat 1) zL7 0, r8, r9])) rfl ?_
              refine xB.forget (lv1 := [some (.ref 7168), some (.int (zI set)), some (.int (zI (on_ + (-1)))), none, none]) (xle_same (xle_same (xle_same (xle_none (xle_none (xle_nil)))))) ?_
              exact ih (on_ + (-1)) (upz s7 26 on_.toNat 1) H K
            · have H := H.2 h37
              refine xB.run oX12_findOrder 2 (s := (102, [some (.ref 7168), some (.int (zI set)), some (.int (zI on_)), some (.int (zI y33.1)), some (.int (zI y33.2))], [.int (zI on_), .ref 7168, .int (zI on_), .ref 7194], [r0, r1, r2, r3, r4, r5, r6, zH s7 zL7 0, r8, r9])) rfl ?_
              obtain ⟨y39, e40, H⟩ := zbd H
              refine xB.call oX12_findOrder (M2 := MX12_doesNoneGive) rfl rfl ((t_X12_doesNoneGive r0 r1 r2 r3 r4 r5 r6 s7 r8 r9 on_ e40).deep (by decide : 6 ≤ 6)) ?_
              show xBody MX12_findOrder 7 105 [some (.ref 7168), some (.int (zI set)), some (.int (zI on_)), some (.int (zI y33.1)), some (.int (zI y33.2))] [.int (zI y39.1), .int (zI on_), .ref 7194] ([r0, r1, r2, r3, r4, r5, r6, zH y39.2 zL7 0, r8, r9]) _ _
              obtain ⟨g44, H⟩ := zgd H
              have H := zif H
              refine xB.brE oX12_findOrder (P := y39.1 = 0) rfl (zc_eq (a := y39.1) (b := 0) ⟨g44, by decide⟩) (fun h41 => ?_) (fun h41 => ?_)
              · have H := H.1 h41
                refine xB.run oX12_findOrder 1 (s := (113, [some (.ref 7168), some (.int (zI set)), some (.int (zI on_)), some (.int (zI y33.1)), some (.int (zI y33.2))], [.int (zI 0), .int (zI on_), .ref 7194], [r0, r1, r2, r3, r4, r5, r6, zH y39.2 zL7 0, r8, r9])) rfl ?_
                obtain ⟨g42, H⟩ := zgd H
                refine zB.bast oX12_findOrder (g := 7) (p := 26) (N := 64) (i := on_) (hp1 := [r0, r1, r2, r3, r4, r5, r6, zH (upz y39.2 26 on_.toNat 0) zL7 0, r8, r9]) rfl rfl (by decide) (by decide) rfl rfl (by decide) (by decide) g42 rfl ?_
                refine zB.inc oX12_findOrder rfl (lv2 := [some (.ref 7168), some (.int (zI set)), some (.int (zI (on_ + (-1)))), some (.int (zI y33.1)), some (.int (zI y33.2))]) (zi_inc (a := 0) (zi_addm1 on_) _ rfl) ?_
                refine xB.run oX12_findOrder 1 (s := (2, [some (.ref 7168), some (.int (zI set)), some (.int (zI (on_ + (-1)))), some (.int (zI y33.1)), some (.int (zI y33.2))], [], [r0, r1, r2, r3, r4, r5, r6, zH (upz y39.2 26 on_.toNat 0) zL7 0, r8, r9])) rfl ?_
                refine xB.forget (lv1 := [some (.ref 7168), some (.int (zI set)), some (.int (zI (on_ + (-1)))), none, none]) (xle_same (xle_same (xle_same (xle_none (xle_none (xle_nil)))))) ?_
                exact ih (on_ + (-1)) (upz y39.2 26 on_.toNat 0) H K
              · have H := H.2 h41
                refine xB.run oX12_findOrder 2 (s := (113, [some (.ref 7168), some (.int (zI set)), some (.int (zI on_)), some (.int (zI y33.1)), some (.int (zI y33.2))], [.int (zI 1), .int (zI on_), .ref 7194], [r0, r1, r2, r3, r4, r5, r6, zH y39.2 zL7 0, r8, r9])) rfl ?_
                obtain ⟨g43, H⟩ := zgd H
                refine zB.bast oX12_findOrder (g := 7) (p := 26) (N := 64) (i := on_) (hp1 := [r0, r1, r2, r3, r4, r5, r6, zH (upz y39.2 26 on_.toNat 1) zL7 0, r8, r9]) rfl rfl (by decide) (by decide) rfl rfl (by decide) (by decide) g43 rfl ?_
                refine zB.inc oX12_findOrder rfl (lv2 := [some (.ref 7168), some (.int (zI set)), some (.int (zI (on_ + (-1)))), some (.int (zI y33.1)), some (.int (zI y33.2))]) (zi_inc (a := 0) (zi_addm1 on_) _ rfl) ?_
                refine xB.run oX12_findOrder 1 (s := (2, [some (.ref 7168), some (.int (zI set)), some (.int (zI (on_ + (-1)))), some (.int (zI y33.1)), some (.int (zI y33.2))], [], [r0, r1, r2, r3, r4, r5, r6, zH (upz y39.2 26 on_.toNat 1) zL7 0, r8, r9])) rfl ?_
                refine xB.forget (lv1 := [some (.ref 7168), some (.int (zI set)), some (.int (zI (on_ + (-1)))), none, none]) (xle_same (xle_same (xle_same (xle_none (xle_none (xle_nil)))))) ?_
                exact ih (on_ + (-1)) (upz y39.2 26 on_.toNat 1) H K
      · have H := H.2 h2
        refine xB.run oX12_findOrder 1 (s := (114, [some (.ref 7168), some (.int (zI set)), some (.int (zI on_)), none, none], [], [r0, r1, r2, r3, r4, r5, r6, zH s7 zL7 0, r8, r9])) rfl ?_
        refine zB.inc oX12_findOrder rfl (lv2 := [some (.ref 7168), some (.int (zI set)), some (.int (zI (on_ + (-1)))), none, none]) (zi_inc (a := 0) (zi_addm1 on_) _ rfl) ?_
        refine xB.run oX12_findOrder 1 (s := (2, [some (.ref 7168), some (.int (zI set)), some (.int (zI (on_ + (-1)))), none, none], [], [r0, r1, r2, r3, r4, r5, r6, zH s7 zL7 0, r8, r9])) rfl ?_
        exact ih (on_ + (-1)) s7 H K
set_option maxRecDepth 20000 in
theorem t_X12_findOrder (r0 : List va_E) (r1 : List va_E) (r2 : List va_E) (r3 : List va_E) (r4 : List va_E) (r5 : List va_E) (r6 : List va_E) (s7 : zZ) (r8 : List va_E) (r9 : List va_E) (set : Int) {rr : zZ} (H : d_X12_findOrder s7 set = some rr) : xC MX12_findOrder 7 [.ref 7168, .int (zI set)] ([r0, r1, r2, r3, r4, r5, r6, zH s7 zL7 0, r8, r9]) (none) ([r0, r1, r2, r3, r4, r5, r6, zH rr zL7 0, r8, r9]) := by
  refine ⟨Nat.le_of_ble_eq_true rfl, ?_⟩
  show xBody MX12_findOrder 7 0 [some (.ref 7168), some (.int (zI set)), none, none, none] [] ([r0, r1, r2, r3, r4, r5, r6, zH s7 zL7 0, r8, r9]) _ _
  unfold d_X12_findOrder at H
  refine xB.run oX12_findOrder 2 (s := (2, [some (.ref 7168), some (.int (zI set)), some (.int (zI set)), none, none], [], [r0, r1, r2, r3, r4, r5, r6, zH s7 zL7 0, r8, r9])) rfl ?_
  obtain ⟨y51, e52, H⟩ := zbd H
  refine l_X12_findOrder_2 r0 r1 r2 r3 r4 r5 r6 r8 r9 set _ set s7 e52 ?_
  obtain rfl := Option.some.inj H
  exact xB.ret oX12_findOrder (r1 := none) rfl rfl rfl
def d_X12_order_35 (set : Int) (i : Int) : Nat → Int → zZ → Option (Sum (Int × zZ) (Int × zZ))
  | 0, _, _ => none
  | uN + 1, v3, s7 => if (zr v3) then (if (6 : Int) ≤ v3 then some (.inl (v3, s7)) else (if (zr set ∧ (0 ≤ v3 ∧ v3 < 32)) then (if (zr ((set / (2 : Int) ^ v3.toNat) % 2)) then (if ((set / (2 : Int) ^ v3.toNat) % 2) ≠ 1 then (d_X12_order_35 set i uN (v3 + 1) s7) else (if (0 ≤ v3 ∧ v3 < 32) then ((d_X12_isTold s7 ((2 : Int) ^ v3.toNat)).bind fun y11 => if (zr y11.1) then (if y11.1 ≠ 0 then (d_X12_order_35 set i uN (v3 + 1) y11.2) else some (.inr ((-3), y11.2))) else none) else none)) else none) else none)) else none
def d_X12_order_103 (s7 : zZ) (set : Int) (i : Int) (v3 : Int) (v4 : Int) (v5 : Int) : Nat → Int → Option (Int)
  | 0, _ => none
  | uN + 1, v6 => if (zr set ∧ (0 ≤ v6 ∧ v6 < 32)) then (if (zr ((set / (2 : Int) ^ v6.toNat) % 2)) then (if ((set / (2 : Int) ^ v6.toNat) % 2) = 0 then (d_X12_order_103 s7 set i v3 v4 v5 uN (v6 + 1)) else (if (zr v3 ∧ (0 ≤ v6 ∧ v6 < 32)) then (if (zr ((v3 / (2 : Int) ^ v6.toNat) % 2)) then (if ((v3 / (2 : Int) ^ v6.toNat) % 2) = 1 then (d_X12_order_103 s7 set i v3 v4 v5 uN (v6 + 1)) else (if (0 ≤ v6 ∧ v6 < 32) then (if ((0 ≤ v3 ∧ zr v3) ∧ (0 ≤ ((2 : Int) ^ v6.toNat) ∧ zr ((2 : Int) ^ v6.toNat))) then (if (0 ≤ ((v3.toNat ||| ((2 : Int) ^ v6.toNat).toNat : Nat) : Int) ∧ ((v3.toNat ||| ((2 : Int) ^ v6.toNat).toNat : Nat) : Int) < 64) then (if (zr (s7 26 ((v3.toNat ||| ((2 : Int) ^ v6.toNat).toNat : Nat) : Int).toNat)) then (if (s7 26 ((v3.toNat ||| ((2 : Int) ^ v6.toNat).toNat : Nat) : Int).toNat) ≠ 0 then some v6 else (d_X12_order_103 s7 set i v3 v4 v5 uN (v6 + 1))) else none) else none) else none) else none)) else none) else none)) else none) else none
def d_X12_order_94 (s7 : zZ) (set : Int) (i : Int) : Nat → Int → Int → Int → Option (Int × Int × Int)
  | 0, _, _, _ => none
  | uN + 1, v3, v4, v5 => if (zr v5 ∧ zr i) then (if i < v5 then some (v3, v4, v5) else ((d_X12_order_103 s7 set i v3 v4 v5 zF 0).bind fun y38 => if (0 ≤ y38 ∧ y38 < 32) then (if ((0 ≤ v3 ∧ zr v3) ∧ (0 ≤ ((2 : Int) ^ y38.toNat) ∧ zr ((2 : Int) ^ y38.toNat))) then (d_X12_order_94 s7 set i uN ((v3.toNat ||| ((2 : Int) ^ y38.toNat).toNat : Nat) : Int) y38 (v5 + 1)) else none) else none)) else none
def d_X12_order (s7 : zZ) (set : Int) (i : Int) : Option (Int × zZ) := if zr set then ((d_X12_within set 1 63).bind fun y1 => if (zr y1) then (if y1 ≠ 0 then (if zr i then ((d_X12_bitsOf set).bind fun y4 => if zr (y4 - 1) then ((d_X12_within i 0 (y4 - 1)).bind fun y6 => if (zr y6) then (if y6 ≠ 0 then ((d_X12_order_35 set i zF 0 s7).bind fun y19 => match y19 with | .inl y21 => (d_X12_findOrder y21.2 set).bind fun y23 => if (zr (y23 26 0)) then (if (y23 26 0) ≠ 0 then ((d_X12_order_94 y23 set i zF 0 0 0).bind fun y43 => some (y43.2.1, y23)) else some ((-9), y23)) else none | .inr y22 => some y22) else some ((-1), s7)) else none) else none) else none) else some ((-2), s7)) else none) else none
set_option maxRecDepth 20000 in
theorem l_X12_order_35 (r0 : List va_E) (r1 : List va_E) (r2 : List va_E) (r3 : List va_E) (r4 : List va_E) (r5 : List va_E) (r6 : List va_E) (r8 : List va_E) (r9 : List va_E) (set : Int) (i : Int) {r : Option Value} {hp1 : xH} : ∀ (uN : Nat) (v3 : Int) (s7 : zZ) {uX : Sum (Int × zZ) (Int × zZ)}, d_X12_order_35 set i uN v3 s7 = some uX → ((∀ uY, uX = .inl uY → xBody MX12_order 8 69 [some (.ref 7168), some (.int (zI set)), some (.int (zI i)), some (.int (zI uY.1)), none, none, none] [] ([r0, r1, r2, r3, r4, r5, r6, zH uY.2 zL7 0, r8, r9]) r hp1) ∧ (∀ uW, uX = .inr uW → r = some (.int (zI uW.1)) ∧ hp1 = [r0, r1, r2, r3, r4, r5, r6, zH uW.2 zL7 0, r8, r9])) → xBody MX12_order 8 35 [some (.ref 7168), some (.int (zI set)), some (.int (zI i)), some (.int (zI v3)), none, none, none] [] ([r0, r1, r2, r3, r4, r5, r6, zH s7 zL7 0, r8, r9]) r hp1 := by
  intro uN
  induction uN with
  | zero => intro v3 s7 uX H K; cases H
  | succ uN ih =>
    intro v3 s7 uX H K
    unfold d_X12_order_35 at H
    refine xB.run oX12_order 2 (s := (38, [some (.ref 7168), some (.int (zI set)), some (.int (zI i)), some (.int (zI v3)), none, none, none], [.int (zI 6), .int (zI v3)], [r0, r1, r2, r3, r4, r5, r6, zH s7 zL7 0, r8, r9])) rfl ?_
    obtain ⟨g18, H⟩ := zgd H
    have H := zif H
    refine xB.brE oX12_order (P := (6 : Int) ≤ v3) rfl (zc_ge (a := v3) (b := 6) ⟨g18, by decide⟩) (fun h9 => ?_) (fun h9 => ?_)
    · have H := H.1 h9
      obtain rfl := Option.some.inj H
      exact K.1 _ rfl
    · have H := H.2 h9
      refine xB.run oX12_order 2 (s := (43, [some (.ref 7168), some (.int (zI set)), some (.int (zI i)), some (.int (zI v3)), none, none, none], [.int (zI v3), .int (zI set)], [r0, r1, r2, r3, r4, r5, r6, zH s7 zL7 0, r8, r9])) rfl ?_
      obtain ⟨g17, H⟩ := zgd H
      refine zB.opi oX12_order rfl (zi_shr (c := v3) g17.1 g17.2) ?_
      refine xB.run oX12_order 1 (s := (45, [some (.ref 7168), some (.int (zI set)), some (.int (zI i)), some (.int (zI v3)), none, none, none], [.int (zI 1), .int (zI (set / (2 : Int) ^ v3.toNat))], [r0, r1, r2, r3, r4, r5, r6, zH s7 zL7 0, r8, r9])) rfl ?_
      refine zB.opi oX12_order rfl (zi_and1 (set / (2 : Int) ^ v3.toNat)) ?_
      refine xB.run oX12_order 1 (s := (47, [some (.ref 7168), some (.int (zI set)), some (.int (zI i)), some (.int (zI v3)), none, none, none], [.int (zI 1), .int (zI ((set / (2 : Int) ^ v3.toNat) % 2))], [r0, r1, r2, r3, r4, r5, r6, zH s7 zL7 0, r8, r9])) rfl ?_
      obtain ⟨g16, H⟩ := zgd H
      have H := zif H
      refine xB.brE oX12_order (P := ((set / (2 : Int) ^ v3.toNat) % 2) ≠ 1) rfl (zc_ne (a := (set / (2 : Int) ^ v3.toNat) % 2) (b := 1) ⟨g16, by decide⟩) (fun h10 => ?_) (fun h10 => ?_)
      · have H := H.1 h10
        refine zB.inc oX12_order rfl (lv2 := [some (.ref 7168), some (.int (zI set)), some (.int (zI i)), some (.int (zI (v3 + 1))), none, none, none]) (zi_inc (a := 0) (zi_addp1 v3) _ rfl) ?_
        refine xB.run oX12_order 1 (s := (35, [some (.ref 7168), some (.int (zI set)), some (.int (zI i)), some (.int (zI (v3 + 1))), none, none, none], [], [r0, r1, r2, r3, r4, r5, r6, zH s7 zL7 0, r8, r9])) rfl ?_
        exact ih (v3 + 1) s7 H K
      · have H := H.2 h10
        refine xB.run oX12_order 3 (s := (53, [some (.ref 7168), some (.int (zI set)), some (.int (zI i)), some (.int (zI v3)), none, none, none], [.int (zI v3), .int (zI 1), .ref 7168], [r0, r1, r2, r3, r4, r5, r6, zH s7 zL7 0, r8, r9])) rfl ?_
        obtain ⟨g15, H⟩ := zgd H
        refine zB.opi oX12_order (y := (2 : Int) ^ v3.toNat) rfl (zi_shl1 (c := v3) g15) ?_
        obtain ⟨y11, e12, H⟩ := zbd H
        refine xB.call oX12_order (M2 := MX12_isTold) rfl rfl ((t_X12_isTold r0 r1 r2 r3 r4 r5 r6 s7 r8 r9 ((2 : Int) ^ v3.toNat) e12).deep (by decide : 5 ≤ 7)) ?_
        show xBody MX12_order 8 57 [some (.ref 7168), some (.int (zI set)), some (.int (zI i)), some (.int (zI v3)), none, none, none] [.int (zI y11.1)] ([r0, r1, r2, r3, r4, r5, r6, zH y11.2 zL7 0, r8, r9]) _ _
        obtain ⟨g14, H⟩ := zgd H
        have H := zif H
        refine xB.brE oX12_order (P := y11.1 ≠ 0) rfl (zc_ne (a := y11.1) (b := 0) ⟨g14, by decide⟩) (fun h13 => ?_) (fun h13 => ?_)
        · have H := H.1 h13
          refine zB.inc oX12_order rfl (lv2 := [some (.ref 7168), some (.int (zI set)), some (.int (zI i)), some (.int (zI (v3 + 1))), none, none, none]) (zi_inc (a := 0) (zi_addp1 v3) _ rfl) ?_
          refine xB.run oX12_order 1 (s := (35, [some (.ref 7168), some (.int (zI set)), some (.int (zI i)), some (.int (zI (v3 + 1))), none, none, none], [], [r0, r1, r2, r3, r4, r5, r6, zH y11.2 zL7 0, r8, r9])) rfl ?_
          exact ih (v3 + 1) y11.2 H K
        · have H := H.2 h13
          refine xB.run oX12_order 1 (s := (62, [some (.ref 7168), some (.int (zI set)), some (.int (zI i)), some (.int (zI v3)), none, none, none], [.int (zI (-3))], [r0, r1, r2, r3, r4, r5, r6, zH y11.2 zL7 0, r8, r9])) rfl ?_
          obtain rfl := Option.some.inj H
          obtain ⟨kr, kh⟩ := K.2 _ rfl
          subst kr kh
          exact xB.ret oX12_order (r1 := some (.int (zI (-3)))) rfl rfl rfl
set_option maxRecDepth 20000 in
theorem l_X12_order_103 (r0 : List va_E) (r1 : List va_E) (r2 : List va_E) (r3 : List va_E) (r4 : List va_E) (r5 : List va_E) (r6 : List va_E) (s7 : zZ) (r8 : List va_E) (r9 : List va_E) (set : Int) (i : Int) (v3 : Int) (v4 : Int) (v5 : Int) {r : Option Value} {hp1 : xH} : ∀ (uN : Nat) (v6 : Int) {uX : Int}, d_X12_order_103 s7 set i v3 v4 v5 uN v6 = some uX → (xBody MX12_order 8 142 [some (.ref 7168), some (.int (zI set)), some (.int (zI i)), some (.int (zI v3)), some (.int (zI v4)), some (.int (zI v5)), some (.int (zI uX))] [] ([r0, r1, r2, r3, r4, r5, r6, zH s7 zL7 0, r8, r9]) r hp1) → xBody MX12_order 8 103 [some (.ref 7168), some (.int (zI set)), some (.int (zI i)), some (.int (zI v3)), some (.int (zI v4)), some (.int (zI v5)), some (.int (zI v6))] [] ([r0, r1, r2, r3, r4, r5, r6, zH s7 zL7 0, r8, r9]) r hp1 := by
  intro uN
  induction uN with
  | zero => intro v6 uX H K; cases H
  | succ uN ih =>
    intro v6 uX H K
    unfold d_X12_order_103 at H
    refine xB.run oX12_order 2 (s := (106, [some (.ref 7168), some (.int (zI set)), some (.int (zI i)), some (.int (zI v3)), some (.int (zI v4)), some (.int (zI v5)), some (.int (zI v6))], [.int (zI v6), .int (zI set)], [r0, r1, r2, r3, r4, r5, r6, zH s7 zL7 0, r8, r9])) rfl ?_
    obtain ⟨g37, H⟩ := zgd H
    refine zB.opi oX12_order rfl (zi_shr (c := v6) g37.1 g37.2) ?_
    refine xB.run oX12_order 1 (s := (108, [some (.ref 7168), some (.int (zI set)), some (.int (zI i)), some (.int (zI v3)), some (.int (zI v4)), some (.int (zI v5)), some (.int (zI v6))], [.int (zI 1), .int (zI (set / (2 : Int) ^ v6.toNat))], [r0, r1, r2, r3, r4, r5, r6, zH s7 zL7 0, r8, r9])) rfl ?_
    refine zB.opi oX12_order rfl (zi_and1 (set / (2 : Int) ^ v6.toNat)) ?_
    obtain ⟨g36, H⟩ := zgd H
    have H := zif H
    refine xB.brE oX12_order (P := ((set / (2 : Int) ^ v6.toNat) % 2) = 0) rfl (zc_eq (a := (set / (2 : Int) ^ v6.toNat) % 2) (b := 0) ⟨g36, by decide⟩) (fun h27 => ?_) (fun h27 => ?_)
    · have H := H.1 h27
      refine zB.inc oX12_order rfl (lv2 := [some (.ref 7168), some (.int (zI set)), some (.int (zI i)), some (.int (zI v3)), some (.int (zI v4)), some (.int (zI v5)), some (.int (zI (v6 + 1)))]) (zi_inc (a := 0) (zi_addp1 v6) _ rfl) ?_
      refine xB.run oX12_order 1 (s := (103, [some (.ref 7168), some (.int (zI set)), some (.int (zI i)), some (.int (zI v3)), some (.int (zI v4)), some (.int (zI v5)), some (.int (zI (v6 + 1)))], [], [r0, r1, r2, r3, r4, r5, r6, zH s7 zL7 0, r8, r9])) rfl ?_
      exact ih (v6 + 1) H K
    · have H := H.2 h27
      refine xB.run oX12_order 2 (s := (115, [some (.ref 7168), some (.int (zI set)), some (.int (zI i)), some (.int (zI v3)), some (.int (zI v4)), some (.int (zI v5)), some (.int (zI v6))], [.int (zI v6), .int (zI v3)], [r0, r1, r2, r3, r4, r5, r6, zH s7 zL7 0, r8, r9])) rfl ?_
      obtain ⟨g35, H⟩ := zgd H
      refine zB.opi oX12_order rfl (zi_shr (c := v6) g35.1 g35.2) ?_
      refine xB.run oX12_order 1 (s := (117, [some (.ref 7168), some (.int (zI set)), some (.int (zI i)), some (.int (zI v3)), some (.int (zI v4)), some (.int (zI v5)), some (.int (zI v6))], [.int (zI 1), .int (zI (v3 / (2 : Int) ^ v6.toNat))], [r0, r1, r2, r3, r4, r5, r6, zH s7 zL7 0, r8, r9])) rfl ?_
      refine zB.opi oX12_order rfl (zi_and1 (v3 / (2 : Int) ^ v6.toNat)) ?_
      refine xB.run oX12_order 1 (s := (119, [some (.ref 7168), some (.int (zI set)), some (.int (zI i)), some (.int (zI v3)), some (.int (zI v4)), some (.int (zI v5)), some (.int (zI v6))], [.int (zI 1), .int (zI ((v3 / (2 : Int) ^ v6.toNat) % 2))], [r0, r1, r2, r3, r4, r5, r6, zH s7 zL7 0, r8, r9])) rfl ?_
      obtain ⟨g34, H⟩ := zgd H
      have H := zif H
      refine xB.brE oX12_order (P := ((v3 / (2 : Int) ^ v6.toNat) % 2) = 1) rfl (zc_eq (a := (v3 / (2 : Int) ^ v6.toNat) % 2) (b := 1) ⟨g34, by decide⟩) (fun h28 => ?_) (fun h28 => ?_)
      · have H := H.1 h28
        refine zB.inc oX12_order rfl (lv2 := [some (.ref 7168), some (.int (zI set)), some (.int (zI i)), some (.int (zI v3)), some (.int (zI v4)), some (.int (zI v5)), some (.int (zI (v6 + 1)))]) (zi_inc (a := 0) (zi_addp1 v6) _ rfl) ?_
        refine xB.run oX12_order 1 (s := (103, [some (.ref 7168), some (.int (zI set)), some (.int (zI i)), some (.int (zI v3)), some (.int (zI v4)), some (.int (zI v5)), some (.int (zI (v6 + 1)))], [], [r0, r1, r2, r3, r4, r5, r6, zH s7 zL7 0, r8, r9])) rfl ?_
        exact ih (v6 + 1) H K
      · have H := H.2 h28
        refine xB.run oX12_order 5 (s := (130, [some (.ref 7168), some (.int (zI set)), some (.int (zI i)), some (.int (zI v3)), some (.int (zI v4)), some (.int (zI v5)), some (.int (zI v6))], [.int (zI v6), .int (zI 1), .int (zI v3), .ref 7194], [r0, r1, r2, r3, r4, r5, r6, zH s7 zL7 0, r8, r9])) rfl ?_
        obtain ⟨g33, H⟩ := zgd H
        refine zB.opi oX12_order (y := (2 : Int) ^ v6.toNat) rfl (zi_shl1 (c := v6) g33) ?_
        obtain ⟨g32, H⟩ := zgd H
        refine zB.opi oX12_order rfl (zi_or (a := v3) (b := (2 : Int) ^ v6.toNat) g32.1 g32.2) ?_
        obtain ⟨g31, H⟩ := zgd H
        refine zB.bald oX12_order (g := 7) (p := 26) (N := 64) (i := ((v3.toNat ||| ((2 : Int) ^ v6.toNat).toNat : Nat) : Int)) rfl rfl (by decide) rfl rfl (by decide) g31 ?_
        obtain ⟨g30, H⟩ := zgd H
        have H := zif H
        refine xB.brE oX12_order (P := (s7 26 ((v3.toNat ||| ((2 : Int) ^ v6.toNat).toNat : Nat) : Int).toNat) ≠ 0) rfl (zc_ne (a := s7 26 ((v3.toNat ||| ((2 : Int) ^ v6.toNat).toNat : Nat) : Int).toNat) (b := 0) ⟨g30, by decide⟩) (fun h29 => ?_) (fun h29 => ?_)
        · have H := H.1 h29
          obtain rfl := Option.some.inj H
          exact K
        · have H := H.2 h29
          refine zB.inc oX12_order rfl (lv2 := [some (.ref 7168), some (.int (zI set)), some (.int (zI i)), some (.int (zI v3)), some (.int (zI v4)), some (.int (zI v5)), some (.int (zI (v6 + 1)))]) (zi_inc (a := 0) (zi_addp1 v6) _ rfl) ?_
          refine xB.run oX12_order 1 (s := (103, [some (.ref 7168), some (.int (zI set)), some (.int (zI i)), some (.int (zI v3)), some (.int (zI v4)), some (.int (zI v5)), some (.int (zI (v6 + 1)))], [], [r0, r1, r2, r3, r4, r5, r6, zH s7 zL7 0, r8, r9])) rfl ?_
          exact ih (v6 + 1) H K
set_option maxRecDepth 20000 in
theorem l_X12_order_94 (r0 : List va_E) (r1 : List va_E) (r2 : List va_E) (r3 : List va_E) (r4 : List va_E) (r5 : List va_E) (r6 : List va_E) (s7 : zZ) (r8 : List va_E) (r9 : List va_E) (set : Int) (i : Int) {r : Option Value} {hp1 : xH} : ∀ (uN : Nat) (v3 : Int) (v4 : Int) (v5 : Int) {uX : Int × Int × Int}, d_X12_order_94 s7 set i uN v3 v4 v5 = some uX → (xBody MX12_order 8 159 [some (.ref 7168), some (.int (zI set)), some (.int (zI i)), some (.int (zI uX.1)), some (.int (zI uX.2.1)), some (.int (zI uX.2.2)), none] [] ([r0, r1, r2, r3, r4, r5, r6, zH s7 zL7 0, r8, r9]) r hp1) → xBody MX12_order 8 94 [some (.ref 7168), some (.int (zI set)), some (.int (zI i)), some (.int (zI v3)), some (.int (zI v4)), some (.int (zI v5)), none] [] ([r0, r1, r2, r3, r4, r5, r6, zH s7 zL7 0, r8, r9]) r hp1 := by
  intro uN
  induction uN with
  | zero => intro v3 v4 v5 uX H K; cases H
  | succ uN ih =>
    intro v3 v4 v5 uX H K
    unfold d_X12_order_94 at H
    refine xB.run oX12_order 2 (s := (97, [some (.ref 7168), some (.int (zI set)), some (.int (zI i)), some (.int (zI v3)), some (.int (zI v4)), some (.int (zI v5)), none], [.int (zI i), .int (zI v5)], [r0, r1, r2, r3, r4, r5, r6, zH s7 zL7 0, r8, r9])) rfl ?_
    obtain ⟨g42, H⟩ := zgd H
    have H := zif H
    refine xB.brE oX12_order (P := i < v5) rfl (zc_gt (a := v5) (b := i) g42) (fun h26 => ?_) (fun h26 => ?_)
    · have H := H.1 h26
      obtain rfl := Option.some.inj H
      exact K
    · have H := H.2 h26
      refine xB.run oX12_order 2 (s := (103, [some (.ref 7168), some (.int (zI set)), some (.int (zI i)), some (.int (zI v3)), some (.int (zI v4)), some (.int (zI v5)), some (.int (zI 0))], [], [r0, r1, r2, r3, r4, r5, r6, zH s7 zL7 0, r8, r9])) rfl ?_
      obtain ⟨y38, e39, H⟩ := zbd H
      refine l_X12_order_103 r0 r1 r2 r3 r4 r5 r6 s7 r8 r9 set i v3 v4 v5 _ 0 e39 ?_
      refine xB.run oX12_order 3 (s := (146, [some (.ref 7168), some (.int (zI set)), some (.int (zI i)), some (.int (zI v3)), some (.int (zI v4)), some (.int (zI v5)), some (.int (zI y38))], [.int (zI y38), .int (zI 1), .int (zI v3)], [r0, r1, r2, r3, r4, r5, r6, zH s7 zL7 0, r8, r9])) rfl ?_
      obtain ⟨g41, H⟩ := zgd H
      refine zB.opi oX12_order (y := (2 : Int) ^ y38.toNat) rfl (zi_shl1 (c := y38) g41) ?_
      obtain ⟨g40, H⟩ := zgd H
      refine zB.opi oX12_order rfl (zi_or (a := v3) (b := (2 : Int) ^ y38.toNat) g40.1 g40.2) ?_
      refine xB.run oX12_order 3 (s := (153, [some (.ref 7168), some (.int (zI set)), some (.int (zI i)), some (.int (zI ((v3.toNat ||| ((2 : Int) ^ y38.toNat).toNat : Nat) : Int))), some (.int (zI y38)), some (.int (zI v5)), some (.int (zI y38))], [], [r0, r1, r2, r3, r4, r5, r6, zH s7 zL7 0, r8, r9])) rfl ?_
      refine zB.inc oX12_order rfl (lv2 := [some (.ref 7168), some (.int (zI set)), some (.int (zI i)), some (.int (zI ((v3.toNat ||| ((2 : Int) ^ y38.toNat).toNat : Nat) : Int))), some (.int (zI y38)), some (.int (zI (v5 + 1))), some (.int (zI y38))]) (zi_inc (a := 0) (zi_addp1 v5) _ rfl) ?_
      refine xB.run oX12_order 1 (s := (94, [some (.ref 7168), some (.int (zI set)), some (.int (zI i)), some (.int (zI ((v3.toNat ||| ((2 : Int) ^ y38.toNat).toNat : Nat) : Int))), some (.int (zI y38)), some (.int (zI (v5 + 1))), some (.int (zI y38))], [], [r0, r1, r2, r3, r4, r5, r6, zH s7 zL7 0, r8, r9])) rfl ?_
      refine xB.forget (lv1 := [some (.ref 7168), some (.int (zI set)), some (.int (zI i)), some (.int (zI ((v3.toNat ||| ((2 : Int) ^ y38.toNat).toNat : Nat) : Int))), some (.int (zI y38)), some (.int (zI (v5 + 1))), none]) (xle_same (xle_same (xle_same (xle_same (xle_same (xle_same (xle_none (xle_nil)))))))) ?_
      exact ih ((v3.toNat ||| ((2 : Int) ^ y38.toNat).toNat : Nat) : Int) y38 (v5 + 1) H K
set_option maxRecDepth 20000 in
theorem t_X12_order (r0 : List va_E) (r1 : List va_E) (r2 : List va_E) (r3 : List va_E) (r4 : List va_E) (r5 : List va_E) (r6 : List va_E) (s7 : zZ) (r8 : List va_E) (r9 : List va_E) (set : Int) (i : Int) {rr : Int × zZ} (H : d_X12_order s7 set i = some rr) : xC MX12_order 8 [.ref 7168, .int (zI set), .int (zI i)] ([r0, r1, r2, r3, r4, r5, r6, zH s7 zL7 0, r8, r9]) (some (.int (zI rr.1))) ([r0, r1, r2, r3, r4, r5, r6, zH rr.2 zL7 0, r8, r9]) := by
  refine ⟨Nat.le_of_ble_eq_true rfl, ?_⟩
  show xBody MX12_order 8 0 [some (.ref 7168), some (.int (zI set)), some (.int (zI i)), none, none, none, none] [] ([r0, r1, r2, r3, r4, r5, r6, zH s7 zL7 0, r8, r9]) _ _
  unfold d_X12_order at H
  refine xB.run oX12_order 1 (s := (1, [some (.ref 7168), some (.int (zI set)), some (.int (zI i)), none, none, none, none], [.int (zI set)], [r0, r1, r2, r3, r4, r5, r6, zH s7 zL7 0, r8, r9])) rfl ?_
  obtain ⟨g50, H⟩ := zgd H
  refine zB.opl oX12_order rfl (zi_i2l g50) ?_
  refine xB.run oX12_order 2 (s := (6, [some (.ref 7168), some (.int (zI set)), some (.int (zI i)), none, none, none, none], [.long (zJ 63), .long (zJ 1), .long (zJ set)], [r0, r1, r2, r3, r4, r5, r6, zH s7 zL7 0, r8, r9])) rfl ?_
  obtain ⟨y1, e2, H⟩ := zbd H
  refine xB.call oX12_order (M2 := MX12_within) rfl rfl ((t_X12_within r0 r1 r2 r3 r4 r5 r6 (zH s7 zL7 0) r8 r9 set 1 63 e2).deep (by decide : 0 ≤ 7)) ?_
  show xBody MX12_order 8 9 [some (.ref 7168), some (.int (zI set)), some (.int (zI i)), none, none, none, none] [.int (zI y1)] ([r0, r1, r2, r3, r4, r5, r6, zH s7 zL7 0, r8, r9]) _ _
  obtain ⟨g49, H⟩ := zgd H
  have H := zif H
  refine xB.brE oX12_order (P := y1 ≠ 0) rfl (zc_ne (a := y1) (b := 0) ⟨g49, by decide⟩) (fun h3 => ?_) (fun h3 => ?_)
  · have H := H.1 h3
    refine xB.run oX12_order 1 (s := (16, [some (.ref 7168), some (.int (zI set)), some (.int (zI i)), none, none, none, none], [.int (zI i)], [r0, r1, r2, r3, r4, r5, r6, zH s7 zL7 0, r8, r9])) rfl ?_
    obtain ⟨g48, H⟩ := zgd H
    refine zB.opl oX12_order rfl (zi_i2l g48) ?_
    refine xB.run oX12_order 2 (s := (19, [some (.ref 7168), some (.int (zI set)), some (.int (zI i)), none, none, none, none], [.int (zI set), .long (zJ 0), .long (zJ i)], [r0, r1, r2, r3, r4, r5, r6, zH s7 zL7 0, r8, r9])) rfl ?_
    obtain ⟨y4, e5, H⟩ := zbd H
    refine xB.call oX12_order (M2 := MX12_bitsOf) rfl rfl ((t_X12_bitsOf r0 r1 r2 r3 r4 r5 r6 (zH s7 zL7 0) r8 r9 set e5).deep (by decide : 0 ≤ 7)) ?_
    show xBody MX12_order 8 22 [some (.ref 7168), some (.int (zI set)), some (.int (zI i)), none, none, none, none] [.int (zI y4), .long (zJ 0), .long (zJ i)] ([r0, r1, r2, r3, r4, r5, r6, zH s7 zL7 0, r8, r9]) _ _
    refine xB.run oX12_order 1 (s := (23, [some (.ref 7168), some (.int (zI set)), some (.int (zI i)), none, none, none, none], [.int (zI 1), .int (zI y4), .long (zJ 0), .long (zJ i)], [r0, r1, r2, r3, r4, r5, r6, zH s7 zL7 0, r8, r9])) rfl ?_
    refine zB.opi oX12_order rfl (zi_sub y4 1) ?_
    obtain ⟨g47, H⟩ := zgd H
    refine zB.opl oX12_order rfl (zi_i2l g47) ?_
    obtain ⟨y6, e7, H⟩ := zbd H
    refine xB.call oX12_order (M2 := MX12_within) rfl rfl ((t_X12_within r0 r1 r2 r3 r4 r5 r6 (zH s7 zL7 0) r8 r9 i 0 (y4 - 1) e7).deep (by decide : 0 ≤ 7)) ?_
    show xBody MX12_order 8 28 [some (.ref 7168), some (.int (zI set)), some (.int (zI i)), none, none, none, none] [.int (zI y6)] ([r0, r1, r2, r3, r4, r5, r6, zH s7 zL7 0, r8, r9]) _ _
    obtain ⟨g46, H⟩ := zgd H
    have H := zif H
    refine xB.brE oX12_order (P := y6 ≠ 0) rfl (zc_ne (a := y6) (b := 0) ⟨g46, by decide⟩) (fun h8 => ?_) (fun h8 => ?_)
    · have H := H.1 h8
      refine xB.run oX12_order 2 (s := (35, [some (.ref 7168), some (.int (zI set)), some (.int (zI i)), some (.int (zI 0)), none, none, none], [], [r0, r1, r2, r3, r4, r5, r6, zH s7 zL7 0, r8, r9])) rfl ?_
      obtain ⟨y19, e20, H⟩ := zbd H
      refine l_X12_order_35 r0 r1 r2 r3 r4 r5 r6 r8 r9 set i _ 0 s7 e20 ?_
      refine ⟨fun y21 uQ => ?_, fun y22 uQ => ?_⟩
      · subst uQ
        refine xB.run oX12_order 2 (s := (71, [some (.ref 7168), some (.int (zI set)), some (.int (zI i)), some (.int (zI y21.1)), none, none, none], [.int (zI set), .ref 7168], [r0, r1, r2, r3, r4, r5, r6, zH y21.2 zL7 0, r8, r9])) rfl ?_
        obtain ⟨y23, e24, H⟩ := zbd H
        refine xB.call oX12_order (M2 := MX12_findOrder) rfl rfl ((t_X12_findOrder r0 r1 r2 r3 r4 r5 r6 y21.2 r8 r9 set e24).deep (by decide : 7 ≤ 7)) ?_
        show xBody MX12_order 8 74 [some (.ref 7168), some (.int (zI set)), some (.int (zI i)), some (.int (zI y21.1)), none, none, none] [] ([r0, r1, r2, r3, r4, r5, r6, zH y23 zL7 0, r8, r9]) _ _
        refine xB.run oX12_order 3 (s := (79, [some (.ref 7168), some (.int (zI set)), some (.int (zI i)), some (.int (zI y21.1)), none, none, none], [.int (zI 0), .ref 7194], [r0, r1, r2, r3, r4, r5, r6, zH y23 zL7 0, r8, r9])) rfl ?_
        refine zB.bald oX12_order (g := 7) (p := 26) (N := 64) (i := 0) rfl rfl (by decide) rfl rfl (by decide) (by decide) ?_
        obtain ⟨g45, H⟩ := zgd H
        have H := zif H
        refine xB.brE oX12_order (P := (y23 26 0) ≠ 0) rfl (zc_ne (a := y23 26 0) (b := 0) ⟨g45, by decide⟩) (fun h25 => ?_) (fun h25 => ?_)
        · have H := H.1 h25
          refine xB.run oX12_order 6 (s := (94, [some (.ref 7168), some (.int (zI set)), some (.int (zI i)), some (.int (zI 0)), some (.int (zI 0)), some (.int (zI 0)), none], [], [r0, r1, r2, r3, r4, r5, r6, zH y23 zL7 0, r8, r9])) rfl ?_
          obtain ⟨y43, e44, H⟩ := zbd H
          refine l_X12_order_94 r0 r1 r2 r3 r4 r5 r6 y23 r8 r9 set i _ 0 0 0 e44 ?_
          refine xB.run oX12_order 1 (s := (161, [some (.ref 7168), some (.int (zI set)), some (.int (zI i)), some (.int (zI y43.1)), some (.int (zI y43.2.1)), some (.int (zI y43.2.2)), none], [.int (zI y43.2.1)], [r0, r1, r2, r3, r4, r5, r6, zH y23 zL7 0, r8, r9])) rfl ?_
          obtain rfl := Option.some.inj H
          exact xB.ret oX12_order (r1 := some (.int (zI y43.2.1))) rfl rfl rfl
        · have H := H.2 h25
          refine xB.run oX12_order 1 (s := (85, [some (.ref 7168), some (.int (zI set)), some (.int (zI i)), some (.int (zI y21.1)), none, none, none], [.int (zI (-9))], [r0, r1, r2, r3, r4, r5, r6, zH y23 zL7 0, r8, r9])) rfl ?_
          obtain rfl := Option.some.inj H
          exact xB.ret oX12_order (r1 := some (.int (zI (-9)))) rfl rfl rfl
      · subst uQ
        obtain rfl := Option.some.inj H
        exact ⟨rfl, rfl⟩
    · have H := H.2 h8
      refine xB.run oX12_order 1 (s := (32, [some (.ref 7168), some (.int (zI set)), some (.int (zI i)), none, none, none, none], [.int (zI (-1))], [r0, r1, r2, r3, r4, r5, r6, zH s7 zL7 0, r8, r9])) rfl ?_
      obtain rfl := Option.some.inj H
      exact xB.ret oX12_order (r1 := some (.int (zI (-1)))) rfl rfl rfl
  · have H := H.2 h3
    refine xB.run oX12_order 1 (s := (14, [some (.ref 7168), some (.int (zI set)), some (.int (zI i)), none, none, none, none], [.int (zI (-2))], [r0, r1, r2, r3, r4, r5, r6, zH s7 zL7 0, r8, r9])) rfl ?_
    obtain rfl := Option.some.inj H
    exact xB.ret oX12_order (r1 := some (.int (zI (-2)))) rfl rfl rfl
