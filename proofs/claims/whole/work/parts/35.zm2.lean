/-! 35.zm2 -/
def d_X12_findThick_50 (s7 : zZ) (str : Int) (p : Int) (push : Int) (t : Int) : Nat → Int → Int → Option (Int × Int)
  | 0, _, _ => none
  | uN + 1, least, q => if (zr q ∧ zr (t + 1)) then (if (t + 1) < q then some (least, q) else (if (zr p ∧ zr ((s7 0 5) - 1)) then (if ((s7 0 5) - 1) ≤ p then some (least, q) else (if zr q then ((d_X12_within q 1 5).bind fun y8 => if (zr y8) then (if y8 = 0 then (d_X12_findThick_50 s7 str p push t uN least (q + 1)) else (if (0 ≤ ((6 * (p + 1)) + q) ∧ ((6 * (p + 1)) + q) < 54) then (if (zr (s7 7 ((6 * (p + 1)) + q).toNat) ∧ zr least) then (if least ≤ (s7 7 ((6 * (p + 1)) + q).toNat) then (d_X12_findThick_50 s7 str p push t uN least (q + 1)) else (if (0 ≤ ((6 * (p + 1)) + q) ∧ ((6 * (p + 1)) + q) < 54) then (d_X12_findThick_50 s7 str p push t uN (s7 7 ((6 * (p + 1)) + q).toNat) (q + 1)) else none)) else none) else none)) else none) else none)) else none)) else none
def d_X12_findThick_20 (str : Int) (p : Int) (push : Int) : Nat → Int → zZ → Option (Int × zZ)
  | 0, _, _ => none
  | uN + 1, t, s7 => if (zr t) then (if (5 : Int) < t then some (t, s7) else (if (zr p ∧ zr ((s7 0 5) - 1)) then (if p ≠ ((s7 0 5) - 1) then ((d_X12_findThick_50 s7 str p push t zF 1000000 (t - 1)).bind fun y19 => if zr t then (if zr str then (if zr push then (if (zrl (t * str) ∧ zrl push) then (if (t * str) < push then (if (0 ≤ ((6 * p) + t) ∧ ((6 * p) + t) < 54) then (d_X12_findThick_20 str p push uN (t + 1) (upz s7 7 ((6 * p) + t).toNat 1000000)) else none) else (if (zr y19.1) then (if (1000000 : Int) ≤ y19.1 then (if (0 ≤ ((6 * p) + t) ∧ ((6 * p) + t) < 54) then (d_X12_findThick_20 str p push uN (t + 1) (upz s7 7 ((6 * p) + t).toNat 1000000)) else none) else ((d_X12_lengthOf s7 p).bind fun y25 => if (0 ≤ ((6 * p) + t) ∧ ((6 * p) + t) < 54) then (d_X12_findThick_20 str p push uN (t + 1) (upz s7 7 ((6 * p) + t).toNat (y19.1 + (t * y25)))) else none)) else none)) else none) else none) else none) else none) else ((d_X12_findThick_50 s7 str p push t zF 0 (t - 1)).bind fun y33 => if zr t then (if zr str then (if zr push then (if (zrl (t * str) ∧ zrl push) then (if (t * str) < push then (if (0 ≤ ((6 * p) + t) ∧ ((6 * p) + t) < 54) then (d_X12_findThick_20 str p push uN (t + 1) (upz s7 7 ((6 * p) + t).toNat 1000000)) else none) else (if (zr y33.1) then (if (1000000 : Int) ≤ y33.1 then (if (0 ≤ ((6 * p) + t) ∧ ((6 * p) + t) < 54) then (d_X12_findThick_20 str p push uN (t + 1) (upz s7 7 ((6 * p) + t).toNat 1000000)) else none) else ((d_X12_lengthOf s7 p).bind fun y39 => if (0 ≤ ((6 * p) + t) ∧ ((6 * p) + t) < 54) then (d_X12_findThick_20 str p push uN (t + 1) (upz s7 7 ((6 * p) + t).toNat (y33.1 + (t * y39)))) else none)) else none)) else none) else none) else none) else none)) else none)) else none
def d_X12_findThick_7 (str : Int) : Nat → Int → zZ → Option (Int × zZ)
  | 0, _, _ => none
  | uN + 1, p, s7 => if (zr p) then (if p < 0 then some (p, s7) else ((d_X12_pushOf s7 p).bind fun y2 => (d_X12_findThick_20 str p y2 zF 1 s7).bind fun y49 => d_X12_findThick_7 str uN (p + (-1)) y49.2)) else none
def d_X12_findThick_217 (s7 : zZ) (str : Int) (p : Int) (push : Int) : Nat → Int → Int → Option (Int × Int)
  | 0, _, _ => none
  | uN + 1, t, least => if (zr least) then (if (5 : Int) < least then some (t, least) else (if (zr push) then (if push = 0 then (if (0 ≤ ((6 * push) + least) ∧ ((6 * push) + least) < 54) then (if (zr (s7 7 ((6 * push) + least).toNat)) then (if (1000000 : Int) ≤ (s7 7 ((6 * push) + least).toNat) then (d_X12_findThick_217 s7 str p push uN t (least + 1)) else (if (zr t) then (if t = 0 then (d_X12_findThick_217 s7 str p push uN least (least + 1)) else (if (0 ≤ ((6 * push) + least) ∧ ((6 * push) + least) < 54) then (if (0 ≤ ((6 * push) + t) ∧ ((6 * push) + t) < 54) then (if (zr (s7 7 ((6 * push) + least).toNat) ∧ zr (s7 7 ((6 * push) + t).toNat)) then (if (s7 7 ((6 * push) + t).toNat) ≤ (s7 7 ((6 * push) + least).toNat) then (d_X12_findThick_217 s7 str p push uN t (least + 1)) else (d_X12_findThick_217 s7 str p push uN least (least + 1))) else none) else none) else none)) else none)) else none) else none) else (if (zr least ∧ zr (p - 1)) then (if least < (p - 1) then (d_X12_findThick_217 s7 str p push uN t (least + 1)) else (if (zr least ∧ zr (p + 1)) then (if (p + 1) < least then (d_X12_findThick_217 s7 str p push uN t (least + 1)) else (if (0 ≤ ((6 * push) + least) ∧ ((6 * push) + least) < 54) then (if (zr (s7 7 ((6 * push) + least).toNat)) then (if (1000000 : Int) ≤ (s7 7 ((6 * push) + least).toNat) then (d_X12_findThick_217 s7 str p push uN t (least + 1)) else (if (zr t) then (if t = 0 then (d_X12_findThick_217 s7 str p push uN least (least + 1)) else (if (0 ≤ ((6 * push) + least) ∧ ((6 * push) + least) < 54) then (if (0 ≤ ((6 * push) + t) ∧ ((6 * push) + t) < 54) then (if (zr (s7 7 ((6 * push) + least).toNat) ∧ zr (s7 7 ((6 * push) + t).toNat)) then (if (s7 7 ((6 * push) + t).toNat) ≤ (s7 7 ((6 * push) + least).toNat) then (d_X12_findThick_217 s7 str p push uN t (least + 1)) else (d_X12_findThick_217 s7 str p push uN least (least + 1))) else none) else none) else none)) else none)) else none) else none)) else none)) else none)) else none)) else none
def d_X12_findThick_203 (str : Int) : Nat → Int → Int → zZ → Option (Sum (Int × Int × zZ) (Int × zZ))
  | 0, _, _, _ => none
  | uN + 1, p, push, s7 => if (zr push ∧ zr (s7 0 5)) then (if (s7 0 5) ≤ push then some (.inl (p, push, s7)) else ((d_X12_findThick_217 s7 str p push zF 0 1).bind fun y81 => if (zr y81.1) then (if y81.1 ≠ 0 then (if (0 ≤ push ∧ push < 8) then (d_X12_findThick_203 str uN y81.1 (push + 1) (upz s7 8 push.toNat y81.1)) else none) else some (.inr ((-9), s7))) else none)) else none
def d_X12_findThick (s7 : zZ) (str : Int) : Option (Int × zZ) := (d_X12_findThick_7 str zF ((s7 0 5) - 1) s7).bind fun y52 => (d_X12_findThick_203 str zF 0 0 y52.2).bind fun y87 => match y87 with | .inl y89 => if (0 ≤ (y89.2.2 8 0) ∧ (y89.2.2 8 0) < 54) then some (y89.2.2 7 (y89.2.2 8 0).toNat, y89.2.2) else none | .inr y90 => some y90
set_option maxRecDepth 20000 in
theorem l_X12_findThick_50 (r0 : List va_E) (r1 : List va_E) (r2 : List va_E) (r3 : List va_E) (r4 : List va_E) (r5 : List va_E) (r6 : List va_E) (s7 : zZ) (r8 : List va_E) (r9 : List va_E) (str : Int) (p : Int) (push : Int) (t : Int) {r : Option Value} {hp1 : xH} : ∀ (uN : Nat) (least : Int) (q : Int) {uX : Int × Int}, d_X12_findThick_50 s7 str p push t uN least q = some uX → (xBody MX12_findThick 2 128 [some (.ref 7168), some (.int (zI str)), some (.int (zI p)), some (.int (zI push)), some (.int (zI t)), some (.int (zI uX.1)), some (.int (zI uX.2))] [] ([r0, r1, r2, r3, r4, r5, r6, zH s7 zL7 0, r8, r9]) r hp1) → xBody MX12_findThick 2 50 [some (.ref 7168), some (.int (zI str)), some (.int (zI p)), some (.int (zI push)), some (.int (zI t)), some (.int (zI least)), some (.int (zI q))] [] ([r0, r1, r2, r3, r4, r5, r6, zH s7 zL7 0, r8, r9]) r hp1 := by
  intro uN
  induction uN with
  | zero => intro least q uX H K; cases H
  | succ uN ih =>
    intro least q uX H K
    unfold d_X12_findThick_50 at H
    refine xB.run oX12_findThick 3 (s := (55, [some (.ref 7168), some (.int (zI str)), some (.int (zI p)), some (.int (zI push)), some (.int (zI t)), some (.int (zI least)), some (.int (zI q))], [.int (zI 1), .int (zI t), .int (zI q)], [r0, r1, r2, r3, r4, r5, r6, zH s7 zL7 0, r8, r9])) rfl ?_
    refine zB.opi oX12_findThick rfl (zi_add t 1) ?_
    obtain ⟨g18, H⟩ := zgd H
    have H := zif H
    refine xB.brE oX12_findThick (P := (t + 1) < q) rfl (zc_gt (a := q) (b := t + 1) g18) (fun h6 => ?_) (fun h6 => ?_)
    · have H := H.1 h6
      obtain rfl := Option.some.inj H
      exact K
    · have H := H.2 h6
      refine xB.run oX12_findThick 4 (s := (65, [some (.ref 7168), some (.int (zI str)), some (.int (zI p)), some (.int (zI push)), some (.int (zI t)), some (.int (zI least)), some (.int (zI q))], [.int (zI 1), .int (zI (s7 0 5)), .int (zI p)], [r0, r1, r2, r3, r4, r5, r6, zH s7 zL7 0, r8, r9])) rfl ?_
      refine zB.opi oX12_findThick rfl (zi_sub (s7 0 5) 1) ?_
      obtain ⟨g17, H⟩ := zgd H
      have H := zif H
      refine xB.brE oX12_findThick (P := ((s7 0 5) - 1) ≤ p) rfl (zc_ge (a := p) (b := (s7 0 5) - 1) g17) (fun h7 => ?_) (fun h7 => ?_)
      · have H := H.1 h7
        obtain rfl := Option.some.inj H
        exact K
      · have H := H.2 h7
        refine xB.run oX12_findThick 1 (s := (71, [some (.ref 7168), some (.int (zI str)), some (.int (zI p)), some (.int (zI push)), some (.int (zI t)), some (.int (zI least)), some (.int (zI q))], [.int (zI q)], [r0, r1, r2, r3, r4, r5, r6, zH s7 zL7 0, r8, r9])) rfl ?_
        obtain ⟨g16, H⟩ := zgd H
        refine zB.opl oX12_findThick rfl (zi_i2l g16) ?_
        refine xB.run oX12_findThick 2 (s := (76, [some (.ref 7168), some (.int (zI str)), some (.int (zI p)), some (.int (zI push)), some (.int (zI t)), some (.int (zI least)), some (.int (zI q))], [.long (zJ 5), .long (zJ 1), .long (zJ q)], [r0, r1, r2, r3, r4, r5, r6, zH s7 zL7 0, r8, r9])) rfl ?_
        obtain ⟨y8, e9, H⟩ := zbd H
        refine xB.call oX12_findThick (M2 := MX12_within) rfl rfl ((t_X12_within r0 r1 r2 r3 r4 r5 r6 (zH s7 zL7 0) r8 r9 q 1 5 e9).deep (by decide : 0 ≤ 1)) ?_
        show xBody MX12_findThick 2 79 [some (.ref 7168), some (.int (zI str)), some (.int (zI p)), some (.int (zI push)), some (.int (zI t)), some (.int (zI least)), some (.int (zI q))] [.int (zI y8)] ([r0, r1, r2, r3, r4, r5, r6, zH s7 zL7 0, r8, r9]) _ _
        obtain ⟨g15, H⟩ := zgd H
        have H := zif H
        refine xB.brE oX12_findThick (P := y8 = 0) rfl (zc_eq (a := y8) (b := 0) ⟨g15, by decide⟩) (fun h10 => ?_) (fun h10 => ?_)
        · have H := H.1 h10
          refine xB.run oX12_findThick 2 (s := (122, [some (.ref 7168), some (.int (zI str)), some (.int (zI p)), some (.int (zI push)), some (.int (zI t)), some (.int (zI least)), some (.int (zI q))], [], [r0, r1, r2, r3, r4, r5, r6, zH s7 zL7 0, r8, r9])) rfl ?_
          refine zB.inc oX12_findThick rfl (lv2 := [some (.ref 7168), some (.int (zI str)), some (.int (zI p)), some (.int (zI push)), some (.int (zI t)), some (.int (zI least)), some (.int (zI (q + 1)))]) (zi_inc (a := 0) (zi_addp1 q) _ rfl) ?_
          refine xB.run oX12_findThick 1 (s := (50, [some (.ref 7168), some (.int (zI str)), some (.int (zI p)), some (.int (zI push)), some (.int (zI t)), some (.int (zI least)), some (.int (zI (q + 1)))], [], [r0, r1, r2, r3, r4, r5, r6, zH s7 zL7 0, r8, r9])) rfl ?_
          exact ih least (q + 1) H K
        · have H := H.2 h10
          refine xB.run oX12_findThick 5 (s := (90, [some (.ref 7168), some (.int (zI str)), some (.int (zI p)), some (.int (zI push)), some (.int (zI t)), some (.int (zI least)), some (.int (zI q))], [.int (zI 1), .int (zI p), .int (zI 6), .ref 7175], [r0, r1, r2, r3, r4, r5, r6, zH s7 zL7 0, r8, r9])) rfl ?_
          refine zB.opi oX12_findThick rfl (zi_add p 1) ?_
          refine zB.opi oX12_findThick rfl (zi_mul 6 (p + 1)) ?_
          refine xB.run oX12_findThick 1 (s := (94, [some (.ref 7168), some (.int (zI str)), some (.int (zI p)), some (.int (zI push)), some (.int (zI t)), some (.int (zI least)), some (.int (zI q))], [.int (zI q), .int (zI (6 * (p + 1))), .ref 7175], [r0, r1, r2, r3, r4, r5, r6, zH s7 zL7 0, r8, r9])) rfl ?_
          refine zB.opi oX12_findThick rfl (zi_add (6 * (p + 1)) q) ?_
          obtain ⟨g14, H⟩ := zgd H
          refine zB.iald oX12_findThick (g := 7) (p := 7) (N := 54) (i := (6 * (p + 1)) + q) rfl rfl (by decide) rfl rfl (by decide) g14 ?_
          refine xB.run oX12_findThick 1 (s := (98, [some (.ref 7168), some (.int (zI str)), some (.int (zI p)), some (.int (zI push)), some (.int (zI t)), some (.int (zI least)), some (.int (zI q))], [.int (zI least), .int (zI (s7 7 ((6 * (p + 1)) + q).toNat))], [r0, r1, r2, r3, r4, r5, r6, zH s7 zL7 0, r8, r9])) rfl ?_
          obtain ⟨g13, H⟩ := zgd H
          have H := zif H
          refine xB.brE oX12_findThick (P := least ≤ (s7 7 ((6 * (p + 1)) + q).toNat)) rfl (zc_ge (a := s7 7 ((6 * (p + 1)) + q).toNat) (b := least) g13) (fun h11 => ?_) (fun h11 => ?_)
          · have H := H.1 h11
            refine xB.run oX12_findThick 2 (s := (122, [some (.ref 7168), some (.int (zI str)), some (.int (zI p)), some (.int (zI push)), some (.int (zI t)), some (.int (zI least)), some (.int (zI q))], [], [r0, r1, r2, r3, r4, r5, r6, zH s7 zL7 0, r8, r9])) rfl ?_
            refine zB.inc oX12_findThick rfl (lv2 := [some (.ref 7168), some (.int (zI str)), some (.int (zI p)), some (.int (zI push)), some (.int (zI t)), some (.int (zI least)), some (.int (zI (q + 1)))]) (zi_inc (a := 0) (zi_addp1 q) _ rfl) ?_
            refine xB.run oX12_findThick 1 (s := (50, [some (.ref 7168), some (.int (zI str)), some (.int (zI p)), some (.int (zI push)), some (.int (zI t)), some (.int (zI least)), some (.int (zI (q + 1)))], [], [r0, r1, r2, r3, r4, r5, r6, zH s7 zL7 0, r8, r9])) rfl ?_
            exact ih least (q + 1) H K
          · have H := H.2 h11
            refine xB.run oX12_findThick 5 (s := (109, [some (.ref 7168), some (.int (zI str)), some (.int (zI p)), some (.int (zI push)), some (.int (zI t)), some (.int (zI least)), some (.int (zI q))], [.int (zI 1), .int (zI p), .int (zI 6), .ref 7175], [r0, r1, r2, r3, r4, r5, r6, zH s7 zL7 0, r8, r9])) rfl ?_
            refine zB.opi oX12_findThick rfl (zi_add p 1) ?_
            refine zB.opi oX12_findThick rfl (zi_mul 6 (p + 1)) ?_
            refine xB.run oX12_findThick 1 (s := (113, [some (.ref 7168), some (.int (zI str)), some (.int (zI p)), some (.int (zI push)), some (.int (zI t)), some (.int (zI least)), some (.int (zI q))], [.int (zI q), .int (zI (6 * (p + 1))), .ref 7175], [r0, r1, r2, r3, r4, r5, r6, zH s7 zL7 0, r8, r9])) rfl ?_
            refine zB.opi oX12_findThick rfl (zi_add (6 * (p + 1)) q) ?_
            obtain ⟨g12, H⟩ := zgd H
            refine zB.iald oX12_findThick (g := 7) (p := 7) (N := 54) (i := (6 * (p + 1)) + q) rfl rfl (by decide) rfl rfl (by decide) g12 ?_
            refine xB.run oX12_findThick 2 (s := (122, [some (.ref 7168), some (.int (zI str)), some (.int (zI p)), some (.int (zI push)), some (.int (zI t)), some (.int (zI (s7 7 ((6 * (p + 1)) + q).toNat))), some (.int (zI q))], [], [r0, r1, r2, r3, r4, r5, r6, zH s7 zL7 0, r8, r9])) rfl ?_
            refine zB.inc oX12_findThick rfl (lv2 := [some (.ref 7168), some (.int (zI str)), some (.int (zI p)), some (.int (zI push)), some (.int (zI t)), some (.int (zI (s7 7 ((6 * (p + 1)) + q).toNat))), some (.int (zI (q + 1)))]) (zi_inc (a := 0) (zi_addp1 q) _ rfl) ?_
            refine xB.run oX12_findThick 1 (s := (50, [some (.ref 7168), some (.int (zI str)), some (.int (zI p)), some (.int (zI push)), some (.int (zI t)), some (.int (zI (s7 7 ((6 * (p + 1)) + q).toNat))), some (.int (zI (q + 1)))], [], [r0, r1, r2, r3, r4, r5, r6, zH s7 zL7 0, r8, r9])) rfl ?_
            exact ih (s7 7 ((6 * (p + 1)) + q).toNat) (q + 1) H K
set_option maxRecDepth 20000 in
theorem l_X12_findThick_20 (r0 : List va_E) (r1 : List va_E) (r2 : List va_E) (r3 : List va_E) (r4 : List va_E) (r5 : List va_E) (r6 : List va_E) (r8 : List va_E) (r9 : List va_E) (str : Int) (p : Int) (push : Int) {r : Option Value} {hp1 : xH} : ∀ (uN : Nat) (t : Int) (s7 : zZ) {uX : Int × zZ}, d_X12_findThick_20 str p push uN t s7 = some uX → (xBody MX12_findThick 2 193 [some (.ref 7168), some (.int (zI str)), some (.int (zI p)), some (.int (zI push)), some (.int (zI uX.1)), none, none] [] ([r0, r1, r2, r3, r4, r5, r6, zH uX.2 zL7 0, r8, r9]) r hp1) → xBody MX12_findThick 2 20 [some (.ref 7168), some (.int (zI str)), some (.int (zI p)), some (.int (zI push)), some (.int (zI t)), none, none] [] ([r0, r1, r2, r3, r4, r5, r6, zH s7 zL7 0, r8, r9]) r hp1 := by
  intro uN
  induction uN with
  | zero => intro t s7 uX H K; cases H
  | succ uN ih =>
    intro t s7 uX H K
    unfold d_X12_findThick_20 at H
    refine xB.run oX12_findThick 2 (s := (23, [some (.ref 7168), some (.int (zI str)), some (.int (zI p)), some (.int (zI push)), some (.int (zI t)), none, none], [.int (zI 5), .int (zI t)], [r0, r1, r2, r3, r4, r5, r6, zH s7 zL7 0, r8, r9])) rfl ?_
    obtain ⟨g48, H⟩ := zgd H
    have H := zif H
    refine xB.brE oX12_findThick (P := (5 : Int) < t) rfl (zc_gt (a := t) (b := 5) ⟨g48, by decide⟩) (fun h4 => ?_) (fun h4 => ?_)
    · have H := H.1 h4
      obtain rfl := Option.some.inj H
      exact K
    · have H := H.2 h4
      refine xB.run oX12_findThick 4 (s := (32, [some (.ref 7168), some (.int (zI str)), some (.int (zI p)), some (.int (zI push)), some (.int (zI t)), none, none], [.int (zI 1), .int (zI (s7 0 5)), .int (zI p)], [r0, r1, r2, r3, r4, r5, r6, zH s7 zL7 0, r8, r9])) rfl ?_
      refine zB.opi oX12_findThick rfl (zi_sub (s7 0 5) 1) ?_
      obtain ⟨g47, H⟩ := zgd H
      have H := zif H
      refine xB.brE oX12_findThick (P := p ≠ ((s7 0 5) - 1)) rfl (zc_ne (a := p) (b := (s7 0 5) - 1) g47) (fun h5 => ?_) (fun h5 => ?_)
      · have H := H.1 h5
        refine xB.run oX12_findThick 4 (s := (47, [some (.ref 7168), some (.int (zI str)), some (.int (zI p)), some (.int (zI push)), some (.int (zI t)), some (.int (zI 1000000)), none], [.int (zI 1), .int (zI t)], [r0, r1, r2, r3, r4, r5, r6, zH s7 zL7 0, r8, r9])) rfl ?_
        refine zB.opi oX12_findThick rfl (zi_sub t 1) ?_
        refine xB.run oX12_findThick 1 (s := (50, [some (.ref 7168), some (.int (zI str)), some (.int (zI p)), some (.int (zI push)), some (.int (zI t)), some (.int (zI 1000000)), some (.int (zI (t - 1)))], [], [r0, r1, r2, r3, r4, r5, r6, zH s7 zL7 0, r8, r9])) rfl ?_
        obtain ⟨y19, e20, H⟩ := zbd H
        refine l_X12_findThick_50 r0 r1 r2 r3 r4 r5 r6 s7 r8 r9 str p push t _ 1000000 (t - 1) e20 ?_
        refine xB.run oX12_findThick 1 (s := (130, [some (.ref 7168), some (.int (zI str)), some (.int (zI p)), some (.int (zI push)), some (.int (zI t)), some (.int (zI y19.1)), some (.int (zI y19.2))], [.int (zI t)], [r0, r1, r2, r3, r4, r5, r6, zH s7 zL7 0, r8, r9])) rfl ?_
        obtain ⟨g32, H⟩ := zgd H
        refine zB.opl oX12_findThick rfl (zi_i2l g32) ?_
        refine xB.run oX12_findThick 1 (s := (132, [some (.ref 7168), some (.int (zI str)), some (.int (zI p)), some (.int (zI push)), some (.int (zI t)), some (.int (zI y19.1)), some (.int (zI y19.2))], [.int (zI str), .long (zJ t)], [r0, r1, r2, r3, r4, r5, r6, zH s7 zL7 0, r8, r9])) rfl ?_
        obtain ⟨g31, H⟩ := zgd H
        refine zB.opl oX12_findThick rfl (zi_i2l g31) ?_
        refine zB.opl oX12_findThick rfl (zj_mul t str) ?_
        refine xB.run oX12_findThick 1 (s := (135, [some (.ref 7168), some (.int (zI str)), some (.int (zI p)), some (.int (zI push)), some (.int (zI t)), some (.int (zI y19.1)), some (.int (zI y19.2))], [.int (zI push), .long (zJ (t * str))], [r0, r1, r2, r3, r4, r5, r6, zH s7 zL7 0, r8, r9])) rfl ?_
        obtain ⟨g30, H⟩ := zgd H
        refine zB.opl oX12_findThick rfl (zi_i2l g30) ?_
        refine xB.run oX12_findThick 1 (s := (137, [some (.ref 7168), some (.int (zI str)), some (.int (zI p)), some (.int (zI push)), some (.int (zI t)), some (.int (zI y19.1)), some (.int (zI y19.2))], [.int (lg_cmp (zJ (t * str)) (zJ push))], [r0, r1, r2, r3, r4, r5, r6, zH s7 zL7 0, r8, r9])) rfl ?_
        obtain ⟨g29, H⟩ := zgd H
        have H := zif H
        refine xB.brE oX12_findThick (P := (t * str) < push) rfl (zl_lt (a := t * str) (b := push) g29) (fun h21 => ?_) (fun h21 => ?_)
        · have H := H.1 h21
          refine xB.run oX12_findThick 6 (s := (161, [some (.ref 7168), some (.int (zI str)), some (.int (zI p)), some (.int (zI push)), some (.int (zI t)), some (.int (zI y19.1)), some (.int (zI 0))], [.int (zI p), .int (zI 6), .ref 7175], [r0, r1, r2, r3, r4, r5, r6, zH s7 zL7 0, r8, r9])) rfl ?_
          refine zB.opi oX12_findThick rfl (zi_mul 6 p) ?_
          refine xB.run oX12_findThick 1 (s := (164, [some (.ref 7168), some (.int (zI str)), some (.int (zI p)), some (.int (zI push)), some (.int (zI t)), some (.int (zI y19.1)), some (.int (zI 0))], [.int (zI t), .int (zI (6 * p)), .ref 7175], [r0, r1, r2, r3, r4, r5, r6, zH s7 zL7 0, r8, r9])) rfl ?_
          refine zB.opi oX12_findThick rfl (zi_add (6 * p) t) ?_
          refine xB.run oX12_findThick 3 (s := (186, [some (.ref 7168), some (.int (zI str)), some (.int (zI p)), some (.int (zI push)), some (.int (zI t)), some (.int (zI y19.1)), some (.int (zI 0))], [.int (zI 1000000), .int (zI ((6 * p) + t)), .ref 7175], [r0, r1, r2, r3, r4, r5, r6, zH s7 zL7 0, r8, r9])) rfl ?_
          obtain ⟨g22, H⟩ := zgd H
          refine zB.iast oX12_findThick (g := 7) (p := 7) (N := 54) (i := (6 * p) + t) (hp1 := [r0, r1, r2, r3, r4, r5, r6, zH (upz s7 7 ((6 * p) + t).toNat 1000000) zL7 0, r8, r9]) rfl rfl (by decide) (by decide) rfl rfl (by decide) g22 rfl ?_
          refine zB.inc oX12_findThick rfl (lv2 := [some (.ref 7168), some (.int (zI str)), some (.int (zI p)), some (.int (zI push)), some (.int (zI (t + 1))), some (.int (zI y19.1)), some (.int (zI 0))]) (zi_inc (a := 0) (zi_addp1 t) _ rfl) ?_
          refine xB.run oX12_findThick 1 (s := (20, [some (.ref 7168), some (.int (zI str)), some (.int (zI p)), some (.int (zI push)), some (.int (zI (t + 1))), some (.int (zI y19.1)), some (.int (zI 0))], [], [r0, r1, r2, r3, r4, r5, r6, zH (upz s7 7 ((6 * p) + t).toNat 1000000) zL7 0, r8, r9])) rfl ?_
          refine xB.forget (lv1 := [some (.ref 7168), some (.int (zI str)), some (.int (zI p)), some (.int (zI push)), some (.int (zI (t + 1))), none, none]) (xle_same (xle_same (xle_same (xle_same (xle_same (xle_none (xle_none (xle_nil)))))))) ?_
          exact ih (t + 1) (upz s7 7 ((6 * p) + t).toNat 1000000) H K
        · have H := H.2 h21
          refine xB.run oX12_findThick 2 (s := (144, [some (.ref 7168), some (.int (zI str)), some (.int (zI p)), some (.int (zI push)), some (.int (zI t)), some (.int (zI y19.1)), some (.int (zI y19.2))], [.int (zI 1000000), .int (zI y19.1)], [r0, r1, r2, r3, r4, r5, r6, zH s7 zL7 0, r8, r9])) rfl ?_
          obtain ⟨g28, H⟩ := zgd H
          have H := zif H
          refine xB.brE oX12_findThick (P := (1000000 : Int) ≤ y19.1) rfl (zc_ge (a := y19.1) (b := 1000000) ⟨g28, by decide⟩) (fun h23 => ?_) (fun h23 => ?_)
          · have H := H.1 h23
            refine xB.run oX12_findThick 6 (s := (161, [some (.ref 7168), some (.int (zI str)), some (.int (zI p)), some (.int (zI push)), some (.int (zI t)), some (.int (zI y19.1)), some (.int (zI 0))], [.int (zI p), .int (zI 6), .ref 7175], [r0, r1, r2, r3, r4, r5, r6, zH s7 zL7 0, r8, r9])) rfl ?_
            refine zB.opi oX12_findThick rfl (zi_mul 6 p) ?_
            refine xB.run oX12_findThick 1 (s := (164, [some (.ref 7168), some (.int (zI str)), some (.int (zI p)), some (.int (zI push)), some (.int (zI t)), some (.int (zI y19.1)), some (.int (zI 0))], [.int (zI t), .int (zI (6 * p)), .ref 7175], [r0, r1, r2, r3, r4, r5, r6, zH s7 zL7 0, r8, r9])) rfl ?_
            refine zB.opi oX12_findThick rfl (zi_add (6 * p) t) ?_
            refine xB.run oX12_findThick 3 (s := (186, [some (.ref 7168), some (.int (zI str)), some (.int (zI p)), some (.int (zI push)), some (.int (zI t)), some (.int (zI y19.1)), some (.int (zI 0))], [.int (zI 1000000), .int (zI ((6 * p) + t)), .ref 7175], [r0, r1, r2, r3, r4, r5, r6, zH s7 zL7 0, r8, r9])) rfl ?_
            obtain ⟨g24, H⟩ := zgd H
            refine zB.iast oX12_findThick (g := 7) (p := 7) (N := 54) (i := (6 * p) + t) (hp1 := [r0, r1, r2, r3, r4, r5, r6, zH (upz s7 7 ((6 * p) + t).toNat 1000000) zL7 0, r8, r9]) rfl rfl (by decide) (by decide) rfl rfl (by decide) g24 rfl ?_
            refine zB.inc oX12_findThick rfl (lv2 := [some (.ref 7168), some (.int (zI str)), some (.int (zI p)), some (.int (zI push)), some (.int (zI (t + 1))), some (.int (zI y19.1)), some (.int (zI 0))]) (zi_inc (a := 0) (zi_addp1 t) _ rfl) ?_
            refine xB.run oX12_findThick 1 (s := (20, [some (.ref 7168), some (.int (zI str)), some (.int (zI p)), some (.int (zI push)), some (.int (zI (t + 1))), some (.int (zI y19.1)), some (.int (zI 0))], [], [r0, r1, r2, r3, r4, r5, r6, zH (upz s7 7 ((6 * p) + t).toNat 1000000) zL7 0, r8, r9])) rfl ?_
            refine xB.forget (lv1 := [some (.ref 7168), some (.int (zI str)), some (.int (zI p)), some (.int (zI push)), some (.int (zI (t + 1))), none, none]) (xle_same (xle_same (xle_same (xle_same (xle_same (xle_none (xle_none (xle_nil)))))))) ?_
            exact ih (t + 1) (upz s7 7 ((6 * p) + t).toNat 1000000) H K
          · have H := H.2 h23
            refine xB.run oX12_findThick 7 (s := (161, [some (.ref 7168), some (.int (zI str)), some (.int (zI p)), some (.int (zI push)), some (.int (zI t)), some (.int (zI y19.1)), some (.int (zI 1))], [.int (zI p), .int (zI 6), .ref 7175], [r0, r1, r2, r3, r4, r5, r6, zH s7 zL7 0, r8, r9])) rfl ?_
            refine zB.opi oX12_findThick rfl (zi_mul 6 p) ?_
            refine xB.run oX12_findThick 1 (s := (164, [some (.ref 7168), some (.int (zI str)), some (.int (zI p)), some (.int (zI push)), some (.int (zI t)), some (.int (zI y19.1)), some (.int (zI 1))], [.int (zI t), .int (zI (6 * p)), .ref 7175], [r0, r1, r2, r3, r4, r5, r6, zH s7 zL7 0, r8, r9])) rfl ?_
            refine zB.opi oX12_findThick rfl (zi_add (6 * p) t) ?_
            refine xB.run oX12_findThick 6 (s := (176, [some (.ref 7168), some (.int (zI str)), some (.int (zI p)), some (.int (zI push)), some (.int (zI t)), some (.int (zI y19.1)), some (.int (zI 1))], [.int (zI p), .ref 7168, .int (zI t), .int (zI y19.1), .int (zI ((6 * p) + t)), .ref 7175], [r0, r1, r2, r3, r4, r5, r6, zH s7 zL7 0, r8, r9])) rfl ?_
            obtain ⟨y25, e26, H⟩ := zbd H
            refine xB.call oX12_findThick (M2 := MX12_lengthOf) rfl rfl ((t_X12_lengthOf r0 r1 r2 r3 r4 r5 r6 s7 r8 r9 p e26).deep (by decide : 1 ≤ 1)) ?_
            show xBody MX12_findThick 2 179 [some (.ref 7168), some (.int (zI str)), some (.int (zI p)), some (.int (zI push)), some (.int (zI t)), some (.int (zI y19.1)), some (.int (zI 1))] [.int (zI y25), .int (zI t), .int (zI y19.1), .int (zI ((6 * p) + t)), .ref 7175] ([r0, r1, r2, r3, r4, r5, r6, zH s7 zL7 0, r8, r9]) _ _
            refine zB.opi oX12_findThick rfl (zi_mul t y25) ?_
            refine zB.opi oX12_findThick rfl (zi_add y19.1 (t * y25)) ?_
            refine xB.run oX12_findThick 1 (s := (186, [some (.ref 7168), some (.int (zI str)), some (.int (zI p)), some (.int (zI push)), some (.int (zI t)), some (.int (zI y19.1)), some (.int (zI 1))], [.int (zI (y19.1 + (t * y25))), .int (zI ((6 * p) + t)), .ref 7175], [r0, r1, r2, r3, r4, r5, r6, zH s7 zL7 0, r8, r9])) rfl ?_
            obtain ⟨g27, H⟩ := zgd H
            refine zB.iast oX12_findThick (g := 7) (p := 7) (N := 54) (i := (6 * p) + t) (hp1 := [r0, r1, r2, r3, r4, r5, r6, zH (upz s7 7 ((6 * p) + t).toNat (y19.1 + (t * y25))) zL7 0, r8, r9]) rfl rfl (by decide) (by decide) rfl rfl (by decide) g27 rfl ?_
            refine zB.inc oX12_findThick rfl (lv2 := [some (.ref 7168), some (.int (zI str)), some (.int (zI p)), some (.int (zI push)), some (.int (zI (t + 1))), some (.int (zI y19.1)), some (.int (zI 1))]) (zi_inc (a := 0) (zi_addp1 t) _ rfl) ?_
            refine xB.run oX12_findThick 1 (s := (20, [some (.ref 7168), some (.int (zI str)), some (.int (zI p)), some (.int (zI push)), some (.int (zI (t + 1))), some (.int (zI y19.1)), some (.int (zI 1))], [], [r0, r1, r2, r3, r4, r5, r6, zH (upz s7 7 ((6 * p) + t).toNat (y19.1 + (t * y25))) zL7 0, r8, r9])) rfl ?_
            refine xB.forget (lv1 := [some (.ref 7168), some (.int (zI str)), some (.int (zI p)), some (.int (zI push)), some (.int (zI (t + 1))), none, none]) (xle_same (xle_same (xle_same (xle_same (xle_same (xle_none (xle_none (xle_nil)))))))) ?_
            exact ih (t + 1) (upz s7 7 ((6 * p) + t).toNat (y19.1 + (t * y25))) H K
      · have H := H.2 h5
        refine xB.run oX12_findThick 5 (s := (47, [some (.ref 7168), some (.int (zI str)), some (.int (zI p)), some (.int (zI push)), some (.int (zI t)), some (.int (zI 0)), none], [.int (zI 1), .int (zI t)], [r0, r1, r2, r3, r4, r5, r6, zH s7 zL7 0, r8, r9])) rfl ?_
        refine zB.opi oX12_findThick rfl (zi_sub t 1) ?_
        refine xB.run oX12_findThick 1 (s := (50, [some (.ref 7168), some (.int (zI str)), some (.int (zI p)), some (.int (zI push)), some (.int (zI t)), some (.int (zI 0)), some (.int (zI (t - 1)))], [], [r0, r1, r2, r3, r4, r5, r6, zH s7 zL7 0, r8, r9])) rfl ?_
        obtain ⟨y33, e34, H⟩ := zbd H
        refine l_X12_findThick_50 r0 r1 r2 r3 r4 r5 r6 s7 r8 r9 str p push t _ 0 (t - 1) e34 ?_
        refine xB.run oX12_findThick 1 (s := (130, [some (.ref 7168), some (.int (zI str)), some (.int (zI p)), some (.int (zI push)), some (.int (zI t)), some (.int (zI y33.1)), some (.int (zI y33.2))], [.int (zI t)], [r0, r1, r2, r3, r4, r5, r6, zH s7 zL7 0, r8, r9])) rfl ?_
        obtain ⟨g46, H⟩ := zgd H
        refine zB.opl oX12_findThick rfl (zi_i2l g46) ?_
        refine xB.run oX12_findThick 1 (s := (132, [some (.ref 7168), some (.int (zI str)), some (.int (zI p)), some (.int (zI push)), some (.int (zI t)), some (.int (zI y33.1)), some (.int (zI y33.2))], [.int (zI str), .long (zJ t)], [r0, r1, r2, r3, r4, r5, r6, zH s7 zL7 0, r8, r9])) rfl ?_
        obtain ⟨g45, H⟩ := zgd H
        refine zB.opl oX12_findThick rfl (zi_i2l g45) ?_
        refine zB.opl oX12_findThick rfl (zj_mul t str) ?_
        refine xB.run oX12_findThick 1 (s := (135, [some (.ref 7168), some (.int (zI str)), some (.int (zI p)), some (.int (zI push)), some (.int (zI t)), some (.int (zI y33.1)), some (.int (zI y33.2))], [.int (zI push), .long (zJ (t * str))], [r0, r1, r2, r3, r4, r5, r6, zH s7 zL7 0, r8, r9])) rfl ?_
        obtain ⟨g44, H⟩ := zgd H
        refine zB.opl oX12_findThick rfl (zi_i2l g44) ?_
        refine xB.run oX12_findThick 1 (s := (137, [some (.ref 7168), some (.int (zI str)), some (.int (zI p)), some (.int (zI push)), some (.int (zI t)), some (.int (zI y33.1)), some (.int (zI y33.2))], [.int (lg_cmp (zJ (t * str)) (zJ push))], [r0, r1, r2, r3, r4, r5, r6, zH s7 zL7 0, r8, r9])) rfl ?_
        obtain ⟨g43, H⟩ := zgd H
        have H := zif H
        refine xB.brE oX12_findThick (P := (t * str) < push) rfl (zl_lt (a := t * str) (b := push) g43) (fun h35 => ?_) (fun h35 => ?_)
        · have H := H.1 h35
          refine xB.run oX12_findThick 6 (s := (161, [some (.ref 7168), some (.int (zI str)), some (.int (zI p)), some (.int (zI push)), some (.int (zI t)), some (.int (zI y33.1)), some (.int (zI 0))], [.int (zI p), .int (zI 6), .ref 7175], [r0, r1, r2, r3, r4, r5, r6, zH s7 zL7 0, r8, r9])) rfl ?_
          refine zB.opi oX12_findThick rfl (zi_mul 6 p) ?_
          refine xB.run oX12_findThick 1 (s := (164, [some (.ref 7168), some (.int (zI str)), some (.int (zI p)), some (.int (zI push)), some (.int (zI t)), some (.int (zI y33.1)), some (.int (zI 0))], [.int (zI t), .int (zI (6 * p)), .ref 7175], [r0, r1, r2, r3, r4, r5, r6, zH s7 zL7 0, r8, r9])) rfl ?_
          refine zB.opi oX12_findThick rfl (zi_add (6 * p) t) ?_
          refine xB.run oX12_findThick 3 (s := (186, [some (.ref 7168), some (.int (zI str)), some (.int (zI p)), some (.int (zI push)), some (.int (zI t)), some (.int (zI y33.1)), some (.int (zI 0))], [.int (zI 1000000), .int (zI ((6 * p) + t)), .ref 7175], [r0, r1, r2, r3, r4, r5, r6, zH s7 zL7 0, r8, r9])) rfl ?_
          obtain ⟨g36, H⟩ := zgd H
          refine zB.iast oX12_findThick (g := 7) (p := 7) (N := 54) (i := (6 * p) + t) (hp1 := [r0, r1, r2, r3, r4, r5, r6, zH (upz s7 7 ((6 * p) + t).toNat 1000000) zL7 0, r8, r9]) rfl rfl (by decide) (by decide) rfl rfl (by decide) g36 rfl ?_
          refine zB.inc oX12_findThick rfl (lv2 := [some (.ref 7168), some (.int (zI str)), some (.int (zI p)), some (.int (zI push)), some (.int (zI (t + 1))), some (.int (zI y33.1)), some (.int (zI 0))]) (zi_inc (a := 0) (zi_addp1 t) _ rfl) ?_
          refine xB.run oX12_findThick 1 (s := (20, [some (.ref 7168), some (.int (zI str)), some (.int (zI p)), some (.int (zI push)), some (.int (zI (t + 1))), some (.int (zI y33.1)), some (.int (zI 0))], [], [r0, r1, r2, r3, r4, r5, r6, zH (upz s7 7 ((6 * p) + t).toNat 1000000) zL7 0, r8, r9])) rfl ?_
          refine xB.forget (lv1 := [some (.ref 7168), some (.int (zI str)), some (.int (zI p)), some (.int (zI push)), some (.int (zI (t + 1))), none, none]) (xle_same (xle_same (xle_same (xle_same (xle_same (xle_none (xle_none (xle_nil)))))))) ?_
          exact ih (t + 1) (upz s7 7 ((6 * p) + t).toNat 1000000) H K
        · have H := H.2 h35
          refine xB.run oX12_findThick 2 (s := (144, [some (.ref 7168), some (.int (zI str)), some (.int (zI p)), some (.int (zI push)), some (.int (zI t)), some (.int (zI y33.1)), some (.int (zI y33.2))], [.int (zI 1000000), .int (zI y33.1)], [r0, r1, r2, r3, r4, r5, r6, zH s7 zL7 0, r8, r9])) rfl ?_
          obtain ⟨g42, H⟩ := zgd H
          have H := zif H
          refine xB.brE oX12_findThick (P := (1000000 : Int) ≤ y33.1) rfl (zc_ge (a := y33.1) (b := 1000000) ⟨g42, by decide⟩) (fun h37 => ?_) (fun h37 => ?_)
          · have H := H.1 h37
            refine xB.run oX12_findThick 6 (s := (161, [some (.ref 7168), some (.int (zI str)), some (.int (zI p)), some (.int (zI push)), some (.int (zI t)), some (.int (zI y33.1)), some (.int (zI 0))], [.int (zI p), .int (zI 6), .ref 7175], [r0, r1, r2, r3, r4, r5, r6, zH s7 zL7 0, r8, r9])) rfl ?_
            refine zB.opi oX12_findThick rfl (zi_mul 6 p) ?_
            refine xB.run oX12_findThick 1 (s := (164, [some (.ref 7168), some (.int (zI str)), some (.int (zI p)), some (.int (zI push)), some (.int (zI t)), some (.int (zI y33.1)), some (.int (zI 0))], [.int (zI t), .int (zI (6 * p)), .ref 7175], [r0, r1, r2, r3, r4, r5, r6, zH s7 zL7 0, r8, r9])) rfl ?_
            refine zB.opi oX12_findThick rfl (zi_add (6 * p) t) ?_
            refine xB.run oX12_findThick 3 (s := (186, [some (.ref 7168), some (.int (zI str)), some (.int (zI p)), some (.int (zI push)), some (.int (zI t)), some (.int (zI y33.1)), some (.int (zI 0))], [.int (zI 1000000), .int (zI ((6 * p) + t)), .ref 7175], [r0, r1, r2, r3, r4, r5, r6, zH s7 zL7 0, r8, r9])) rfl ?_
            obtain ⟨g38, H⟩ := zgd H
            refine zB.iast oX12_findThick (g := 7) (p := 7) (N := 54) (i := (6 * p) + t) (hp1 := [r0, r1, r2, r3, r4, r5, r6, zH (upz s7 7 ((6 * p) + t).toNat 1000000) zL7 0, r8, r9]) rfl rfl (by decide) (by decide) rfl rfl (by decide) g38 rfl ?_
            refine zB.inc oX12_findThick rfl (lv2 := [some (.ref 7168), some (.int (zI str)), some (.int (zI p)), some (.int (zI push)), some (.int (zI (t + 1))), some (.int (zI y33.1)), some (.int (zI 0))]) (zi_inc (a := 0) (zi_addp1 t) _ rfl) ?_
            refine xB.run oX12_findThick 1 (s := (20, [some (.ref 7168), some (.int (zI str)), some (.int (zI p)), some (.int (zI push)), some (.int (zI (t + 1))), some (.int (zI y33.1)), some (.int (zI 0))], [], [r0, r1, r2, r3, r4, r5, r6, zH (upz s7 7 ((6 * p) + t).toNat 1000000) zL7 0, r8, r9])) rfl ?_
            refine xB.forget (lv1 := [some (.ref 7168), some (.int (zI str)), some (.int (zI p)), some (.int (zI push)), some (.int (zI (t + 1))), none, none]) (xle_same (xle_same (xle_same (xle_same (xle_same (xle_none (xle_none (xle_nil)))))))) ?_
            exact ih (t + 1) (upz s7 7 ((6 * p) + t).toNat 1000000) H K
          · have H := H.2 h37
            refine xB.run oX12_findThick 7 (s := (161, [some (.ref 7168), some (.int (zI str)), some (.int (zI p)), some (.int (zI push)), some (.int (zI t)), some (.int (zI y33.1)), some (.int (zI 1))], [.int (zI p), .int (zI 6), .ref 7175], [r0, r1, r2, r3, r4, r5, r6, zH s7 zL7 0, r8, r9])) rfl ?_
            refine zB.opi oX12_findThick rfl (zi_mul 6 p) ?_
            refine xB.run oX12_findThick 1 (s := (164, [some (.ref 7168), some (.int (zI str)), some (.int (zI p)), some (.int (zI push)), some (.int (zI t)), some (.int (zI y33.1)), some (.int (zI 1))], [.int (zI t), .int (zI (6 * p)), .ref 7175], [r0, r1, r2, r3, r4, r5, r6, zH s7 zL7 0, r8, r9])) rfl ?_
            refine zB.opi oX12_findThick rfl (zi_add (6 * p) t) ?_
            refine xB.run oX12_findThick 6 (s := (176, [some (.ref 7168), some (.int (zI str)), some (.int (zI p)), some (.int (zI push)), some (.int (zI t)), some (.int (zI y33.1)), some (.int (zI 1))], [.int (zI p), .ref 7168, .int (zI t), .int (zI y33.1), .int (zI ((6 * p) + t)), .ref 7175], [r0, r1, r2, r3, r4, r5, r6, zH s7 zL7 0, r8, r9])) rfl ?_
            obtain ⟨y39, e40, H⟩ := zbd H
            refine xB.call oX12_findThick (M2 := MX12_lengthOf) rfl rfl ((t_X12_lengthOf r0 r1 r2 r3 r4 r5 r6 s7 r8 r9 p e40).deep (by decide : 1 ≤ 1)) ?_
            show xBody MX12_findThick 2 179 [some (.ref 7168), some (.int (zI str)), some (.int (zI p)), some (.int (zI push)), some (.int (zI t)), some (.int (zI y33.1)), some (.int (zI 1))] [.int (zI y39), .int (zI t), .int (zI y33.1), .int (zI ((6 * p) + t)), .ref 7175] ([r0, r1, r2, r3, r4, r5, r6, zH s7 zL7 0, r8, r9]) _ _
            refine zB.opi oX12_findThick rfl (zi_mul t y39) ?_
            refine zB.opi oX12_findThick rfl (zi_add y33.1 (t * y39)) ?_
            refine xB.run oX12_findThick 1 (s := (186, [some (.ref 7168), some (.int (zI str)), some (.int (zI p)), some (.int (zI push)), some (.int (zI t)), some (.int (zI y33.1)), some (.int (zI 1))], [.int (zI (y33.1 + (t * y39))), .int (zI ((6 * p) + t)), .ref 7175], [r0, r1, r2, r3, r4, r5, r6, zH s7 zL7 0, r8, r9])) rfl ?_
            obtain ⟨g41, H⟩ := zgd H
            refine zB.iast oX12_findThick (g := 7) (p := 7) (N := 54) (i := (6 * p) + t) (hp1 := [r0, r1, r2, r3, r4, r5, r6, zH (upz s7 7 ((6 * p) + t).toNat (y33.1 + (t * y39))) zL7 0, r8, r9]) rfl rfl (by decide) (by decide) rfl rfl (by decide) g41 rfl ?_
            refine zB.inc oX12_findThick rfl (lv2 := [some (.ref 7168), some (.int (zI str)), some (.int (zI p)), some (.int (zI push)), some (.int (zI (t + 1))), some (.int (zI y33.1)), some (.int (zI 1))]) (zi_inc (a := 0) (zi_addp1 t) _ rfl) ?_
            refine xB.run oX12_findThick 1 (s := (20, [some (.ref 7168), some (.int (zI str)), some (.int (zI p)), some (.int (zI push)), some (.int (zI (t + 1))), some (.int (zI y33.1)), some (.int (zI 1))], [], [r0, r1, r2, r3, r4, r5, r6, zH (upz s7 7 ((6 * p) + t).toNat (y33.1 + (t * y39))) zL7 0, r8, r9])) rfl ?_
            refine xB.forget (lv1 := [some (.ref 7168), some (.int (zI str)), some (.int (zI p)), some (.int (zI push)), some (.int (zI (t + 1))), none, none]) (xle_same (xle_same (xle_same (xle_same (xle_same (xle_none (xle_none (xle_nil)))))))) ?_
            exact ih (t + 1) (upz s7 7 ((6 * p) + t).toNat (y33.1 + (t * y39))) H K
set_option maxRecDepth 20000 in
theorem l_X12_findThick_7 (r0 : List va_E) (r1 : List va_E) (r2 : List va_E) (r3 : List va_E) (r4 : List va_E) (r5 : List va_E) (r6 : List va_E) (r8 : List va_E) (r9 : List va_E) (str : Int) {r : Option Value} {hp1 : xH} : ∀ (uN : Nat) (p : Int) (s7 : zZ) {uX : Int × zZ}, d_X12_findThick_7 str uN p s7 = some uX → (xBody MX12_findThick 2 199 [some (.ref 7168), some (.int (zI str)), some (.int (zI uX.1)), none, none, none, none] [] ([r0, r1, r2, r3, r4, r5, r6, zH uX.2 zL7 0, r8, r9]) r hp1) → xBody MX12_findThick 2 7 [some (.ref 7168), some (.int (zI str)), some (.int (zI p)), none, none, none, none] [] ([r0, r1, r2, r3, r4, r5, r6, zH s7 zL7 0, r8, r9]) r hp1 := by
  intro uN
  induction uN with
  | zero => intro p s7 uX H K; cases H
  | succ uN ih =>
    intro p s7 uX H K
    unfold d_X12_findThick_7 at H
    refine xB.run oX12_findThick 1 (s := (8, [some (.ref 7168), some (.int (zI str)), some (.int (zI p)), none, none, none, none], [.int (zI p)], [r0, r1, r2, r3, r4, r5, r6, zH s7 zL7 0, r8, r9])) rfl ?_
    obtain ⟨g51, H⟩ := zgd H
    have H := zif H
    refine xB.brE oX12_findThick (P := p < 0) rfl (zc_lt (a := p) (b := 0) ⟨g51, by decide⟩) (fun h1 => ?_) (fun h1 => ?_)
    · have H := H.1 h1
      obtain rfl := Option.some.inj H
      exact K
    · have H := H.2 h1
      refine xB.run oX12_findThick 2 (s := (13, [some (.ref 7168), some (.int (zI str)), some (.int (zI p)), none, none, none, none], [.int (zI p), .ref 7168], [r0, r1, r2, r3, r4, r5, r6, zH s7 zL7 0, r8, r9])) rfl ?_
      obtain ⟨y2, e3, H⟩ := zbd H
      refine xB.call oX12_findThick (M2 := MX12_pushOf) rfl rfl ((t_X12_pushOf r0 r1 r2 r3 r4 r5 r6 s7 r8 r9 p e3).deep (by decide : 1 ≤ 1)) ?_
      show xBody MX12_findThick 2 16 [some (.ref 7168), some (.int (zI str)), some (.int (zI p)), none, none, none, none] [.int (zI y2)] ([r0, r1, r2, r3, r4, r5, r6, zH s7 zL7 0, r8, r9]) _ _
      refine xB.run oX12_findThick 3 (s := (20, [some (.ref 7168), some (.int (zI str)), some (.int (zI p)), some (.int (zI y2)), some (.int (zI 1)), none, none], [], [r0, r1, r2, r3, r4, r5, r6, zH s7 zL7 0, r8, r9])) rfl ?_
      obtain ⟨y49, e50, H⟩ := zbd H
      refine l_X12_findThick_20 r0 r1 r2 r3 r4 r5 r6 r8 r9 str p y2 _ 1 s7 e50 ?_
      refine zB.inc oX12_findThick rfl (lv2 := [some (.ref 7168), some (.int (zI str)), some (.int (zI (p + (-1)))), some (.int (zI y2)), some (.int (zI y49.1)), none, none]) (zi_inc (a := 0) (zi_addm1 p) _ rfl) ?_
      refine xB.run oX12_findThick 1 (s := (7, [some (.ref 7168), some (.int (zI str)), some (.int (zI (p + (-1)))), some (.int (zI y2)), some (.int (zI y49.1)), none, none], [], [r0, r1, r2, r3, r4, r5, r6, zH y49.2 zL7 0, r8, r9])) rfl ?_
      refine xB.forget (lv1 := [some (.ref 7168), some (.int (zI str)), some (.int (zI (p + (-1)))), none, none, none, none]) (xle_same (xle_same (xle_same (xle_none (xle_none (xle_same (xle_same (xle_nil)))))))) ?_
      exact ih (p + (-1)) y49.2 H K
set_option maxRecDepth 20000 in
theorem l_X12_findThick_217 (r0 : List va_E) (r1 : List va_E) (r2 : List va_E) (r3 : List va_E) (r4 : List va_E) (r5 : List va_E) (r6 : List va_E) (s7 : zZ) (r8 : List va_E) (r9 : List va_E) (str : Int) (p : Int) (push : Int) {r : Option Value} {hp1 : xH} : ∀ (uN : Nat) (t : Int) (least : Int) {uX : Int × Int}, d_X12_findThick_217 s7 str p push uN t least = some uX → (xBody MX12_findThick 2 314 [some (.ref 7168), some (.int (zI str)), some (.int (zI p)), some (.int (zI push)), some (.int (zI uX.1)), some (.int (zI uX.2)), none] [] ([r0, r1, r2, r3, r4, r5, r6, zH s7 zL7 0, r8, r9]) r hp1) → xBody MX12_findThick 2 217 [some (.ref 7168), some (.int (zI str)), some (.int (zI p)), some (.int (zI push)), some (.int (zI t)), some (.int (zI least)), none] [] ([r0, r1, r2, r3, r4, r5, r6, zH s7 zL7 0, r8, r9]) r hp1 := by
  intro uN
  induction uN with
  | zero => intro t least uX H K; cases H
  | succ uN ih =>
    intro t least uX H K
    unfold d_X12_findThick_217 at H
    refine xB.run oX12_findThick 2 (s := (220, [some (.ref 7168), some (.int (zI str)), some (.int (zI p)), some (.int (zI push)), some (.int (zI t)), some (.int (zI least)), none], [.int (zI 5), .int (zI least)], [r0, r1, r2, r3, r4, r5, r6, zH s7 zL7 0, r8, r9])) rfl ?_
    obtain ⟨g80, H⟩ := zgd H
    have H := zif H
    refine xB.brE oX12_findThick (P := (5 : Int) < least) rfl (zc_gt (a := least) (b := 5) ⟨g80, by decide⟩) (fun h55 => ?_) (fun h55 => ?_)
    · have H := H.1 h55
      obtain rfl := Option.some.inj H
      exact K
    · have H := H.2 h55
      refine xB.run oX12_findThick 1 (s := (224, [some (.ref 7168), some (.int (zI str)), some (.int (zI p)), some (.int (zI push)), some (.int (zI t)), some (.int (zI least)), none], [.int (zI push)], [r0, r1, r2, r3, r4, r5, r6, zH s7 zL7 0, r8, r9])) rfl ?_
      obtain ⟨g79, H⟩ := zgd H
      have H := zif H
      refine xB.brE oX12_findThick (P := push = 0) rfl (zc_eq (a := push) (b := 0) ⟨g79, by decide⟩) (fun h56 => ?_) (fun h56 => ?_)
      · have H := H.1 h56
        refine xB.run oX12_findThick 9 (s := (262, [some (.ref 7168), some (.int (zI str)), some (.int (zI p)), some (.int (zI push)), some (.int (zI t)), some (.int (zI least)), some (.int (zI 1))], [.int (zI push), .int (zI 6), .ref 7175], [r0, r1, r2, r3, r4, r5, r6, zH s7 zL7 0, r8, r9])) rfl ?_
        refine zB.opi oX12_findThick rfl (zi_mul 6 push) ?_
        refine xB.run oX12_findThick 1 (s := (265, [some (.ref 7168), some (.int (zI str)), some (.int (zI p)), some (.int (zI push)), some (.int (zI t)), some (.int (zI least)), some (.int (zI 1))], [.int (zI least), .int (zI (6 * push)), .ref 7175], [r0, r1, r2, r3, r4, r5, r6, zH s7 zL7 0, r8, r9])) rfl ?_
        refine zB.opi oX12_findThick rfl (zi_add (6 * push) least) ?_
        obtain ⟨g65, H⟩ := zgd H
        refine zB.iald oX12_findThick (g := 7) (p := 7) (N := 54) (i := (6 * push) + least) rfl rfl (by decide) rfl rfl (by decide) g65 ?_
        refine xB.run oX12_findThick 1 (s := (269, [some (.ref 7168), some (.int (zI str)), some (.int (zI p)), some (.int (zI push)), some (.int (zI t)), some (.int (zI least)), some (.int (zI 1))], [.int (zI 1000000), .int (zI (s7 7 ((6 * push) + least).toNat))], [r0, r1, r2, r3, r4, r5, r6, zH s7 zL7 0, r8, r9])) rfl ?_
        obtain ⟨g64, H⟩ := zgd H
        have H := zif H
        refine xB.brE oX12_findThick (P := (1000000 : Int) ≤ (s7 7 ((6 * push) + least).toNat)) rfl (zc_ge (a := s7 7 ((6 * push) + least).toNat) (b := 1000000) ⟨g64, by decide⟩) (fun h57 => ?_) (fun h57 => ?_)
        · have H := H.1 h57
          refine zB.inc oX12_findThick rfl (lv2 := [some (.ref 7168), some (.int (zI str)), some (.int (zI p)), some (.int (zI push)), some (.int (zI t)), some (.int (zI (least + 1))), some (.int (zI 1))]) (zi_inc (a := 0) (zi_addp1 least) _ rfl) ?_
          refine xB.run oX12_findThick 1 (s := (217, [some (.ref 7168), some (.int (zI str)), some (.int (zI p)), some (.int (zI push)), some (.int (zI t)), some (.int (zI (least + 1))), some (.int (zI 1))], [], [r0, r1, r2, r3, r4, r5, r6, zH s7 zL7 0, r8, r9])) rfl ?_
          refine xB.forget (lv1 := [some (.ref 7168), some (.int (zI str)), some (.int (zI p)), some (.int (zI push)), some (.int (zI t)), some (.int (zI (least + 1))), none]) (xle_same (xle_same (xle_same (xle_same (xle_same (xle_same (xle_none (xle_nil)))))))) ?_
          exact ih t (least + 1) H K
        · have H := H.2 h57
          refine xB.run oX12_findThick 1 (s := (274, [some (.ref 7168), some (.int (zI str)), some (.int (zI p)), some (.int (zI push)), some (.int (zI t)), some (.int (zI least)), some (.int (zI 1))], [.int (zI t)], [r0, r1, r2, r3, r4, r5, r6, zH s7 zL7 0, r8, r9])) rfl ?_
          obtain ⟨g63, H⟩ := zgd H
          have H := zif H
          refine xB.brE oX12_findThick (P := t = 0) rfl (zc_eq (a := t) (b := 0) ⟨g63, by decide⟩) (fun h58 => ?_) (fun h58 => ?_)
          · have H := H.1 h58
            refine xB.run oX12_findThick 2 (s := (308, [some (.ref 7168), some (.int (zI str)), some (.int (zI p)), some (.int (zI push)), some (.int (zI least)), some (.int (zI least)), some (.int (zI 1))], [], [r0, r1, r2, r3, r4, r5, r6, zH s7 zL7 0, r8, r9])) rfl ?_
            refine zB.inc oX12_findThick rfl (lv2 := [some (.ref 7168), some (.int (zI str)), some (.int (zI p)), some (.int (zI push)), some (.int (zI least)), some (.int (zI (least + 1))), some (.int (zI 1))]) (zi_inc (a := 0) (zi_addp1 least) _ rfl) ?_
            refine xB.run oX12_findThick 1 (s := (217, [some (.ref 7168), some (.int (zI str)), some (.int (zI p)), some (.int (zI push)), some (.int (zI least)), some (.int (zI (least + 1))), some (.int (zI 1))], [], [r0, r1, r2, r3, r4, r5, r6, zH s7 zL7 0, r8, r9])) rfl ?_
            refine xB.forget (lv1 := [some (.ref 7168), some (.int (zI str)), some (.int (zI p)), some (.int (zI push)), some (.int (zI least)), some (.int (zI (least + 1))), none]) (xle_same (xle_same (xle_same (xle_same (xle_same (xle_same (xle_none (xle_nil)))))))) ?_
            exact ih least (least + 1) H K
          · have H := H.2 h58
            refine xB.run oX12_findThick 4 (s := (284, [some (.ref 7168), some (.int (zI str)), some (.int (zI p)), some (.int (zI push)), some (.int (zI t)), some (.int (zI least)), some (.int (zI 1))], [.int (zI push), .int (zI 6), .ref 7175], [r0, r1, r2, r3, r4, r5, r6, zH s7 zL7 0, r8, r9])) rfl ?_
            refine zB.opi oX12_findThick rfl (zi_mul 6 push) ?_
            refine xB.run oX12_findThick 1 (s := (287, [some (.ref 7168), some (.int (zI str)), some (.int (zI p)), some (.int (zI push)), some (.int (zI t)), some (.int (zI least)), some (.int (zI 1))], [.int (zI least), .int (zI (6 * push)), .ref 7175], [r0, r1, r2, r3, r4, r5, r6, zH s7 zL7 0, r8, r9])) rfl ?_
            refine zB.opi oX12_findThick rfl (zi_add (6 * push) least) ?_
            obtain ⟨g62, H⟩ := zgd H
            refine zB.iald oX12_findThick (g := 7) (p := 7) (N := 54) (i := (6 * push) + least) rfl rfl (by decide) rfl rfl (by decide) g62 ?_
            refine xB.run oX12_findThick 4 (s := (296, [some (.ref 7168), some (.int (zI str)), some (.int (zI p)), some (.int (zI push)), some (.int (zI t)), some (.int (zI least)), some (.int (zI 1))], [.int (zI push), .int (zI 6), .ref 7175, .int (zI (s7 7 ((6 * push) + least).toNat))], [r0, r1, r2, r3, r4, r5, r6, zH s7 zL7 0, r8, r9])) rfl ?_
            refine zB.opi oX12_findThick rfl (zi_mul 6 push) ?_
            refine xB.run oX12_findThick 1 (s := (299, [some (.ref 7168), some (.int (zI str)), some (.int (zI p)), some (.int (zI push)), some (.int (zI t)), some (.int (zI least)), some (.int (zI 1))], [.int (zI t), .int (zI (6 * push)), .ref 7175, .int (zI (s7 7 ((6 * push) + least).toNat))], [r0, r1, r2, r3, r4, r5, r6, zH s7 zL7 0, r8, r9])) rfl ?_
            refine zB.opi oX12_findThick rfl (zi_add (6 * push) t) ?_
            obtain ⟨g61, H⟩ := zgd H
            refine zB.iald oX12_findThick (g := 7) (p := 7) (N := 54) (i := (6 * push) + t) rfl rfl (by decide) rfl rfl (by decide) g61 ?_
            obtain ⟨g60, H⟩ := zgd H
            have H := zif H
            refine xB.brE oX12_findThick (P := (s7 7 ((6 * push) + t).toNat) ≤ (s7 7 ((6 * push) + least).toNat)) rfl (zc_ge (a := s7 7 ((6 * push) + least).toNat) (b := s7 7 ((6 * push) + t).toNat) g60) (fun h59 => ?_) (fun h59 => ?_)
            · have H := H.1 h59
              refine zB.inc oX12_findThick rfl (lv2 := [some (.ref 7168), some (.int (zI str)), some (.int (zI p)), some (.int (zI push)), some (.int (zI t)), some (.int (zI (least + 1))), some (.int (zI 1))]) (zi_inc (a := 0) (zi_addp1 least) _ rfl) ?_
              refine xB.run oX12_findThick 1 (s := (217, [some (.ref 7168), some (.int (zI str)), some (.int (zI p)), some (.int (zI push)), some (.int (zI t)), some (.int (zI (least + 1))), some (.int (zI 1))], [], [r0, r1, r2, r3, r4, r5, r6, zH s7 zL7 0, r8, r9])) rfl ?_
              refine xB.forget (lv1 := [some (.ref 7168), some (.int (zI str)), some (.int (zI p)), some (.int (zI push)), some (.int (zI t)), some (.int (zI (least + 1))), none]) (xle_same (xle_same (xle_same (xle_same (xle_same (xle_same (xle_none (xle_nil)))))))) ?_
              exact ih t (least + 1) H K
            · have H := H.2 h59
              refine xB.run oX12_findThick 2 (s := (308, [some (.ref 7168), some (.int (zI str)), some (.int (zI p)), some (.int (zI push)), some (.int (zI least)), some (.int (zI least)), some (.int (zI 1))], [], [r0, r1, r2, r3, r4, r5, r6, zH s7 zL7 0, r8, r9])) rfl ?_
              refine zB.inc oX12_findThick rfl (lv2 := [some (.ref 7168), some (.int (zI str)), some (.int (zI p)), some (.int (zI push)), some (.int (zI least)), some (.int (zI (least + 1))), some (.int (zI 1))]) (zi_inc (a := 0) (zi_addp1 least) _ rfl) ?_
              refine xB.run oX12_findThick 1 (s := (217, [some (.ref 7168), some (.int (zI str)), some (.int (zI p)), some (.int (zI push)), some (.int (zI least)), some (.int (zI (least + 1))), some (.int (zI 1))], [], [r0, r1, r2, r3, r4, r5, r6, zH s7 zL7 0, r8, r9])) rfl ?_
              refine xB.forget (lv1 := [some (.ref 7168), some (.int (zI str)), some (.int (zI p)), some (.int (zI push)), some (.int (zI least)), some (.int (zI (least + 1))), none]) (xle_same (xle_same (xle_same (xle_same (xle_same (xle_same (xle_none (xle_nil)))))))) ?_
              exact ih least (least + 1) H K
      · have H := H.2 h56
        refine xB.run oX12_findThick 3 (s := (231, [some (.ref 7168), some (.int (zI str)), some (.int (zI p)), some (.int (zI push)), some (.int (zI t)), some (.int (zI least)), none], [.int (zI 1), .int (zI p), .int (zI least)], [r0, r1, r2, r3, r4, r5, r6, zH s7 zL7 0, r8, r9])) rfl ?_
        refine zB.opi oX12_findThick rfl (zi_sub p 1) ?_
        obtain ⟨g78, H⟩ := zgd H
        have H := zif H
        refine xB.brE oX12_findThick (P := least < (p - 1)) rfl (zc_lt (a := least) (b := p - 1) g78) (fun h66 => ?_) (fun h66 => ?_)
        · have H := H.1 h66
          refine xB.run oX12_findThick 4 (s := (308, [some (.ref 7168), some (.int (zI str)), some (.int (zI p)), some (.int (zI push)), some (.int (zI t)), some (.int (zI least)), some (.int (zI 0))], [], [r0, r1, r2, r3, r4, r5, r6, zH s7 zL7 0, r8, r9])) rfl ?_
          refine zB.inc oX12_findThick rfl (lv2 := [some (.ref 7168), some (.int (zI str)), some (.int (zI p)), some (.int (zI push)), some (.int (zI t)), some (.int (zI (least + 1))), some (.int (zI 0))]) (zi_inc (a := 0) (zi_addp1 least) _ rfl) ?_
          refine xB.run oX12_findThick 1 (s := (217, [some (.ref 7168), some (.int (zI str)), some (.int (zI p)), some (.int (zI push)), some (.int (zI t)), some (.int (zI (least + 1))), some (.int (zI 0))], [], [r0, r1, r2, r3, r4, r5, r6, zH s7 zL7 0, r8, r9])) rfl ?_
          refine xB.forget (lv1 := [some (.ref 7168), some (.int (zI str)), some (.int (zI p)), some (.int (zI push)), some (.int (zI t)), some (.int (zI (least + 1))), none]) (xle_same (xle_same (xle_same (xle_same (xle_same (xle_same (xle_none (xle_nil)))))))) ?_
          exact ih t (least + 1) H K
        · have H := H.2 h66
          refine xB.run oX12_findThick 3 (s := (239, [some (.ref 7168), some (.int (zI str)), some (.int (zI p)), some (.int (zI push)), some (.int (zI t)), some (.int (zI least)), none], [.int (zI 1), .int (zI p), .int (zI least)], [r0, r1, r2, r3, r4, r5, r6, zH s7 zL7 0, r8, r9])) rfl ?_
          refine zB.opi oX12_findThick rfl (zi_add p 1) ?_
          obtain ⟨g77, H⟩ := zgd H
          have H := zif H
          refine xB.brE oX12_findThick (P := (p + 1) < least) rfl (zc_gt (a := least) (b := p + 1) g77) (fun h67 => ?_) (fun h67 => ?_)
          · have H := H.1 h67
            refine xB.run oX12_findThick 4 (s := (308, [some (.ref 7168), some (.int (zI str)), some (.int (zI p)), some (.int (zI push)), some (.int (zI t)), some (.int (zI least)), some (.int (zI 0))], [], [r0, r1, r2, r3, r4, r5, r6, zH s7 zL7 0, r8, r9])) rfl ?_
            refine zB.inc oX12_findThick rfl (lv2 := [some (.ref 7168), some (.int (zI str)), some (.int (zI p)), some (.int (zI push)), some (.int (zI t)), some (.int (zI (least + 1))), some (.int (zI 0))]) (zi_inc (a := 0) (zi_addp1 least) _ rfl) ?_
            refine xB.run oX12_findThick 1 (s := (217, [some (.ref 7168), some (.int (zI str)), some (.int (zI p)), some (.int (zI push)), some (.int (zI t)), some (.int (zI (least + 1))), some (.int (zI 0))], [], [r0, r1, r2, r3, r4, r5, r6, zH s7 zL7 0, r8, r9])) rfl ?_
            refine xB.forget (lv1 := [some (.ref 7168), some (.int (zI str)), some (.int (zI p)), some (.int (zI push)), some (.int (zI t)), some (.int (zI (least + 1))), none]) (xle_same (xle_same (xle_same (xle_same (xle_same (xle_same (xle_none (xle_nil)))))))) ?_
            exact ih t (least + 1) H K
          · have H := H.2 h67
            refine xB.run oX12_findThick 9 (s := (262, [some (.ref 7168), some (.int (zI str)), some (.int (zI p)), some (.int (zI push)), some (.int (zI t)), some (.int (zI least)), some (.int (zI 1))], [.int (zI push), .int (zI 6), .ref 7175], [r0, r1, r2, r3, r4, r5, r6, zH s7 zL7 0, r8, r9])) rfl ?_
            refine zB.opi oX12_findThick rfl (zi_mul 6 push) ?_
            refine xB.run oX12_findThick 1 (s := (265, [some (.ref 7168), some (.int (zI str)), some (.int (zI p)), some (.int (zI push)), some (.int (zI t)), some (.int (zI least)), some (.int (zI 1))], [.int (zI least), .int (zI (6 * push)), .ref 7175], [r0, r1, r2, r3, r4, r5, r6, zH s7 zL7 0, r8, r9])) rfl ?_
            refine zB.opi oX12_findThick rfl (zi_add (6 * push) least) ?_
            obtain ⟨g76, H⟩ := zgd H
            refine zB.iald oX12_findThick (g := 7) (p := 7) (N := 54) (i := (6 * push) + least) rfl rfl (by decide) rfl rfl (by decide) g76 ?_
            refine xB.run oX12_findThick 1 (s := (269, [some (.ref 7168), some (.int (zI str)), some (.int (zI p)), some (.int (zI push)), some (.int (zI t)), some (.int (zI least)), some (.int (zI 1))], [.int (zI 1000000), .int (zI (s7 7 ((6 * push) + least).toNat))], [r0, r1, r2, r3, r4, r5, r6, zH s7 zL7 0, r8, r9])) rfl ?_
            obtain ⟨g75, H⟩ := zgd H
            have H := zif H
            refine xB.brE oX12_findThick (P := (1000000 : Int) ≤ (s7 7 ((6 * push) + least).toNat)) rfl (zc_ge (a := s7 7 ((6 * push) + least).toNat) (b := 1000000) ⟨g75, by decide⟩) (fun h68 => ?_) (fun h68 => ?_)
            · have H := H.1 h68
              refine zB.inc oX12_findThick rfl (lv2 := [some (.ref 7168), some (.int (zI str)), some (.int (zI p)), some (.int (zI push)), some (.int (zI t)), some (.int (zI (least + 1))), some (.int (zI 1))]) (zi_inc (a := 0) (zi_addp1 least) _ rfl) ?_
              refine xB.run oX12_findThick 1 (s := (217, [some (.ref 7168), some (.int (zI str)), some (.int (zI p)), some (.int (zI push)), some (.int (zI t)), some (.int (zI (least + 1))), some (.int (zI 1))], [], [r0, r1, r2, r3, r4, r5, r6, zH s7 zL7 0, r8, r9])) rfl ?_
              refine xB.forget (lv1 := [some (.ref 7168), some (.int (zI str)), some (.int (zI p)), some (.int (zI push)), some (.int (zI t)), some (.int (zI (least + 1))), none]) (xle_same (xle_same (xle_same (xle_same (xle_same (xle_same (xle_none (xle_nil)))))))) ?_
              exact ih t (least + 1) H K
            · have H := H.2 h68
              refine xB.run oX12_findThick 1 (s := (274, [some (.ref 7168), some (.int (zI str)), some (.int (zI p)), some (.int (zI push)), some (.int (zI t)), some (.int (zI least)), some (.int (zI 1))], [.int (zI t)], [r0, r1, r2, r3, r4, r5, r6, zH s7 zL7 0, r8, r9])) rfl ?_
              obtain ⟨g74, H⟩ := zgd H
              have H := zif H
              refine xB.brE oX12_findThick (P := t = 0) rfl (zc_eq (a := t) (b := 0) ⟨g74, by decide⟩) (fun h69 => ?_) (fun h69 => ?_)
              · have H := H.1 h69
                refine xB.run oX12_findThick 2 (s := (308, [some (.ref 7168), some (.int (zI str)), some (.int (zI p)), some (.int (zI push)), some (.int (zI least)), some (.int (zI least)), some (.int (zI 1))], [], [r0, r1, r2, r3, r4, r5, r6, zH s7 zL7 0, r8, r9])) rfl ?_
                refine zB.inc oX12_findThick rfl (lv2 := [some (.ref 7168), some (.int (zI str)), some (.int (zI p)), some (.int (zI push)), some (.int (zI least)), some (.int (zI (least + 1))), some (.int (zI 1))]) (zi_inc (a := 0) (zi_addp1 least) _ rfl) ?_
                refine xB.run oX12_findThick 1 (s := (217, [some (.ref 7168), some (.int (zI str)), some (.int (zI p)), some (.int (zI push)), some (.int (zI least)), some (.int (zI (least + 1))), some (.int (zI 1))], [], [r0, r1, r2, r3, r4, r5, r6, zH s7 zL7 0, r8, r9])) rfl ?_
                refine xB.forget (lv1 := [some (.ref 7168), some (.int (zI str)), some (.int (zI p)), some (.int (zI push)), some (.int (zI least)), some (.int (zI (least + 1))), none]) (xle_same (xle_same (xle_same (xle_same (xle_same (xle_same (xle_none (xle_nil)))))))) ?_
                exact ih least (least + 1) H K
              · have H := H.2 h69
                refine xB.run oX12_findThick 4 (s := (284, [some (.ref 7168), some (.int (zI str)), some (.int (zI p)), some (.int (zI push)), some (.int (zI t)), some (.int (zI least)), some (.int (zI 1))], [.int (zI push), .int (zI 6), .ref 7175], [r0, r1, r2, r3, r4, r5, r6, zH s7 zL7 0, r8, r9])) rfl ?_
                refine zB.opi oX12_findThick rfl (zi_mul 6 push) ?_
                refine xB.run oX12_findThick 1 (s := (287, [some (.ref 7168), some (.int (zI str)), some (.int (zI p)), some (.int (zI push)), some (.int (zI t)), some (.int (zI least)), some (.int (zI 1))], [.int (zI least), .int (zI (6 * push)), .ref 7175], [r0, r1, r2, r3, r4, r5, r6, zH s7 zL7 0, r8, r9])) rfl ?_
                refine zB.opi oX12_findThick rfl (zi_add (6 * push) least) ?_
                obtain ⟨g73, H⟩ := zgd H
                refine zB.iald oX12_findThick (g := 7) (p := 7) (N := 54) (i := (6 * push) + least) rfl rfl (by decide) rfl rfl (by decide) g73 ?_
                refine xB.run oX12_findThick 4 (s := (296, [some (.ref 7168), some (.int (zI str)), some (.int (zI p)), some (.int (zI push)), some (.int (zI t)), some (.int (zI least)), some (.int (zI 1))], [.int (zI push), .int (zI 6), .ref 7175, .int (zI (s7 7 ((6 * push) + least).toNat))], [r0, r1, r2, r3, r4, r5, r6, zH s7 zL7 0, r8, r9])) rfl ?_
                refine zB.opi oX12_findThick rfl (zi_mul 6 push) ?_
                refine xB.run oX12_findThick 1 (s := (299, [some (.ref 7168), some (.int (zI str)), some (.int (zI p)), some (.int (zI push)), some (.int (zI t)), some (.int (zI least)), some (.int (zI 1))], [.int (zI t), .int (zI (6 * push)), .ref 7175, .int (zI (s7 7 ((6 * push) + least).toNat))], [r0, r1, r2, r3, r4, r5, r6, zH s7 zL7 0, r8, r9])) rfl ?_
                refine zB.opi oX12_findThick rfl (zi_add (6 * push) t) ?_
                obtain ⟨g72, H⟩ := zgd H
                refine zB.iald oX12_findThick (g := 7) (p := 7) (N := 54) (i := (6 * push) + t) rfl rfl (by decide) rfl rfl (by decide) g72 ?_
                obtain ⟨g71, H⟩ := zgd H
                have H := zif H
                refine xB.brE oX12_findThick (P := (s7 7 ((6 * push) + t).toNat) ≤ (s7 7 ((6 * push) + least).toNat)) rfl (zc_ge (a := s7 7 ((6 * push) + least).toNat) (b := s7 7 ((6 * push) + t).toNat) g71) (fun h70 => ?_) (fun h70 => ?_)
                · have H := H.1 h70
                  refine zB.inc oX12_findThick rfl (lv2 := [some (.ref 7168), some (.int (zI str)), some (.int (zI p)), some (.int (zI push)), some (.int (zI t)), some (.int (zI (least + 1))), some (.int (zI 1))]) (zi_inc (a := 0) (zi_addp1 least) _ rfl) ?_
                  refine xB.run oX12_findThick 1 (s := (217, [some (.ref 7168), some (.int (zI str)), some (.int (zI p)), some (.int (zI push)), some (.int (zI t)), some (.int (zI (least + 1))), some (.int (zI 1))], [], [r0, r1, r2, r3, r4, r5, r6, zH s7 zL7 0, r8, r9])) rfl ?_
                  refine xB.forget (lv1 := [some (.ref 7168), some (.int (zI str)), some (.int (zI p)), some (.int (zI push)), some (.int (zI t)), some (.int (zI (least + 1))), none]) (xle_same (xle_same (xle_same (xle_same (xle_same (xle_same (xle_none (xle_nil)))))))) ?_
                  exact ih t (least + 1) H K
                · have H := H.2 h70
                  refine xB.run oX12_findThick 2 (s := (308, [some (.ref 7168), some (.int (zI str)), some (.int (zI p)), some (.int (zI push)), some (.int (zI least)), some (.int (zI least)), some (.int (zI 1))], [], [r0, r1, r2, r3, r4, r5, r6, zH s7 zL7 0, r8, r9])) rfl ?_
                  refine zB.inc oX12_findThick rfl (lv2 := [some (.ref 7168), some (.int (zI str)), some (.int (zI p)), some (.int (zI push)), some (.int (zI least)), some (.int (zI (least + 1))), some (.int (zI 1))]) (zi_inc (a := 0) (zi_addp1 least) _ rfl) ?_
                  refine xB.run oX12_findThick 1 (s := (217, [some (.ref 7168), some (.int (zI str)), some (.int (zI p)), some (.int (zI push)), some (.int (zI least)), some (.int (zI (least + 1))), some (.int (zI 1))], [], [r0, r1, r2, r3, r4, r5, r6, zH s7 zL7 0, r8, r9])) rfl ?_
                  refine xB.forget (lv1 := [some (.ref 7168), some (.int (zI str)), some (.int (zI p)), some (.int (zI push)), some (.int (zI least)), some (.int (zI (least + 1))), none]) (xle_same (xle_same (xle_same (xle_same (xle_same (xle_same (xle_none (xle_nil)))))))) ?_
                  exact ih least (least + 1) H K
set_option maxRecDepth 20000 in
theorem l_X12_findThick_203 (r0 : List va_E) (r1 : List va_E) (r2 : List va_E) (r3 : List va_E) (r4 : List va_E) (r5 : List va_E) (r6 : List va_E) (r8 : List va_E) (r9 : List va_E) (str : Int) {r : Option Value} {hp1 : xH} : ∀ (uN : Nat) (p : Int) (push : Int) (s7 : zZ) {uX : Sum (Int × Int × zZ) (Int × zZ)}, d_X12_findThick_203 str uN p push s7 = some uX → ((∀ uY, uX = .inl uY → xBody MX12_findThick 2 339 [some (.ref 7168), some (.int (zI str)), some (.int (zI uY.1)), some (.int (zI uY.2.1)), none, none, none] [] ([r0, r1, r2, r3, r4, r5, r6, zH uY.2.2 zL7 0, r8, r9]) r hp1) ∧ (∀ uW, uX = .inr uW → r = some (.int (zI uW.1)) ∧ hp1 = [r0, r1, r2, r3, r4, r5, r6, zH uW.2 zL7 0, r8, r9])) → xBody MX12_findThick 2 203 [some (.ref 7168), some (.int (zI str)), some (.int (zI p)), some (.int (zI push)), none, none, none] [] ([r0, r1, r2, r3, r4, r5, r6, zH s7 zL7 0, r8, r9]) r hp1 := by
  intro uN
  induction uN with
  | zero => intro p push s7 uX H K; cases H
  | succ uN ih =>
    intro p push s7 uX H K
    unfold d_X12_findThick_203 at H
    refine xB.run oX12_findThick 3 (s := (208, [some (.ref 7168), some (.int (zI str)), some (.int (zI p)), some (.int (zI push)), none, none, none], [.int (zI (s7 0 5)), .int (zI push)], [r0, r1, r2, r3, r4, r5, r6, zH s7 zL7 0, r8, r9])) rfl ?_
    obtain ⟨g86, H⟩ := zgd H
    have H := zif H
    refine xB.brE oX12_findThick (P := (s7 0 5) ≤ push) rfl (zc_ge (a := push) (b := s7 0 5) g86) (fun h54 => ?_) (fun h54 => ?_)
    · have H := H.1 h54
      obtain rfl := Option.some.inj H
      exact K.1 _ rfl
    · have H := H.2 h54
      refine xB.run oX12_findThick 4 (s := (217, [some (.ref 7168), some (.int (zI str)), some (.int (zI p)), some (.int (zI push)), some (.int (zI 0)), some (.int (zI 1)), none], [], [r0, r1, r2, r3, r4, r5, r6, zH s7 zL7 0, r8, r9])) rfl ?_
      obtain ⟨y81, e82, H⟩ := zbd H
      refine l_X12_findThick_217 r0 r1 r2 r3 r4 r5 r6 s7 r8 r9 str p push _ 0 1 e82 ?_
      refine xB.run oX12_findThick 1 (s := (316, [some (.ref 7168), some (.int (zI str)), some (.int (zI p)), some (.int (zI push)), some (.int (zI y81.1)), some (.int (zI y81.2)), none], [.int (zI y81.1)], [r0, r1, r2, r3, r4, r5, r6, zH s7 zL7 0, r8, r9])) rfl ?_
      obtain ⟨g85, H⟩ := zgd H
      have H := zif H
      refine xB.brE oX12_findThick (P := y81.1 ≠ 0) rfl (zc_ne (a := y81.1) (b := 0) ⟨g85, by decide⟩) (fun h83 => ?_) (fun h83 => ?_)
      · have H := H.1 h83
        refine xB.run oX12_findThick 4 (s := (329, [some (.ref 7168), some (.int (zI str)), some (.int (zI p)), some (.int (zI push)), some (.int (zI y81.1)), some (.int (zI y81.2)), none], [.int (zI y81.1), .int (zI push), .ref 7176], [r0, r1, r2, r3, r4, r5, r6, zH s7 zL7 0, r8, r9])) rfl ?_
        obtain ⟨g84, H⟩ := zgd H
        refine zB.iast oX12_findThick (g := 7) (p := 8) (N := 8) (i := push) (hp1 := [r0, r1, r2, r3, r4, r5, r6, zH (upz s7 8 push.toNat y81.1) zL7 0, r8, r9]) rfl rfl (by decide) (by decide) rfl rfl (by decide) g84 rfl ?_
        refine xB.run oX12_findThick 2 (s := (333, [some (.ref 7168), some (.int (zI str)), some (.int (zI y81.1)), some (.int (zI push)), some (.int (zI y81.1)), some (.int (zI y81.2)), none], [], [r0, r1, r2, r3, r4, r5, r6, zH (upz s7 8 push.toNat y81.1) zL7 0, r8, r9])) rfl ?_
        refine zB.inc oX12_findThick rfl (lv2 := [some (.ref 7168), some (.int (zI str)), some (.int (zI y81.1)), some (.int (zI (push + 1))), some (.int (zI y81.1)), some (.int (zI y81.2)), none]) (zi_inc (a := 0) (zi_addp1 push) _ rfl) ?_
        refine xB.run oX12_findThick 1 (s := (203, [some (.ref 7168), some (.int (zI str)), some (.int (zI y81.1)), some (.int (zI (push + 1))), some (.int (zI y81.1)), some (.int (zI y81.2)), none], [], [r0, r1, r2, r3, r4, r5, r6, zH (upz s7 8 push.toNat y81.1) zL7 0, r8, r9])) rfl ?_
        refine xB.forget (lv1 := [some (.ref 7168), some (.int (zI str)), some (.int (zI y81.1)), some (.int (zI (push + 1))), none, none, none]) (xle_same (xle_same (xle_same (xle_same (xle_none (xle_none (xle_same (xle_nil)))))))) ?_
        exact ih y81.1 (push + 1) (upz s7 8 push.toNat y81.1) H K
      · have H := H.2 h83
        refine xB.run oX12_findThick 1 (s := (321, [some (.ref 7168), some (.int (zI str)), some (.int (zI p)), some (.int (zI push)), some (.int (zI y81.1)), some (.int (zI y81.2)), none], [.int (zI (-9))], [r0, r1, r2, r3, r4, r5, r6, zH s7 zL7 0, r8, r9])) rfl ?_
        obtain rfl := Option.some.inj H
        obtain ⟨kr, kh⟩ := K.2 _ rfl
        subst kr kh
        exact xB.ret oX12_findThick (r1 := some (.int (zI (-9)))) rfl rfl rfl
set_option maxRecDepth 20000 in
theorem t_X12_findThick (r0 : List va_E) (r1 : List va_E) (r2 : List va_E) (r3 : List va_E) (r4 : List va_E) (r5 : List va_E) (r6 : List va_E) (s7 : zZ) (r8 : List va_E) (r9 : List va_E) (str : Int) {rr : Int × zZ} (H : d_X12_findThick s7 str = some rr) : xC MX12_findThick 2 [.ref 7168, .int (zI str)] ([r0, r1, r2, r3, r4, r5, r6, zH s7 zL7 0, r8, r9]) (some (.int (zI rr.1))) ([r0, r1, r2, r3, r4, r5, r6, zH rr.2 zL7 0, r8, r9]) := by
  refine ⟨Nat.le_of_ble_eq_true rfl, ?_⟩
  show xBody MX12_findThick 2 0 [some (.ref 7168), some (.int (zI str)), none, none, none, none, none] [] ([r0, r1, r2, r3, r4, r5, r6, zH s7 zL7 0, r8, r9]) _ _
  unfold d_X12_findThick at H
  refine xB.run oX12_findThick 3 (s := (5, [some (.ref 7168), some (.int (zI str)), none, none, none, none, none], [.int (zI 1), .int (zI (s7 0 5))], [r0, r1, r2, r3, r4, r5, r6, zH s7 zL7 0, r8, r9])) rfl ?_
  refine zB.opi oX12_findThick rfl (zi_sub (s7 0 5) 1) ?_
  refine xB.run oX12_findThick 1 (s := (7, [some (.ref 7168), some (.int (zI str)), some (.int (zI ((s7 0 5) - 1))), none, none, none, none], [], [r0, r1, r2, r3, r4, r5, r6, zH s7 zL7 0, r8, r9])) rfl ?_
  obtain ⟨y52, e53, H⟩ := zbd H
  refine l_X12_findThick_7 r0 r1 r2 r3 r4 r5 r6 r8 r9 str _ ((s7 0 5) - 1) s7 e53 ?_
  refine xB.run oX12_findThick 4 (s := (203, [some (.ref 7168), some (.int (zI str)), some (.int (zI 0)), some (.int (zI 0)), none, none, none], [], [r0, r1, r2, r3, r4, r5, r6, zH y52.2 zL7 0, r8, r9])) rfl ?_
  obtain ⟨y87, e88, H⟩ := zbd H
  refine l_X12_findThick_203 r0 r1 r2 r3 r4 r5 r6 r8 r9 str _ 0 0 y52.2 e88 ?_
  refine ⟨fun y89 uQ => ?_, fun y90 uQ => ?_⟩
  · subst uQ
    refine xB.run oX12_findThick 5 (s := (348, [some (.ref 7168), some (.int (zI str)), some (.int (zI y89.1)), some (.int (zI y89.2.1)), none, none, none], [.int (zI 0), .ref 7176, .ref 7175], [r0, r1, r2, r3, r4, r5, r6, zH y89.2.2 zL7 0, r8, r9])) rfl ?_
    refine zB.iald oX12_findThick (g := 7) (p := 8) (N := 8) (i := 0) rfl rfl (by decide) rfl rfl (by decide) (by decide) ?_
    obtain ⟨g91, H⟩ := zgd H
    refine zB.iald oX12_findThick (g := 7) (p := 7) (N := 54) (i := y89.2.2 8 0) rfl rfl (by decide) rfl rfl (by decide) g91 ?_
    obtain rfl := Option.some.inj H
    exact xB.ret oX12_findThick (r1 := some (.int (zI (y89.2.2 7 (y89.2.2 8 0).toNat)))) rfl rfl rfl
  · subst uQ
    obtain rfl := Option.some.inj H
    exact ⟨rfl, rfl⟩
def d_X12_thick (s7 : zZ) (str : Int) (p : Int) : Option (Int × zZ) := if zr str then ((d_X12_within str 1 9999).bind fun y1 => if (zr y1) then (if y1 ≠ 0 then (if (zr (s7 0 5)) then (if (s7 0 5) = 0 then some ((-1), s7) else (if zr p then (if zr ((s7 0 5) - 1) then ((d_X12_within p (-1) ((s7 0 5) - 1)).bind fun y5 => if (zr y5) then (if y5 ≠ 0 then ((d_X12_findThick s7 str).bind fun y8 => if (zr y8.1) then (if y8.1 = (-9) then some (y8.1, y8.2) else (if (zr p) then (if (0 : Int) ≤ p then (if (0 ≤ p ∧ p < 8) then some (y8.2 8 p.toNat, y8.2) else none) else some (y8.1, y8.2)) else none)) else none) else some ((-1), s7)) else none) else none) else none)) else none) else some ((-2), s7)) else none) else none
set_option maxRecDepth 20000 in
theorem t_X12_thick (r0 : List va_E) (r1 : List va_E) (r2 : List va_E) (r3 : List va_E) (r4 : List va_E) (r5 : List va_E) (r6 : List va_E) (s7 : zZ) (r8 : List va_E) (r9 : List va_E) (str : Int) (p : Int) {rr : Int × zZ} (H : d_X12_thick s7 str p = some rr) : xC MX12_thick 3 [.ref 7168, .int (zI str), .int (zI p)] ([r0, r1, r2, r3, r4, r5, r6, zH s7 zL7 0, r8, r9]) (some (.int (zI rr.1))) ([r0, r1, r2, r3, r4, r5, r6, zH rr.2 zL7 0, r8, r9]) := by
  refine ⟨Nat.le_of_ble_eq_true rfl, ?_⟩
  show xBody MX12_thick 3 0 [some (.ref 7168), some (.int (zI str)), some (.int (zI p)), none] [] ([r0, r1, r2, r3, r4, r5, r6, zH s7 zL7 0, r8, r9]) _ _
  unfold d_X12_thick at H
  refine xB.run oX12_thick 1 (s := (1, [some (.ref 7168), some (.int (zI str)), some (.int (zI p)), none], [.int (zI str)], [r0, r1, r2, r3, r4, r5, r6, zH s7 zL7 0, r8, r9])) rfl ?_
  obtain ⟨g20, H⟩ := zgd H
  refine zB.opl oX12_thick rfl (zi_i2l g20) ?_
  refine xB.run oX12_thick 2 (s := (6, [some (.ref 7168), some (.int (zI str)), some (.int (zI p)), none], [.long (zJ 9999), .long (zJ 1), .long (zJ str)], [r0, r1, r2, r3, r4, r5, r6, zH s7 zL7 0, r8, r9])) rfl ?_
  obtain ⟨y1, e2, H⟩ := zbd H
  refine xB.call oX12_thick (M2 := MX12_within) rfl rfl ((t_X12_within r0 r1 r2 r3 r4 r5 r6 (zH s7 zL7 0) r8 r9 str 1 9999 e2).deep (by decide : 0 ≤ 2)) ?_
  show xBody MX12_thick 3 9 [some (.ref 7168), some (.int (zI str)), some (.int (zI p)), none] [.int (zI y1)] ([r0, r1, r2, r3, r4, r5, r6, zH s7 zL7 0, r8, r9]) _ _
  obtain ⟨g19, H⟩ := zgd H
  have H := zif H
  refine xB.brE oX12_thick (P := y1 ≠ 0) rfl (zc_ne (a := y1) (b := 0) ⟨g19, by decide⟩) (fun h3 => ?_) (fun h3 => ?_)
  · have H := H.1 h3
    refine xB.run oX12_thick 2 (s := (19, [some (.ref 7168), some (.int (zI str)), some (.int (zI p)), none], [.int (zI (s7 0 5))], [r0, r1, r2, r3, r4, r5, r6, zH s7 zL7 0, r8, r9])) rfl ?_
    obtain ⟨g18, H⟩ := zgd H
    have H := zif H
    refine xB.brE oX12_thick (P := (s7 0 5) = 0) rfl (zc_eq (a := s7 0 5) (b := 0) ⟨g18, by decide⟩) (fun h4 => ?_) (fun h4 => ?_)
    · have H := H.1 h4
      refine xB.run oX12_thick 1 (s := (41, [some (.ref 7168), some (.int (zI str)), some (.int (zI p)), none], [.int (zI (-1))], [r0, r1, r2, r3, r4, r5, r6, zH s7 zL7 0, r8, r9])) rfl ?_
      obtain rfl := Option.some.inj H
      exact xB.ret oX12_thick (r1 := some (.int (zI (-1)))) rfl rfl rfl
    · have H := H.2 h4
      refine xB.run oX12_thick 1 (s := (23, [some (.ref 7168), some (.int (zI str)), some (.int (zI p)), none], [.int (zI p)], [r0, r1, r2, r3, r4, r5, r6, zH s7 zL7 0, r8, r9])) rfl ?_
      obtain ⟨g17, H⟩ := zgd H
      refine zB.opl oX12_thick rfl (zi_i2l g17) ?_
      refine xB.run oX12_thick 4 (s := (32, [some (.ref 7168), some (.int (zI str)), some (.int (zI p)), none], [.int (zI 1), .int (zI (s7 0 5)), .long (zJ (-1)), .long (zJ p)], [r0, r1, r2, r3, r4, r5, r6, zH s7 zL7 0, r8, r9])) rfl ?_
      refine zB.opi oX12_thick rfl (zi_sub (s7 0 5) 1) ?_
      obtain ⟨g16, H⟩ := zgd H
      refine zB.opl oX12_thick rfl (zi_i2l g16) ?_
      obtain ⟨y5, e6, H⟩ := zbd H
      refine xB.call oX12_thick (M2 := MX12_within) rfl rfl ((t_X12_within r0 r1 r2 r3 r4 r5 r6 (zH s7 zL7 0) r8 r9 p (-1) ((s7 0 5) - 1) e6).deep (by decide : 0 ≤ 2)) ?_
      show xBody MX12_thick 3 37 [some (.ref 7168), some (.int (zI str)), some (.int (zI p)), none] [.int (zI y5)] ([r0, r1, r2, r3, r4, r5, r6, zH s7 zL7 0, r8, r9]) _ _
      obtain ⟨g15, H⟩ := zgd H
      have H := zif H
      refine xB.brE oX12_thick (P := y5 ≠ 0) rfl (zc_ne (a := y5) (b := 0) ⟨g15, by decide⟩) (fun h7 => ?_) (fun h7 => ?_)
      · have H := H.1 h7
        refine xB.run oX12_thick 2 (s := (44, [some (.ref 7168), some (.int (zI str)), some (.int (zI p)), none], [.int (zI str), .ref 7168], [r0, r1, r2, r3, r4, r5, r6, zH s7 zL7 0, r8, r9])) rfl ?_
        obtain ⟨y8, e9, H⟩ := zbd H
        refine xB.call oX12_thick (M2 := MX12_findThick) rfl rfl ((t_X12_findThick r0 r1 r2 r3 r4 r5 r6 s7 r8 r9 str e9).deep (by decide : 2 ≤ 2)) ?_
        show xBody MX12_thick 3 47 [some (.ref 7168), some (.int (zI str)), some (.int (zI p)), none] [.int (zI y8.1)] ([r0, r1, r2, r3, r4, r5, r6, zH y8.2 zL7 0, r8, r9]) _ _
        refine xB.run oX12_thick 3 (s := (51, [some (.ref 7168), some (.int (zI str)), some (.int (zI p)), some (.int (zI y8.1))], [.int (zI (-9)), .int (zI y8.1)], [r0, r1, r2, r3, r4, r5, r6, zH y8.2 zL7 0, r8, r9])) rfl ?_
        obtain ⟨g14, H⟩ := zgd H
        have H := zif H
        refine xB.brE oX12_thick (P := y8.1 = (-9)) rfl (zc_eq (a := y8.1) (b := (-9)) ⟨g14, by decide⟩) (fun h10 => ?_) (fun h10 => ?_)
        · have H := H.1 h10
          refine xB.run oX12_thick 2 (s := (68, [some (.ref 7168), some (.int (zI str)), some (.int (zI p)), some (.int (zI y8.1))], [.int (zI y8.1)], [r0, r1, r2, r3, r4, r5, r6, zH y8.2 zL7 0, r8, r9])) rfl ?_
          obtain rfl := Option.some.inj H
          exact xB.ret oX12_thick (r1 := some (.int (zI y8.1))) rfl rfl rfl
        · have H := H.2 h10
          refine xB.run oX12_thick 1 (s := (55, [some (.ref 7168), some (.int (zI str)), some (.int (zI p)), some (.int (zI y8.1))], [.int (zI p)], [r0, r1, r2, r3, r4, r5, r6, zH y8.2 zL7 0, r8, r9])) rfl ?_
          obtain ⟨g13, H⟩ := zgd H
          have H := zif H
          refine xB.brE oX12_thick (P := (0 : Int) ≤ p) rfl (zc_ge (a := p) (b := 0) ⟨g13, by decide⟩) (fun h11 => ?_) (fun h11 => ?_)
          · have H := H.1 h11
            refine xB.run oX12_thick 3 (s := (67, [some (.ref 7168), some (.int (zI str)), some (.int (zI p)), some (.int (zI y8.1))], [.int (zI p), .ref 7176], [r0, r1, r2, r3, r4, r5, r6, zH y8.2 zL7 0, r8, r9])) rfl ?_
            obtain ⟨g12, H⟩ := zgd H
            refine zB.iald oX12_thick (g := 7) (p := 8) (N := 8) (i := p) rfl rfl (by decide) rfl rfl (by decide) g12 ?_
            obtain rfl := Option.some.inj H
            exact xB.ret oX12_thick (r1 := some (.int (zI (y8.2 8 p.toNat)))) rfl rfl rfl
          · have H := H.2 h11
            refine xB.run oX12_thick 2 (s := (68, [some (.ref 7168), some (.int (zI str)), some (.int (zI p)), some (.int (zI y8.1))], [.int (zI y8.1)], [r0, r1, r2, r3, r4, r5, r6, zH y8.2 zL7 0, r8, r9])) rfl ?_
            obtain rfl := Option.some.inj H
            exact xB.ret oX12_thick (r1 := some (.int (zI y8.1))) rfl rfl rfl
      · have H := H.2 h7
        refine xB.run oX12_thick 1 (s := (41, [some (.ref 7168), some (.int (zI str)), some (.int (zI p)), none], [.int (zI (-1))], [r0, r1, r2, r3, r4, r5, r6, zH s7 zL7 0, r8, r9])) rfl ?_
        obtain rfl := Option.some.inj H
        exact xB.ret oX12_thick (r1 := some (.int (zI (-1)))) rfl rfl rfl
  · have H := H.2 h3
    refine xB.run oX12_thick 1 (s := (14, [some (.ref 7168), some (.int (zI str)), some (.int (zI p)), none], [.int (zI (-2))], [r0, r1, r2, r3, r4, r5, r6, zH s7 zL7 0, r8, r9])) rfl ?_
    obtain rfl := Option.some.inj H
    exact xB.ret oX12_thick (r1 := some (.int (zI (-2)))) rfl rfl rfl
def d_X12_rib_24 (nl : Int) : Nat → Int → zZ → Option (Int × zZ)
  | 0, _, _ => none
  | uN + 1, j, s7 => if (zr j) then (if (5 : Int) ≤ j then some (j, s7) else (if (0 ≤ j ∧ j < 6) then (d_X12_rib_24 nl uN (j + 1) (upz s7 9 j.toNat 1)) else none)) else none
def d_X12_rib (s7 : zZ) (nl : Int) : Option (Int × zZ) := if zr nl then ((d_X12_within nl 2 5).bind fun y1 => if (zr y1) then (if y1 ≠ 0 then ((d_X12_rib_24 nl zF 1 (upz s7 0 14 nl)).bind fun y7 => some (nl - 1, y7.2)) else some ((-2), s7)) else none) else none
set_option maxRecDepth 20000 in
theorem l_X12_rib_24 (r0 : List va_E) (r1 : List va_E) (r2 : List va_E) (r3 : List va_E) (r4 : List va_E) (r5 : List va_E) (r6 : List va_E) (r8 : List va_E) (r9 : List va_E) (nl : Int) {r : Option Value} {hp1 : xH} : ∀ (uN : Nat) (j : Int) (s7 : zZ) {uX : Int × zZ}, d_X12_rib_24 nl uN j s7 = some uX → (xBody MX12_rib 1 42 [some (.ref 7168), some (.int (zI nl)), some (.int (zI uX.1))] [] ([r0, r1, r2, r3, r4, r5, r6, zH uX.2 zL7 0, r8, r9]) r hp1) → xBody MX12_rib 1 24 [some (.ref 7168), some (.int (zI nl)), some (.int (zI j))] [] ([r0, r1, r2, r3, r4, r5, r6, zH s7 zL7 0, r8, r9]) r hp1 := by
  intro uN
  induction uN with
  | zero => intro j s7 uX H K; cases H
  | succ uN ih =>
    intro j s7 uX H K
    unfold d_X12_rib_24 at H
    refine xB.run oX12_rib 2 (s := (26, [some (.ref 7168), some (.int (zI nl)), some (.int (zI j))], [.int (zI 5), .int (zI j)], [r0, r1, r2, r3, r4, r5, r6, zH s7 zL7 0, r8, r9])) rfl ?_
    obtain ⟨g6, H⟩ := zgd H
    have H := zif H
    refine xB.brE oX12_rib (P := (5 : Int) ≤ j) rfl (zc_ge (a := j) (b := 5) ⟨g6, by decide⟩) (fun h4 => ?_) (fun h4 => ?_)
    · have H := H.1 h4
      obtain rfl := Option.some.inj H
      exact K
    · have H := H.2 h4
      refine xB.run oX12_rib 4 (s := (35, [some (.ref 7168), some (.int (zI nl)), some (.int (zI j))], [.int (zI 1), .int (zI j), .ref 7177], [r0, r1, r2, r3, r4, r5, r6, zH s7 zL7 0, r8, r9])) rfl ?_
      obtain ⟨g5, H⟩ := zgd H
      refine zB.iast oX12_rib (g := 7) (p := 9) (N := 6) (i := j) (hp1 := [r0, r1, r2, r3, r4, r5, r6, zH (upz s7 9 j.toNat 1) zL7 0, r8, r9]) rfl rfl (by decide) (by decide) rfl rfl (by decide) g5 rfl ?_
      refine zB.inc oX12_rib rfl (lv2 := [some (.ref 7168), some (.int (zI nl)), some (.int (zI (j + 1)))]) (zi_inc (a := 0) (zi_addp1 j) _ rfl) ?_
      refine xB.run oX12_rib 1 (s := (24, [some (.ref 7168), some (.int (zI nl)), some (.int (zI (j + 1)))], [], [r0, r1, r2, r3, r4, r5, r6, zH (upz s7 9 j.toNat 1) zL7 0, r8, r9])) rfl ?_
      exact ih (j + 1) (upz s7 9 j.toNat 1) H K
set_option maxRecDepth 20000 in
theorem t_X12_rib (r0 : List va_E) (r1 : List va_E) (r2 : List va_E) (r3 : List va_E) (r4 : List va_E) (r5 : List va_E) (r6 : List va_E) (s7 : zZ) (r8 : List va_E) (r9 : List va_E) (nl : Int) {rr : Int × zZ} (H : d_X12_rib s7 nl = some rr) : xC MX12_rib 1 [.ref 7168, .int (zI nl)] ([r0, r1, r2, r3, r4, r5, r6, zH s7 zL7 0, r8, r9]) (some (.int (zI rr.1))) ([r0, r1, r2, r3, r4, r5, r6, zH rr.2 zL7 0, r8, r9]) := by
  refine ⟨Nat.le_of_ble_eq_true rfl, ?_⟩
  show xBody MX12_rib 1 0 [some (.ref 7168), some (.int (zI nl)), none] [] ([r0, r1, r2, r3, r4, r5, r6, zH s7 zL7 0, r8, r9]) _ _
  unfold d_X12_rib at H
  refine xB.run oX12_rib 1 (s := (1, [some (.ref 7168), some (.int (zI nl)), none], [.int (zI nl)], [r0, r1, r2, r3, r4, r5, r6, zH s7 zL7 0, r8, r9])) rfl ?_
  obtain ⟨g10, H⟩ := zgd H
  refine zB.opl oX12_rib rfl (zi_i2l g10) ?_
  refine xB.run oX12_rib 2 (s := (8, [some (.ref 7168), some (.int (zI nl)), none], [.long (zJ 5), .long (zJ 2), .long (zJ nl)], [r0, r1, r2, r3, r4, r5, r6, zH s7 zL7 0, r8, r9])) rfl ?_
  obtain ⟨y1, e2, H⟩ := zbd H
  refine xB.call oX12_rib (M2 := MX12_within) rfl rfl ((t_X12_within r0 r1 r2 r3 r4 r5 r6 (zH s7 zL7 0) r8 r9 nl 2 5 e2).deep (by decide : 0 ≤ 0)) ?_
  show xBody MX12_rib 1 11 [some (.ref 7168), some (.int (zI nl)), none] [.int (zI y1)] ([r0, r1, r2, r3, r4, r5, r6, zH s7 zL7 0, r8, r9]) _ _
  obtain ⟨g9, H⟩ := zgd H
  have H := zif H
  refine xB.brE oX12_rib (P := y1 ≠ 0) rfl (zc_ne (a := y1) (b := 0) ⟨g9, by decide⟩) (fun h3 => ?_) (fun h3 => ?_)
  · have H := H.1 h3
    refine xB.run oX12_rib 2 (s := (19, [some (.ref 7168), some (.int (zI nl)), none], [.int (zI nl), .ref 7168], [r0, r1, r2, r3, r4, r5, r6, zH s7 zL7 0, r8, r9])) rfl ?_
    refine zB.putI oX12_rib (g := 7) (p := 0) (c := 12) (k := 14) (y := 0) (hp1 := [r0, r1, r2, r3, r4, r5, r6, zH (upz s7 0 14 nl) zL7 0, r8, r9]) rfl rfl (by decide) (by decide) rfl rfl rfl rfl rfl rfl ?_
    refine xB.run oX12_rib 2 (s := (24, [some (.ref 7168), some (.int (zI nl)), some (.int (zI 1))], [], [r0, r1, r2, r3, r4, r5, r6, zH (upz s7 0 14 nl) zL7 0, r8, r9])) rfl ?_
    obtain ⟨y7, e8, H⟩ := zbd H
    refine l_X12_rib_24 r0 r1 r2 r3 r4 r5 r6 r8 r9 nl _ 1 (upz s7 0 14 nl) e8 ?_
    refine xB.run oX12_rib 2 (s := (44, [some (.ref 7168), some (.int (zI nl)), some (.int (zI y7.1))], [.int (zI 1), .int (zI nl)], [r0, r1, r2, r3, r4, r5, r6, zH y7.2 zL7 0, r8, r9])) rfl ?_
    refine zB.opi oX12_rib rfl (zi_sub nl 1) ?_
    obtain rfl := Option.some.inj H
    exact xB.ret oX12_rib (r1 := some (.int (zI (nl - 1)))) rfl rfl rfl
  · have H := H.2 h3
    refine xB.run oX12_rib 1 (s := (16, [some (.ref 7168), some (.int (zI nl)), none], [.int (zI (-2))], [r0, r1, r2, r3, r4, r5, r6, zH s7 zL7 0, r8, r9])) rfl ?_
    obtain rfl := Option.some.inj H
    exact xB.ret oX12_rib (r1 := some (.int (zI (-2)))) rfl rfl rfl
def d_X12_spring (s7 : zZ) (j : Int) (k : Int) : Option (Int × zZ) := if zr j then (if zr ((s7 0 14) - 1) then ((d_X12_within j 1 ((s7 0 14) - 1)).bind fun y1 => if (zr y1) then (if y1 ≠ 0 then (if zr k then ((d_X12_within k 1 20).bind fun y4 => if (zr y4) then (if y4 ≠ 0 then (if (0 ≤ j ∧ j < 6) then (if (0 ≤ j ∧ j < 6) then some (s7 9 j.toNat, upz s7 9 j.toNat k) else none) else none) else some ((-2), s7)) else none) else none) else some ((-1), s7)) else none) else none) else none
set_option maxRecDepth 20000 in
theorem t_X12_spring (r0 : List va_E) (r1 : List va_E) (r2 : List va_E) (r3 : List va_E) (r4 : List va_E) (r5 : List va_E) (r6 : List va_E) (s7 : zZ) (r8 : List va_E) (r9 : List va_E) (j : Int) (k : Int) {rr : Int × zZ} (H : d_X12_spring s7 j k = some rr) : xC MX12_spring 1 [.ref 7168, .int (zI j), .int (zI k)] ([r0, r1, r2, r3, r4, r5, r6, zH s7 zL7 0, r8, r9]) (some (.int (zI rr.1))) ([r0, r1, r2, r3, r4, r5, r6, zH rr.2 zL7 0, r8, r9]) := by
  refine ⟨Nat.le_of_ble_eq_true rfl, ?_⟩
  show xBody MX12_spring 1 0 [some (.ref 7168), some (.int (zI j)), some (.int (zI k)), none] [] ([r0, r1, r2, r3, r4, r5, r6, zH s7 zL7 0, r8, r9]) _ _
  unfold d_X12_spring at H
  refine xB.run oX12_spring 1 (s := (1, [some (.ref 7168), some (.int (zI j)), some (.int (zI k)), none], [.int (zI j)], [r0, r1, r2, r3, r4, r5, r6, zH s7 zL7 0, r8, r9])) rfl ?_
  obtain ⟨g13, H⟩ := zgd H
  refine zB.opl oX12_spring rfl (zi_i2l g13) ?_
  refine xB.run oX12_spring 4 (s := (8, [some (.ref 7168), some (.int (zI j)), some (.int (zI k)), none], [.int (zI 1), .int (zI (s7 0 14)), .long (zJ 1), .long (zJ j)], [r0, r1, r2, r3, r4, r5, r6, zH s7 zL7 0, r8, r9])) rfl ?_
  refine zB.opi oX12_spring rfl (zi_sub (s7 0 14) 1) ?_
  obtain ⟨g12, H⟩ := zgd H
  refine zB.opl oX12_spring rfl (zi_i2l g12) ?_
  obtain ⟨y1, e2, H⟩ := zbd H
  refine xB.call oX12_spring (M2 := MX12_within) rfl rfl ((t_X12_within r0 r1 r2 r3 r4 r5 r6 (zH s7 zL7 0) r8 r9 j 1 ((s7 0 14) - 1) e2).deep (by decide : 0 ≤ 0)) ?_
  show xBody MX12_spring 1 13 [some (.ref 7168), some (.int (zI j)), some (.int (zI k)), none] [.int (zI y1)] ([r0, r1, r2, r3, r4, r5, r6, zH s7 zL7 0, r8, r9]) _ _
  obtain ⟨g11, H⟩ := zgd H
  have H := zif H
  refine xB.brE oX12_spring (P := y1 ≠ 0) rfl (zc_ne (a := y1) (b := 0) ⟨g11, by decide⟩) (fun h3 => ?_) (fun h3 => ?_)
  · have H := H.1 h3
    refine xB.run oX12_spring 1 (s := (19, [some (.ref 7168), some (.int (zI j)), some (.int (zI k)), none], [.int (zI k)], [r0, r1, r2, r3, r4, r5, r6, zH s7 zL7 0, r8, r9])) rfl ?_
    obtain ⟨g10, H⟩ := zgd H
    refine zB.opl oX12_spring rfl (zi_i2l g10) ?_
    refine xB.run oX12_spring 2 (s := (24, [some (.ref 7168), some (.int (zI j)), some (.int (zI k)), none], [.long (zJ 20), .long (zJ 1), .long (zJ k)], [r0, r1, r2, r3, r4, r5, r6, zH s7 zL7 0, r8, r9])) rfl ?_
    obtain ⟨y4, e5, H⟩ := zbd H
    refine xB.call oX12_spring (M2 := MX12_within) rfl rfl ((t_X12_within r0 r1 r2 r3 r4 r5 r6 (zH s7 zL7 0) r8 r9 k 1 20 e5).deep (by decide : 0 ≤ 0)) ?_
    show xBody MX12_spring 1 27 [some (.ref 7168), some (.int (zI j)), some (.int (zI k)), none] [.int (zI y4)] ([r0, r1, r2, r3, r4, r5, r6, zH s7 zL7 0, r8, r9]) _ _
    obtain ⟨g9, H⟩ := zgd H
    have H := zif H
    refine xB.brE oX12_spring (P := y4 ≠ 0) rfl (zc_ne (a := y4) (b := 0) ⟨g9, by decide⟩) (fun h6 => ?_) (fun h6 => ?_)
    · have H := H.1 h6
      refine xB.run oX12_spring 3 (s := (38, [some (.ref 7168), some (.int (zI j)), some (.int (zI k)), none], [.int (zI j), .ref 7177], [r0, r1, r2, r3, r4, r5, r6, zH s7 zL7 0, r8, r9])) rfl ?_
      obtain ⟨g8, H⟩ := zgd H
      refine zB.iald oX12_spring (g := 7) (p := 9) (N := 6) (i := j) rfl rfl (by decide) rfl rfl (by decide) g8 ?_
      refine xB.run oX12_spring 5 (s := (46, [some (.ref 7168), some (.int (zI j)), some (.int (zI k)), some (.int (zI (s7 9 j.toNat)))], [.int (zI k), .int (zI j), .ref 7177], [r0, r1, r2, r3, r4, r5, r6, zH s7 zL7 0, r8, r9])) rfl ?_
      obtain ⟨g7, H⟩ := zgd H
      refine zB.iast oX12_spring (g := 7) (p := 9) (N := 6) (i := j) (hp1 := [r0, r1, r2, r3, r4, r5, r6, zH (upz s7 9 j.toNat k) zL7 0, r8, r9]) rfl rfl (by decide) (by decide) rfl rfl (by decide) g7 rfl ?_
      refine xB.run oX12_spring 1 (s := (48, [some (.ref 7168), some (.int (zI j)), some (.int (zI k)), some (.int (zI (s7 9 j.toNat)))], [.int (zI (s7 9 j.toNat))], [r0, r1, r2, r3, r4, r5, r6, zH (upz s7 9 j.toNat k) zL7 0, r8, r9])) rfl ?_
      obtain rfl := Option.some.inj H
      exact xB.ret oX12_spring (r1 := some (.int (zI (s7 9 j.toNat)))) rfl rfl rfl
    · have H := H.2 h6
      refine xB.run oX12_spring 1 (s := (32, [some (.ref 7168), some (.int (zI j)), some (.int (zI k)), none], [.int (zI (-2))], [r0, r1, r2, r3, r4, r5, r6, zH s7 zL7 0, r8, r9])) rfl ?_
      obtain rfl := Option.some.inj H
      exact xB.ret oX12_spring (r1 := some (.int (zI (-2)))) rfl rfl rfl
  · have H := H.2 h3
    refine xB.run oX12_spring 1 (s := (17, [some (.ref 7168), some (.int (zI j)), some (.int (zI k)), none], [.int (zI (-1))], [r0, r1, r2, r3, r4, r5, r6, zH s7 zL7 0, r8, r9])) rfl ?_
    obtain rfl := Option.some.inj H
    exact xB.ret oX12_spring (r1 := some (.int (zI (-1)))) rfl rfl rfl
def d_X12_layTables_27 (s7 : zZ) (m : Int) (a : Int) (b : Int) : Nat → Int → Int → Option (Int × Int)
  | 0, _, _ => none
  | uN + 1, sum, j => if (zr j ∧ zr m) then (if m < j then some (sum, j) else (if (0 ≤ j ∧ j < 6) then (if zr (s7 9 j.toNat) then ((d_X12_bend j a).bind fun y4 => (d_X12_bend j b).bind fun y6 => d_X12_layTables_27 s7 m a b uN (sum + (((s7 9 j.toNat) * y4) * y6)) (j + 1)) else none) else none)) else none
def d_X12_layTables_16 (m : Int) (a : Int) : Nat → Int → zZ → Option (Int × zZ)
  | 0, _, _ => none
  | uN + 1, b, s7 => if (zr b ∧ zr m) then (if m < b then some (b, s7) else ((d_X12_layTables_27 s7 m a b zF 0 1).bind fun y11 => if (0 ≤ (((4 * (a - 1)) + b) - 1) ∧ (((4 * (a - 1)) + b) - 1) < 16) then (if (zr a ∧ zr b) then (if a ≠ b then (if (zr a ∧ zr (b - 1)) then (if a = (b - 1) then (if (0 ≤ (((4 * (a - 1)) + b) - 1) ∧ (((4 * (a - 1)) + b) - 1) < 16) then (d_X12_layTables_16 m a uN (b + 1) (upz (upz s7 10 (((4 * (a - 1)) + b) - 1).toNat y11.1) 11 (((4 * (a - 1)) + b) - 1).toNat (-1))) else none) else (if (zr a ∧ zr (b + 1)) then (if a ≠ (b + 1) then (if (0 ≤ (((4 * (a - 1)) + b) - 1) ∧ (((4 * (a - 1)) + b) - 1) < 16) then (d_X12_layTables_16 m a uN (b + 1) (upz (upz s7 10 (((4 * (a - 1)) + b) - 1).toNat y11.1) 11 (((4 * (a - 1)) + b) - 1).toNat 0)) else none) else (if (0 ≤ (((4 * (a - 1)) + b) - 1) ∧ (((4 * (a - 1)) + b) - 1) < 16) then (d_X12_layTables_16 m a uN (b + 1) (upz (upz s7 10 (((4 * (a - 1)) + b) - 1).toNat y11.1) 11 (((4 * (a - 1)) + b) - 1).toNat (-1))) else none)) else none)) else none) else (if (0 ≤ (((4 * (a - 1)) + b) - 1) ∧ (((4 * (a - 1)) + b) - 1) < 16) then (d_X12_layTables_16 m a uN (b + 1) (upz (upz s7 10 (((4 * (a - 1)) + b) - 1).toNat y11.1) 11 (((4 * (a - 1)) + b) - 1).toNat 2)) else none)) else none) else none)) else none
def d_X12_layTables_9 (m : Int) : Nat → Int → zZ → Option (Int × zZ)
  | 0, _, _ => none
  | uN + 1, a, s7 => if (zr a ∧ zr m) then (if m < a then some (a, s7) else ((d_X12_layTables_16 m a zF 1 s7).bind fun y25 => d_X12_layTables_9 m uN (a + 1) y25.2)) else none
def d_X12_layTables (s7 : zZ) : Option (zZ) := (d_X12_layTables_9 ((s7 0 14) - 1) zF 1 s7).bind fun y28 => some y28.2
set_option maxRecDepth 20000 in
theorem l_X12_layTables_27 (r0 : List va_E) (r1 : List va_E) (r2 : List va_E) (r3 : List va_E) (r4 : List va_E) (r5 : List va_E) (r6 : List va_E) (s7 : zZ) (r8 : List va_E) (r9 : List va_E) (m : Int) (a : Int) (b : Int) {r : Option Value} {hp1 : xH} : ∀ (uN : Nat) (sum : Int) (j : Int) {uX : Int × Int}, d_X12_layTables_27 s7 m a b uN sum j = some uX → (xBody MX12_layTables 1 66 [some (.ref 7168), some (.int (zI m)), some (.int (zI a)), some (.int (zI b)), some (.long (zJ uX.1)), none, some (.int (zI uX.2))] [] ([r0, r1, r2, r3, r4, r5, r6, zH s7 zL7 0, r8, r9]) r hp1) → xBody MX12_layTables 1 27 [some (.ref 7168), some (.int (zI m)), some (.int (zI a)), some (.int (zI b)), some (.long (zJ sum)), none, some (.int (zI j))] [] ([r0, r1, r2, r3, r4, r5, r6, zH s7 zL7 0, r8, r9]) r hp1 := by
  intro uN
  induction uN with
  | zero => intro sum j uX H K; cases H
  | succ uN ih =>
    intro sum j uX H K
    unfold d_X12_layTables_27 at H
    refine xB.run oX12_layTables 2 (s := (30, [some (.ref 7168), some (.int (zI m)), some (.int (zI a)), some (.int (zI b)), some (.long (zJ sum)), none, some (.int (zI j))], [.int (zI m), .int (zI j)], [r0, r1, r2, r3, r4, r5, r6, zH s7 zL7 0, r8, r9])) rfl ?_
    obtain ⟨g10, H⟩ := zgd H
    have H := zif H
    refine xB.brE oX12_layTables (P := m < j) rfl (zc_gt (a := j) (b := m) g10) (fun h3 => ?_) (fun h3 => ?_)
    · have H := H.1 h3
      obtain rfl := Option.some.inj H
      exact K
    · have H := H.2 h3
      refine xB.run oX12_layTables 4 (s := (41, [some (.ref 7168), some (.int (zI m)), some (.int (zI a)), some (.int (zI b)), some (.long (zJ sum)), none, some (.int (zI j))], [.int (zI j), .ref 7177, .long (zJ sum)], [r0, r1, r2, r3, r4, r5, r6, zH s7 zL7 0, r8, r9])) rfl ?_
      obtain ⟨g9, H⟩ := zgd H
      refine zB.iald oX12_layTables (g := 7) (p := 9) (N := 6) (i := j) rfl rfl (by decide) rfl rfl (by decide) g9 ?_
      obtain ⟨g8, H⟩ := zgd H
      refine zB.opl oX12_layTables rfl (zi_i2l g8) ?_
      refine xB.run oX12_layTables 2 (s := (46, [some (.ref 7168), some (.int (zI m)), some (.int (zI a)), some (.int (zI b)), some (.long (zJ sum)), none, some (.int (zI j))], [.int (zI a), .int (zI j), .long (zJ (s7 9 j.toNat)), .long (zJ sum)], [r0, r1, r2, r3, r4, r5, r6, zH s7 zL7 0, r8, r9])) rfl ?_
      obtain ⟨y4, e5, H⟩ := zbd H
      refine xB.call oX12_layTables (M2 := MX12_bend) rfl rfl ((t_X12_bend r0 r1 r2 r3 r4 r5 r6 (zH s7 zL7 0) r8 r9 j a e5).deep (by decide : 0 ≤ 0)) ?_
      show xBody MX12_layTables 1 49 [some (.ref 7168), some (.int (zI m)), some (.int (zI a)), some (.int (zI b)), some (.long (zJ sum)), none, some (.int (zI j))] [.long (zJ y4), .long (zJ (s7 9 j.toNat)), .long (zJ sum)] ([r0, r1, r2, r3, r4, r5, r6, zH s7 zL7 0, r8, r9]) _ _
      refine zB.opl oX12_layTables rfl (zj_mul (s7 9 j.toNat) y4) ?_
      refine xB.run oX12_layTables 2 (s := (53, [some (.ref 7168), some (.int (zI m)), some (.int (zI a)), some (.int (zI b)), some (.long (zJ sum)), none, some (.int (zI j))], [.int (zI b), .int (zI j), .long (zJ ((s7 9 j.toNat) * y4)), .long (zJ sum)], [r0, r1, r2, r3, r4, r5, r6, zH s7 zL7 0, r8, r9])) rfl ?_
      obtain ⟨y6, e7, H⟩ := zbd H
      refine xB.call oX12_layTables (M2 := MX12_bend) rfl rfl ((t_X12_bend r0 r1 r2 r3 r4 r5 r6 (zH s7 zL7 0) r8 r9 j b e7).deep (by decide : 0 ≤ 0)) ?_
      show xBody MX12_layTables 1 56 [some (.ref 7168), some (.int (zI m)), some (.int (zI a)), some (.int (zI b)), some (.long (zJ sum)), none, some (.int (zI j))] [.long (zJ y6), .long (zJ ((s7 9 j.toNat) * y4)), .long (zJ sum)] ([r0, r1, r2, r3, r4, r5, r6, zH s7 zL7 0, r8, r9]) _ _
      refine zB.opl oX12_layTables rfl (zj_mul ((s7 9 j.toNat) * y4) y6) ?_
      refine zB.opl oX12_layTables rfl (zj_add sum (((s7 9 j.toNat) * y4) * y6)) ?_
      refine xB.run oX12_layTables 1 (s := (60, [some (.ref 7168), some (.int (zI m)), some (.int (zI a)), some (.int (zI b)), some (.long (zJ (sum + (((s7 9 j.toNat) * y4) * y6)))), none, some (.int (zI j))], [], [r0, r1, r2, r3, r4, r5, r6, zH s7 zL7 0, r8, r9])) rfl ?_
      refine zB.inc oX12_layTables rfl (lv2 := [some (.ref 7168), some (.int (zI m)), some (.int (zI a)), some (.int (zI b)), some (.long (zJ (sum + (((s7 9 j.toNat) * y4) * y6)))), none, some (.int (zI (j + 1)))]) (zi_inc (a := 0) (zi_addp1 j) _ rfl) ?_
      refine xB.run oX12_layTables 1 (s := (27, [some (.ref 7168), some (.int (zI m)), some (.int (zI a)), some (.int (zI b)), some (.long (zJ (sum + (((s7 9 j.toNat) * y4) * y6)))), none, some (.int (zI (j + 1)))], [], [r0, r1, r2, r3, r4, r5, r6, zH s7 zL7 0, r8, r9])) rfl ?_
      exact ih (sum + (((s7 9 j.toNat) * y4) * y6)) (j + 1) H K
set_option maxRecDepth 20000 in
theorem l_X12_layTables_16 (r0 : List va_E) (r1 : List va_E) (r2 : List va_E) (r3 : List va_E) (r4 : List va_E) (r5 : List va_E) (r6 : List va_E) (r8 : List va_E) (r9 : List va_E) (m : Int) (a : Int) {r : Option Value} {hp1 : xH} : ∀ (uN : Nat) (b : Int) (s7 : zZ) {uX : Int × zZ}, d_X12_layTables_16 m a uN b s7 = some uX → (xBody MX12_layTables 1 134 [some (.ref 7168), some (.int (zI m)), some (.int (zI a)), some (.int (zI uX.1)), none, none, none] [] ([r0, r1, r2, r3, r4, r5, r6, zH uX.2 zL7 0, r8, r9]) r hp1) → xBody MX12_layTables 1 16 [some (.ref 7168), some (.int (zI m)), some (.int (zI a)), some (.int (zI b)), none, none, none] [] ([r0, r1, r2, r3, r4, r5, r6, zH s7 zL7 0, r8, r9]) r hp1 := by
  intro uN
  induction uN with
  | zero => intro b s7 uX H K; cases H
  | succ uN ih =>
    intro b s7 uX H K
    unfold d_X12_layTables_16 at H
    refine xB.run oX12_layTables 2 (s := (18, [some (.ref 7168), some (.int (zI m)), some (.int (zI a)), some (.int (zI b)), none, none, none], [.int (zI m), .int (zI b)], [r0, r1, r2, r3, r4, r5, r6, zH s7 zL7 0, r8, r9])) rfl ?_
    obtain ⟨g24, H⟩ := zgd H
    have H := zif H
    refine xB.brE oX12_layTables (P := m < b) rfl (zc_gt (a := b) (b := m) g24) (fun h2 => ?_) (fun h2 => ?_)
    · have H := H.1 h2
      obtain rfl := Option.some.inj H
      exact K
    · have H := H.2 h2
      refine xB.run oX12_layTables 4 (s := (27, [some (.ref 7168), some (.int (zI m)), some (.int (zI a)), some (.int (zI b)), some (.long (zJ 0)), none, some (.int (zI 1))], [], [r0, r1, r2, r3, r4, r5, r6, zH s7 zL7 0, r8, r9])) rfl ?_
      obtain ⟨y11, e12, H⟩ := zbd H
      refine l_X12_layTables_27 r0 r1 r2 r3 r4 r5 r6 s7 r8 r9 m a b _ 0 1 e12 ?_
      refine xB.run oX12_layTables 5 (s := (73, [some (.ref 7168), some (.int (zI m)), some (.int (zI a)), some (.int (zI b)), some (.long (zJ y11.1)), none, some (.int (zI y11.2))], [.int (zI 1), .int (zI a), .int (zI 4), .ref 7178], [r0, r1, r2, r3, r4, r5, r6, zH s7 zL7 0, r8, r9])) rfl ?_
      refine zB.opi oX12_layTables rfl (zi_sub a 1) ?_
      refine zB.opi oX12_layTables rfl (zi_mul 4 (a - 1)) ?_
      refine xB.run oX12_layTables 1 (s := (76, [some (.ref 7168), some (.int (zI m)), some (.int (zI a)), some (.int (zI b)), some (.long (zJ y11.1)), none, some (.int (zI y11.2))], [.int (zI b), .int (zI (4 * (a - 1))), .ref 7178], [r0, r1, r2, r3, r4, r5, r6, zH s7 zL7 0, r8, r9])) rfl ?_
      refine zB.opi oX12_layTables rfl (zi_add (4 * (a - 1)) b) ?_
      refine xB.run oX12_layTables 1 (s := (78, [some (.ref 7168), some (.int (zI m)), some (.int (zI a)), some (.int (zI b)), some (.long (zJ y11.1)), none, some (.int (zI y11.2))], [.int (zI 1), .int (zI ((4 * (a - 1)) + b)), .ref 7178], [r0, r1, r2, r3, r4, r5, r6, zH s7 zL7 0, r8, r9])) rfl ?_
      refine zB.opi oX12_layTables rfl (zi_sub ((4 * (a - 1)) + b) 1) ?_
      refine xB.run oX12_layTables 1 (s := (81, [some (.ref 7168), some (.int (zI m)), some (.int (zI a)), some (.int (zI b)), some (.long (zJ y11.1)), none, some (.int (zI y11.2))], [.long (zJ y11.1), .int (zI (((4 * (a - 1)) + b) - 1)), .ref 7178], [r0, r1, r2, r3, r4, r5, r6, zH s7 zL7 0, r8, r9])) rfl ?_
      obtain ⟨g23, H⟩ := zgd H
      refine zB.last oX12_layTables (g := 7) (p := 10) (N := 16) (i := ((4 * (a - 1)) + b) - 1) (hp1 := [r0, r1, r2, r3, r4, r5, r6, zH (upz s7 10 (((4 * (a - 1)) + b) - 1).toNat y11.1) zL7 0, r8, r9]) rfl rfl (by decide) (by decide) rfl rfl (by decide) g23 rfl ?_
      refine xB.run oX12_layTables 5 (s := (89, [some (.ref 7168), some (.int (zI m)), some (.int (zI a)), some (.int (zI b)), some (.long (zJ y11.1)), none, some (.int (zI y11.2))], [.int (zI 1), .int (zI a), .int (zI 4), .ref 7179], [r0, r1, r2, r3, r4, r5, r6, zH (upz s7 10 (((4 * (a - 1)) + b) - 1).toNat y11.1) zL7 0, r8, r9])) rfl ?_
      refine zB.opi oX12_layTables rfl (zi_sub a 1) ?_
      refine zB.opi oX12_layTables rfl (zi_mul 4 (a - 1)) ?_
      refine xB.run oX12_layTables 1 (s := (92, [some (.ref 7168), some (.int (zI m)), some (.int (zI a)), some (.int (zI b)), some (.long (zJ y11.1)), none, some (.int (zI y11.2))], [.int (zI b), .int (zI (4 * (a - 1))), .ref 7179], [r0, r1, r2, r3, r4, r5, r6, zH (upz s7 10 (((4 * (a - 1)) + b) - 1).toNat y11.1) zL7 0, r8, r9])) rfl ?_
      refine zB.opi oX12_layTables rfl (zi_add (4 * (a - 1)) b) ?_
      refine xB.run oX12_layTables 1 (s := (94, [some (.ref 7168), some (.int (zI m)), some (.int (zI a)), some (.int (zI b)), some (.long (zJ y11.1)), none, some (.int (zI y11.2))], [.int (zI 1), .int (zI ((4 * (a - 1)) + b)), .ref 7179], [r0, r1, r2, r3, r4, r5, r6, zH (upz s7 10 (((4 * (a - 1)) + b) - 1).toNat y11.1) zL7 0, r8, r9])) rfl ?_
      refine zB.opi oX12_layTables rfl (zi_sub ((4 * (a - 1)) + b) 1) ?_
      refine xB.run oX12_layTables 2 (s := (97, [some (.ref 7168), some (.int (zI m)), some (.int (zI a)), some (.int (zI b)), some (.long (zJ y11.1)), none, some (.int (zI y11.2))], [.int (zI b), .int (zI a), .int (zI (((4 * (a - 1)) + b) - 1)), .ref 7179], [r0, r1, r2, r3, r4, r5, r6, zH (upz s7 10 (((4 * (a - 1)) + b) - 1).toNat y11.1) zL7 0, r8, r9])) rfl ?_
      obtain ⟨g22, H⟩ := zgd H
      have H := zif H
      refine xB.brE oX12_layTables (P := a ≠ b) rfl (zc_ne (a := a) (b := b) g22) (fun h13 => ?_) (fun h13 => ?_)
      · have H := H.1 h13
        refine xB.run oX12_layTables 3 (s := (109, [some (.ref 7168), some (.int (zI m)), some (.int (zI a)), some (.int (zI b)), some (.long (zJ y11.1)), none, some (.int (zI y11.2))], [.int (zI 1), .int (zI b), .int (zI a), .int (zI (((4 * (a - 1)) + b) - 1)), .ref 7179], [r0, r1, r2, r3, r4, r5, r6, zH (upz s7 10 (((4 * (a - 1)) + b) - 1).toNat y11.1) zL7 0, r8, r9])) rfl ?_
        refine zB.opi oX12_layTables rfl (zi_sub b 1) ?_
        obtain ⟨g20, H⟩ := zgd H
        have H := zif H
        refine xB.brE oX12_layTables (P := a = (b - 1)) rfl (zc_eq (a := a) (b := b - 1) g20) (fun h14 => ?_) (fun h14 => ?_)
        · have H := H.1 h14
          refine xB.run oX12_layTables 2 (s := (127, [some (.ref 7168), some (.int (zI m)), some (.int (zI a)), some (.int (zI b)), some (.long (zJ y11.1)), none, some (.int (zI y11.2))], [.long (zJ (-1)), .int (zI (((4 * (a - 1)) + b) - 1)), .ref 7179], [r0, r1, r2, r3, r4, r5, r6, zH (upz s7 10 (((4 * (a - 1)) + b) - 1).toNat y11.1) zL7 0, r8, r9])) rfl ?_
          obtain ⟨g15, H⟩ := zgd H
          refine zB.last oX12_layTables (g := 7) (p := 11) (N := 16) (i := ((4 * (a - 1)) + b) - 1) (hp1 := [r0, r1, r2, r3, r4, r5, r6, zH (upz (upz s7 10 (((4 * (a - 1)) + b) - 1).toNat y11.1) 11 (((4 * (a - 1)) + b) - 1).toNat (-1)) zL7 0, r8, r9]) rfl rfl (by decide) (by decide) rfl rfl (by decide) g15 rfl ?_
          refine zB.inc oX12_layTables rfl (lv2 := [some (.ref 7168), some (.int (zI m)), some (.int (zI a)), some (.int (zI (b + 1))), some (.long (zJ y11.1)), none, some (.int (zI y11.2))]) (zi_inc (a := 0) (zi_addp1 b) _ rfl) ?_
          refine xB.run oX12_layTables 1 (s := (16, [some (.ref 7168), some (.int (zI m)), some (.int (zI a)), some (.int (zI (b + 1))), some (.long (zJ y11.1)), none, some (.int (zI y11.2))], [], [r0, r1, r2, r3, r4, r5, r6, zH (upz (upz s7 10 (((4 * (a - 1)) + b) - 1).toNat y11.1) 11 (((4 * (a - 1)) + b) - 1).toNat (-1)) zL7 0, r8, r9])) rfl ?_
          refine xB.forget (lv1 := [some (.ref 7168), some (.int (zI m)), some (.int (zI a)), some (.int (zI (b + 1))), none, none, none]) (xle_same (xle_same (xle_same (xle_same (xle_none (xle_same (xle_none (xle_nil)))))))) ?_
          exact ih (b + 1) (upz (upz s7 10 (((4 * (a - 1)) + b) - 1).toNat y11.1) 11 (((4 * (a - 1)) + b) - 1).toNat (-1)) H K
        · have H := H.2 h14
          refine xB.run oX12_layTables 3 (s := (116, [some (.ref 7168), some (.int (zI m)), some (.int (zI a)), some (.int (zI b)), some (.long (zJ y11.1)), none, some (.int (zI y11.2))], [.int (zI 1), .int (zI b), .int (zI a), .int (zI (((4 * (a - 1)) + b) - 1)), .ref 7179], [r0, r1, r2, r3, r4, r5, r6, zH (upz s7 10 (((4 * (a - 1)) + b) - 1).toNat y11.1) zL7 0, r8, r9])) rfl ?_
          refine zB.opi oX12_layTables rfl (zi_add b 1) ?_
          obtain ⟨g19, H⟩ := zgd H
          have H := zif H
          refine xB.brE oX12_layTables (P := a ≠ (b + 1)) rfl (zc_ne (a := a) (b := b + 1) g19) (fun h16 => ?_) (fun h16 => ?_)
          · have H := H.1 h16
            refine xB.run oX12_layTables 1 (s := (127, [some (.ref 7168), some (.int (zI m)), some (.int (zI a)), some (.int (zI b)), some (.long (zJ y11.1)), none, some (.int (zI y11.2))], [.long (zJ 0), .int (zI (((4 * (a - 1)) + b) - 1)), .ref 7179], [r0, r1, r2, r3, r4, r5, r6, zH (upz s7 10 (((4 * (a - 1)) + b) - 1).toNat y11.1) zL7 0, r8, r9])) rfl ?_
            obtain ⟨g17, H⟩ := zgd H
            refine zB.last oX12_layTables (g := 7) (p := 11) (N := 16) (i := ((4 * (a - 1)) + b) - 1) (hp1 := [r0, r1, r2, r3, r4, r5, r6, zH (upz (upz s7 10 (((4 * (a - 1)) + b) - 1).toNat y11.1) 11 (((4 * (a - 1)) + b) - 1).toNat 0) zL7 0, r8, r9]) rfl rfl (by decide) (by decide) rfl rfl (by decide) g17 rfl ?_
            refine zB.inc oX12_layTables rfl (lv2 := [some (.ref 7168), some (.int (zI m)), some (.int (zI a)), some (.int (zI (b + 1))), some (.long (zJ y11.1)), none, some (.int (zI y11.2))]) (zi_inc (a := 0) (zi_addp1 b) _ rfl) ?_
            refine xB.run oX12_layTables 1 (s := (16, [some (.ref 7168), some (.int (zI m)), some (.int (zI a)), some (.int (zI (b + 1))), some (.long (zJ y11.1)), none, some (.int (zI y11.2))], [], [r0, r1, r2, r3, r4, r5, r6, zH (upz (upz s7 10 (((4 * (a - 1)) + b) - 1).toNat y11.1) 11 (((4 * (a - 1)) + b) - 1).toNat 0) zL7 0, r8, r9])) rfl ?_
            refine xB.forget (lv1 := [some (.ref 7168), some (.int (zI m)), some (.int (zI a)), some (.int (zI (b + 1))), none, none, none]) (xle_same (xle_same (xle_same (xle_same (xle_none (xle_same (xle_none (xle_nil)))))))) ?_
            exact ih (b + 1) (upz (upz s7 10 (((4 * (a - 1)) + b) - 1).toNat y11.1) 11 (((4 * (a - 1)) + b) - 1).toNat 0) H K
          · have H := H.2 h16
            refine xB.run oX12_layTables 2 (s := (127, [some (.ref 7168), some (.int (zI m)), some (.int (zI a)), some (.int (zI b)), some (.long (zJ y11.1)), none, some (.int (zI y11.2))], [.long (zJ (-1)), .int (zI (((4 * (a - 1)) + b) - 1)), .ref 7179], [r0, r1, r2, r3, r4, r5, r6, zH (upz s7 10 (((4 * (a - 1)) + b) - 1).toNat y11.1) zL7 0, r8, r9])) rfl ?_
            obtain ⟨g18, H⟩ := zgd H
            refine zB.last oX12_layTables (g := 7) (p := 11) (N := 16) (i := ((4 * (a - 1)) + b) - 1) (hp1 := [r0, r1, r2, r3, r4, r5, r6, zH (upz (upz s7 10 (((4 * (a - 1)) + b) - 1).toNat y11.1) 11 (((4 * (a - 1)) + b) - 1).toNat (-1)) zL7 0, r8, r9]) rfl rfl (by decide) (by decide) rfl rfl (by decide) g18 rfl ?_
            refine zB.inc oX12_layTables rfl (lv2 := [some (.ref 7168), some (.int (zI m)), some (.int (zI a)), some (.int (zI (b + 1))), some (.long (zJ y11.1)), none, some (.int (zI y11.2))]) (zi_inc (a := 0) (zi_addp1 b) _ rfl) ?_
            refine xB.run oX12_layTables 1 (s := (16, [some (.ref 7168), some (.int (zI m)), some (.int (zI a)), some (.int (zI (b + 1))), some (.long (zJ y11.1)), none, some (.int (zI y11.2))], [], [r0, r1, r2, r3, r4, r5, r6, zH (upz (upz s7 10 (((4 * (a - 1)) + b) - 1).toNat y11.1) 11 (((4 * (a - 1)) + b) - 1).toNat (-1)) zL7 0, r8, r9])) rfl ?_
            refine xB.forget (lv1 := [some (.ref 7168), some (.int (zI m)), some (.int (zI a)), some (.int (zI (b + 1))), none, none, none]) (xle_same (xle_same (xle_same (xle_same (xle_none (xle_same (xle_none (xle_nil)))))))) ?_
            exact ih (b + 1) (upz (upz s7 10 (((4 * (a - 1)) + b) - 1).toNat y11.1) 11 (((4 * (a - 1)) + b) - 1).toNat (-1)) H K
      · have H := H.2 h13
        refine xB.run oX12_layTables 2 (s := (127, [some (.ref 7168), some (.int (zI m)), some (.int (zI a)), some (.int (zI b)), some (.long (zJ y11.1)), none, some (.int (zI y11.2))], [.long (zJ 2), .int (zI (((4 * (a - 1)) + b) - 1)), .ref 7179], [r0, r1, r2, r3, r4, r5, r6, zH (upz s7 10 (((4 * (a - 1)) + b) - 1).toNat y11.1) zL7 0, r8, r9])) rfl ?_
        obtain ⟨g21, H⟩ := zgd H
        refine zB.last oX12_layTables (g := 7) (p := 11) (N := 16) (i := ((4 * (a - 1)) + b) - 1) (hp1 := [r0, r1, r2, r3, r4, r5, r6, zH (upz (upz s7 10 (((4 * (a - 1)) + b) - 1).toNat y11.1) 11 (((4 * (a - 1)) + b) - 1).toNat 2) zL7 0, r8, r9]) rfl rfl (by decide) (by decide) rfl rfl (by decide) g21 rfl ?_
        refine zB.inc oX12_layTables rfl (lv2 := [some (.ref 7168), some (.int (zI m)), some (.int (zI a)), some (.int (zI (b + 1))), some (.long (zJ y11.1)), none, some (.int (zI y11.2))]) (zi_inc (a := 0) (zi_addp1 b) _ rfl) ?_
        refine xB.run oX12_layTables 1 (s := (16, [some (.ref 7168), some (.int (zI m)), some (.int (zI a)), some (.int (zI (b + 1))), some (.long (zJ y11.1)), none, some (.int (zI y11.2))], [], [r0, r1, r2, r3, r4, r5, r6, zH (upz (upz s7 10 (((4 * (a - 1)) + b) - 1).toNat y11.1) 11 (((4 * (a - 1)) + b) - 1).toNat 2) zL7 0, r8, r9])) rfl ?_
        refine xB.forget (lv1 := [some (.ref 7168), some (.int (zI m)), some (.int (zI a)), some (.int (zI (b + 1))), none, none, none]) (xle_same (xle_same (xle_same (xle_same (xle_none (xle_same (xle_none (xle_nil)))))))) ?_
        exact ih (b + 1) (upz (upz s7 10 (((4 * (a - 1)) + b) - 1).toNat y11.1) 11 (((4 * (a - 1)) + b) - 1).toNat 2) H K
set_option maxRecDepth 20000 in
theorem l_X12_layTables_9 (r0 : List va_E) (r1 : List va_E) (r2 : List va_E) (r3 : List va_E) (r4 : List va_E) (r5 : List va_E) (r6 : List va_E) (r8 : List va_E) (r9 : List va_E) (m : Int) {r : Option Value} {hp1 : xH} : ∀ (uN : Nat) (a : Int) (s7 : zZ) {uX : Int × zZ}, d_X12_layTables_9 m uN a s7 = some uX → (xBody MX12_layTables 1 140 [some (.ref 7168), some (.int (zI m)), some (.int (zI uX.1)), none, none, none, none] [] ([r0, r1, r2, r3, r4, r5, r6, zH uX.2 zL7 0, r8, r9]) r hp1) → xBody MX12_layTables 1 9 [some (.ref 7168), some (.int (zI m)), some (.int (zI a)), none, none, none, none] [] ([r0, r1, r2, r3, r4, r5, r6, zH s7 zL7 0, r8, r9]) r hp1 := by
  intro uN
  induction uN with
  | zero => intro a s7 uX H K; cases H
  | succ uN ih =>
    intro a s7 uX H K
    unfold d_X12_layTables_9 at H
    refine xB.run oX12_layTables 2 (s := (11, [some (.ref 7168), some (.int (zI m)), some (.int (zI a)), none, none, none, none], [.int (zI m), .int (zI a)], [r0, r1, r2, r3, r4, r5, r6, zH s7 zL7 0, r8, r9])) rfl ?_
    obtain ⟨g27, H⟩ := zgd H
    have H := zif H
    refine xB.brE oX12_layTables (P := m < a) rfl (zc_gt (a := a) (b := m) g27) (fun h1 => ?_) (fun h1 => ?_)
    · have H := H.1 h1
      obtain rfl := Option.some.inj H
      exact K
    · have H := H.2 h1
      refine xB.run oX12_layTables 2 (s := (16, [some (.ref 7168), some (.int (zI m)), some (.int (zI a)), some (.int (zI 1)), none, none, none], [], [r0, r1, r2, r3, r4, r5, r6, zH s7 zL7 0, r8, r9])) rfl ?_
      obtain ⟨y25, e26, H⟩ := zbd H
      refine l_X12_layTables_16 r0 r1 r2 r3 r4 r5 r6 r8 r9 m a _ 1 s7 e26 ?_
      refine zB.inc oX12_layTables rfl (lv2 := [some (.ref 7168), some (.int (zI m)), some (.int (zI (a + 1))), some (.int (zI y25.1)), none, none, none]) (zi_inc (a := 0) (zi_addp1 a) _ rfl) ?_
      refine xB.run oX12_layTables 1 (s := (9, [some (.ref 7168), some (.int (zI m)), some (.int (zI (a + 1))), some (.int (zI y25.1)), none, none, none], [], [r0, r1, r2, r3, r4, r5, r6, zH y25.2 zL7 0, r8, r9])) rfl ?_
      refine xB.forget (lv1 := [some (.ref 7168), some (.int (zI m)), some (.int (zI (a + 1))), none, none, none, none]) (xle_same (xle_same (xle_same (xle_none (xle_same (xle_same (xle_same (xle_nil)))))))) ?_
      exact ih (a + 1) y25.2 H K
set_option maxRecDepth 20000 in
theorem t_X12_layTables (r0 : List va_E) (r1 : List va_E) (r2 : List va_E) (r3 : List va_E) (r4 : List va_E) (r5 : List va_E) (r6 : List va_E) (s7 : zZ) (r8 : List va_E) (r9 : List va_E) {rr : zZ} (H : d_X12_layTables s7 = some rr) : xC MX12_layTables 1 [.ref 7168] ([r0, r1, r2, r3, r4, r5, r6, zH s7 zL7 0, r8, r9]) (none) ([r0, r1, r2, r3, r4, r5, r6, zH rr zL7 0, r8, r9]) := by
  refine ⟨Nat.le_of_ble_eq_true rfl, ?_⟩
  show xBody MX12_layTables 1 0 [some (.ref 7168), none, none, none, none, none, none] [] ([r0, r1, r2, r3, r4, r5, r6, zH s7 zL7 0, r8, r9]) _ _
  unfold d_X12_layTables at H
  refine xB.run oX12_layTables 3 (s := (5, [some (.ref 7168), none, none, none, none, none, none], [.int (zI 1), .int (zI (s7 0 14))], [r0, r1, r2, r3, r4, r5, r6, zH s7 zL7 0, r8, r9])) rfl ?_
  refine zB.opi oX12_layTables rfl (zi_sub (s7 0 14) 1) ?_
  refine xB.run oX12_layTables 3 (s := (9, [some (.ref 7168), some (.int (zI ((s7 0 14) - 1))), some (.int (zI 1)), none, none, none, none], [], [r0, r1, r2, r3, r4, r5, r6, zH s7 zL7 0, r8, r9])) rfl ?_
  obtain ⟨y28, e29, H⟩ := zbd H
  refine l_X12_layTables_9 r0 r1 r2 r3 r4 r5 r6 r8 r9 ((s7 0 14) - 1) _ 1 s7 e29 ?_
  obtain rfl := Option.some.inj H
  exact xB.ret oX12_layTables (r1 := none) rfl rfl rfl
def d_X12_findPoly_13 (m : Int) : Nat → Int → zZ → Option (Int × zZ)
  | 0, _, _ => none
  | uN + 1, set, s7 => if (zr set) then (if (80 : Int) ≤ set then some (set, s7) else (if (zr set) then (if set ≠ 0 then (if (0 ≤ set ∧ set < 80) then (d_X12_findPoly_13 m uN (set + 1) (upz s7 12 set.toNat 0)) else none) else (if (0 ≤ set ∧ set < 80) then (d_X12_findPoly_13 m uN (set + 1) (upz s7 12 set.toNat 1)) else none)) else none)) else none
def d_X12_findPoly_112 (m : Int) (set : Int) (row : Int) (c : Int) (rest : Int) (sg : Int) : Nat → Int → zZ → Option (Int × zZ)
  | 0, _, _ => none
  | uN + 1, k, s7 => if (zr k) then (if (5 : Int) ≤ k then some (k, s7) else (if (0 ≤ ((5 * rest) + k) ∧ ((5 * rest) + k) < 80) then (if (0 ≤ ((5 * set) + k) ∧ ((5 * set) + k) < 80) then (if (0 ≤ ((4 * row) + c) ∧ ((4 * row) + c) < 16) then (if (0 ≤ ((5 * set) + k) ∧ ((5 * set) + k) < 80) then (if (zr k) then (if (4 : Int) ≤ k then (d_X12_findPoly_112 m set row c rest sg uN (k + 1) (upz s7 12 ((5 * set) + k).toNat ((s7 12 ((5 * set) + k).toNat) + ((sg * (s7 12 ((5 * rest) + k).toNat)) * (s7 10 ((4 * row) + c).toNat))))) else (if (0 ≤ (((5 * set) + k) + 1) ∧ (((5 * set) + k) + 1) < 80) then (if (0 ≤ ((4 * row) + c) ∧ ((4 * row) + c) < 16) then (if (0 ≤ (((5 * set) + k) + 1) ∧ (((5 * set) + k) + 1) < 80) then (d_X12_findPoly_112 m set row c rest sg uN (k + 1) (upz (upz s7 12 ((5 * set) + k).toNat ((s7 12 ((5 * set) + k).toNat) + ((sg * (s7 12 ((5 * rest) + k).toNat)) * (s7 10 ((4 * row) + c).toNat)))) 12 (((5 * set) + k) + 1).toNat (((upz s7 12 ((5 * set) + k).toNat ((s7 12 ((5 * set) + k).toNat) + ((sg * (s7 12 ((5 * rest) + k).toNat)) * (s7 10 ((4 * row) + c).toNat)))) 12 (((5 * set) + k) + 1).toNat) - ((sg * (s7 12 ((5 * rest) + k).toNat)) * ((upz s7 12 ((5 * set) + k).toNat ((s7 12 ((5 * set) + k).toNat) + ((sg * (s7 12 ((5 * rest) + k).toNat)) * (s7 10 ((4 * row) + c).toNat)))) 11 ((4 * row) + c).toNat))))) else none) else none) else none)) else none) else none) else none) else none) else none)) else none
def d_X12_findPoly_59 (m : Int) (set : Int) (row : Int) : Nat → Int → zZ → Option (Int × zZ)
  | 0, _, _ => none
  | uN + 1, c, s7 => if (zr c ∧ zr m) then (if m ≤ c then some (c, s7) else (if (zr set ∧ (0 ≤ c ∧ c < 32)) then (if (zr ((set / (2 : Int) ^ c.toNat) % 2)) then (if ((set / (2 : Int) ^ c.toNat) % 2) ≠ 0 then (if (0 ≤ c ∧ c < 32) then (if ((0 ≤ set ∧ zr set) ∧ (0 ≤ ((2 : Int) ^ c.toNat) ∧ zr ((2 : Int) ^ c.toNat))) then (if (zr (set - ((set.toNat &&& ((2 : Int) ^ c.toNat).toNat : Nat) : Int)) ∧ (0 ≤ c ∧ c < 32)) then ((d_X12_bitsOf ((set - ((set.toNat &&& ((2 : Int) ^ c.toNat).toNat : Nat) : Int)) / (2 : Int) ^ c.toNat)).bind fun y16 => if (0 ≤ y16 ∧ zr y16) then (if (zr (y16 % 2)) then (if (y16 % 2) ≠ 0 then ((d_X12_findPoly_112 m set row c (set - ((set.toNat &&& ((2 : Int) ^ c.toNat).toNat : Nat) : Int)) (-1) zF 0 s7).bind fun y30 => d_X12_findPoly_59 m set row uN (c + 1) y30.2) else ((d_X12_findPoly_112 m set row c (set - ((set.toNat &&& ((2 : Int) ^ c.toNat).toNat : Nat) : Int)) 1 zF 0 s7).bind fun y32 => d_X12_findPoly_59 m set row uN (c + 1) y32.2)) else none) else none) else none) else none) else none) else (d_X12_findPoly_59 m set row uN (c + 1) s7)) else none) else none)) else none
def d_X12_findPoly_42 (m : Int) : Nat → Int → zZ → Option (Int × zZ)
  | 0, _, _ => none
  | uN + 1, set, s7 => if (0 ≤ m ∧ m < 32) then (if (zr set ∧ zr ((2 : Int) ^ m.toNat)) then (if ((2 : Int) ^ m.toNat) ≤ set then some (set, s7) else ((d_X12_bitsOf set).bind fun y12 => (d_X12_findPoly_59 m set (y12 - 1) zF 0 s7).bind fun y42 => d_X12_findPoly_42 m uN (set + 1) y42.2)) else none) else none
def d_X12_findPoly (s7 : zZ) : Option (zZ) := (d_X12_layTables s7).bind fun y1 => (d_X12_findPoly_13 ((y1 0 14) - 1) zF 0 y1).bind fun y9 => (d_X12_findPoly_42 ((y1 0 14) - 1) zF 1 y9.2).bind fun y46 => some y46.2
set_option maxRecDepth 20000 in
theorem l_X12_findPoly_13 (r0 : List va_E) (r1 : List va_E) (r2 : List va_E) (r3 : List va_E) (r4 : List va_E) (r5 : List va_E) (r6 : List va_E) (r8 : List va_E) (r9 : List va_E) (m : Int) {r : Option Value} {hp1 : xH} : ∀ (uN : Nat) (set : Int) (s7 : zZ) {uX : Int × zZ}, d_X12_findPoly_13 m uN set s7 = some uX → (xBody MX12_findPoly 2 40 [some (.ref 7168), some (.int (zI m)), some (.int (zI uX.1)), none, none, none, none, none, none, none, none] [] ([r0, r1, r2, r3, r4, r5, r6, zH uX.2 zL7 0, r8, r9]) r hp1) → xBody MX12_findPoly 2 13 [some (.ref 7168), some (.int (zI m)), some (.int (zI set)), none, none, none, none, none, none, none, none] [] ([r0, r1, r2, r3, r4, r5, r6, zH s7 zL7 0, r8, r9]) r hp1 := by
  intro uN
  induction uN with
  | zero => intro set s7 uX H K; cases H
  | succ uN ih =>
    intro set s7 uX H K
    unfold d_X12_findPoly_13 at H
    refine xB.run oX12_findPoly 2 (s := (16, [some (.ref 7168), some (.int (zI m)), some (.int (zI set)), none, none, none, none, none, none, none, none], [.int (zI 80), .int (zI set)], [r0, r1, r2, r3, r4, r5, r6, zH s7 zL7 0, r8, r9])) rfl ?_
    obtain ⟨g8, H⟩ := zgd H
    have H := zif H
    refine xB.brE oX12_findPoly (P := (80 : Int) ≤ set) rfl (zc_ge (a := set) (b := 80) ⟨g8, by decide⟩) (fun h3 => ?_) (fun h3 => ?_)
    · have H := H.1 h3
      obtain rfl := Option.some.inj H
      exact K
    · have H := H.2 h3
      refine xB.run oX12_findPoly 4 (s := (25, [some (.ref 7168), some (.int (zI m)), some (.int (zI set)), none, none, none, none, none, none, none, none], [.int (zI set), .int (zI set), .ref 7180], [r0, r1, r2, r3, r4, r5, r6, zH s7 zL7 0, r8, r9])) rfl ?_
      obtain ⟨g7, H⟩ := zgd H
      have H := zif H
      refine xB.brE oX12_findPoly (P := set ≠ 0) rfl (zc_ne (a := set) (b := 0) ⟨g7, by decide⟩) (fun h4 => ?_) (fun h4 => ?_)
      · have H := H.1 h4
        refine xB.run oX12_findPoly 1 (s := (33, [some (.ref 7168), some (.int (zI m)), some (.int (zI set)), none, none, none, none, none, none, none, none], [.long (zJ 0), .int (zI set), .ref 7180], [r0, r1, r2, r3, r4, r5, r6, zH s7 zL7 0, r8, r9])) rfl ?_
        obtain ⟨g5, H⟩ := zgd H
        refine zB.last oX12_findPoly (g := 7) (p := 12) (N := 80) (i := set) (hp1 := [r0, r1, r2, r3, r4, r5, r6, zH (upz s7 12 set.toNat 0) zL7 0, r8, r9]) rfl rfl (by decide) (by decide) rfl rfl (by decide) g5 rfl ?_
        refine zB.inc oX12_findPoly rfl (lv2 := [some (.ref 7168), some (.int (zI m)), some (.int (zI (set + 1))), none, none, none, none, none, none, none, none]) (zi_inc (a := 0) (zi_addp1 set) _ rfl) ?_
        refine xB.run oX12_findPoly 1 (s := (13, [some (.ref 7168), some (.int (zI m)), some (.int (zI (set + 1))), none, none, none, none, none, none, none, none], [], [r0, r1, r2, r3, r4, r5, r6, zH (upz s7 12 set.toNat 0) zL7 0, r8, r9])) rfl ?_
        exact ih (set + 1) (upz s7 12 set.toNat 0) H K
      · have H := H.2 h4
        refine xB.run oX12_findPoly 2 (s := (33, [some (.ref 7168), some (.int (zI m)), some (.int (zI set)), none, none, none, none, none, none, none, none], [.long (zJ 1), .int (zI set), .ref 7180], [r0, r1, r2, r3, r4, r5, r6, zH s7 zL7 0, r8, r9])) rfl ?_
        obtain ⟨g6, H⟩ := zgd H
        refine zB.last oX12_findPoly (g := 7) (p := 12) (N := 80) (i := set) (hp1 := [r0, r1, r2, r3, r4, r5, r6, zH (upz s7 12 set.toNat 1) zL7 0, r8, r9]) rfl rfl (by decide) (by decide) rfl rfl (by decide) g6 rfl ?_
        refine zB.inc oX12_findPoly rfl (lv2 := [some (.ref 7168), some (.int (zI m)), some (.int (zI (set + 1))), none, none, none, none, none, none, none, none]) (zi_inc (a := 0) (zi_addp1 set) _ rfl) ?_
        refine xB.run oX12_findPoly 1 (s := (13, [some (.ref 7168), some (.int (zI m)), some (.int (zI (set + 1))), none, none, none, none, none, none, none, none], [], [r0, r1, r2, r3, r4, r5, r6, zH (upz s7 12 set.toNat 1) zL7 0, r8, r9])) rfl ?_
        exact ih (set + 1) (upz s7 12 set.toNat 1) H K
set_option maxRecDepth 20000 in
theorem l_X12_findPoly_112 (r0 : List va_E) (r1 : List va_E) (r2 : List va_E) (r3 : List va_E) (r4 : List va_E) (r5 : List va_E) (r6 : List va_E) (r8 : List va_E) (r9 : List va_E) (m : Int) (set : Int) (row : Int) (c : Int) (rest : Int) (sg : Int) {r : Option Value} {hp1 : xH} : ∀ (uN : Nat) (k : Int) (s7 : zZ) {uX : Int × zZ}, d_X12_findPoly_112 m set row c rest sg uN k s7 = some uX → (xBody MX12_findPoly 2 205 [some (.ref 7168), some (.int (zI m)), some (.int (zI set)), some (.int (zI row)), some (.int (zI c)), some (.int (zI rest)), some (.long (zJ sg)), none, some (.int (zI uX.1)), none, none] [] ([r0, r1, r2, r3, r4, r5, r6, zH uX.2 zL7 0, r8, r9]) r hp1) → xBody MX12_findPoly 2 112 [some (.ref 7168), some (.int (zI m)), some (.int (zI set)), some (.int (zI row)), some (.int (zI c)), some (.int (zI rest)), some (.long (zJ sg)), none, some (.int (zI k)), none, none] [] ([r0, r1, r2, r3, r4, r5, r6, zH s7 zL7 0, r8, r9]) r hp1 := by
  intro uN
  induction uN with
  | zero => intro k s7 uX H K; cases H
  | succ uN ih =>
    intro k s7 uX H K
    unfold d_X12_findPoly_112 at H
    refine xB.run oX12_findPoly 2 (s := (115, [some (.ref 7168), some (.int (zI m)), some (.int (zI set)), some (.int (zI row)), some (.int (zI c)), some (.int (zI rest)), some (.long (zJ sg)), none, some (.int (zI k)), none, none], [.int (zI 5), .int (zI k)], [r0, r1, r2, r3, r4, r5, r6, zH s7 zL7 0, r8, r9])) rfl ?_
    obtain ⟨g29, H⟩ := zgd H
    have H := zif H
    refine xB.brE oX12_findPoly (P := (5 : Int) ≤ k) rfl (zc_ge (a := k) (b := 5) ⟨g29, by decide⟩) (fun h19 => ?_) (fun h19 => ?_)
    · have H := H.1 h19
      obtain rfl := Option.some.inj H
      exact K
    · have H := H.2 h19
      refine xB.run oX12_findPoly 5 (s := (127, [some (.ref 7168), some (.int (zI m)), some (.int (zI set)), some (.int (zI row)), some (.int (zI c)), some (.int (zI rest)), some (.long (zJ sg)), none, some (.int (zI k)), none, none], [.int (zI rest), .int (zI 5), .ref 7180, .long (zJ sg)], [r0, r1, r2, r3, r4, r5, r6, zH s7 zL7 0, r8, r9])) rfl ?_
      refine zB.opi oX12_findPoly rfl (zi_mul 5 rest) ?_
      refine xB.run oX12_findPoly 1 (s := (130, [some (.ref 7168), some (.int (zI m)), some (.int (zI set)), some (.int (zI row)), some (.int (zI c)), some (.int (zI rest)), some (.long (zJ sg)), none, some (.int (zI k)), none, none], [.int (zI k), .int (zI (5 * rest)), .ref 7180, .long (zJ sg)], [r0, r1, r2, r3, r4, r5, r6, zH s7 zL7 0, r8, r9])) rfl ?_
      refine zB.opi oX12_findPoly rfl (zi_add (5 * rest) k) ?_
      obtain ⟨g28, H⟩ := zgd H
      refine zB.lald oX12_findPoly (g := 7) (p := 12) (N := 80) (i := (5 * rest) + k) rfl rfl (by decide) rfl rfl (by decide) g28 ?_
      refine zB.opl oX12_findPoly rfl (zj_mul sg (s7 12 ((5 * rest) + k).toNat)) ?_
      refine xB.run oX12_findPoly 5 (s := (141, [some (.ref 7168), some (.int (zI m)), some (.int (zI set)), some (.int (zI row)), some (.int (zI c)), some (.int (zI rest)), some (.long (zJ sg)), none, some (.int (zI k)), some (.long (zJ (sg * (s7 12 ((5 * rest) + k).toNat)))), none], [.int (zI set), .int (zI 5), .ref 7180], [r0, r1, r2, r3, r4, r5, r6, zH s7 zL7 0, r8, r9])) rfl ?_
      refine zB.opi oX12_findPoly rfl (zi_mul 5 set) ?_
      refine xB.run oX12_findPoly 1 (s := (144, [some (.ref 7168), some (.int (zI m)), some (.int (zI set)), some (.int (zI row)), some (.int (zI c)), some (.int (zI rest)), some (.long (zJ sg)), none, some (.int (zI k)), some (.long (zJ (sg * (s7 12 ((5 * rest) + k).toNat)))), none], [.int (zI k), .int (zI (5 * set)), .ref 7180], [r0, r1, r2, r3, r4, r5, r6, zH s7 zL7 0, r8, r9])) rfl ?_
      refine zB.opi oX12_findPoly rfl (zi_add (5 * set) k) ?_
      refine xB.run oX12_findPoly 1 (s := (146, [some (.ref 7168), some (.int (zI m)), some (.int (zI set)), some (.int (zI row)), some (.int (zI c)), some (.int (zI rest)), some (.long (zJ sg)), none, some (.int (zI k)), some (.long (zJ (sg * (s7 12 ((5 * rest) + k).toNat)))), none], [.int (zI ((5 * set) + k)), .ref 7180, .int (zI ((5 * set) + k)), .ref 7180], [r0, r1, r2, r3, r4, r5, r6, zH s7 zL7 0, r8, r9])) rfl ?_
      obtain ⟨g27, H⟩ := zgd H
      refine zB.lald oX12_findPoly (g := 7) (p := 12) (N := 80) (i := (5 * set) + k) rfl rfl (by decide) rfl rfl (by decide) g27 ?_
      refine xB.run oX12_findPoly 5 (s := (155, [some (.ref 7168), some (.int (zI m)), some (.int (zI set)), some (.int (zI row)), some (.int (zI c)), some (.int (zI rest)), some (.long (zJ sg)), none, some (.int (zI k)), some (.long (zJ (sg * (s7 12 ((5 * rest) + k).toNat)))), none], [.int (zI row), .int (zI 4), .ref 7178, .long (zJ (sg * (s7 12 ((5 * rest) + k).toNat))), .long (zJ (s7 12 ((5 * set) + k).toNat)), .int (zI ((5 * set) + k)), .ref 7180], [r0, r1, r2, r3, r4, r5, r6, zH s7 zL7 0, r8, r9])) rfl ?_
      refine zB.opi oX12_findPoly rfl (zi_mul 4 row) ?_
      refine xB.run oX12_findPoly 1 (s := (158, [some (.ref 7168), some (.int (zI m)), some (.int (zI set)), some (.int (zI row)), some (.int (zI c)), some (.int (zI rest)), some (.long (zJ sg)), none, some (.int (zI k)), some (.long (zJ (sg * (s7 12 ((5 * rest) + k).toNat)))), none], [.int (zI c), .int (zI (4 * row)), .ref 7178, .long (zJ (sg * (s7 12 ((5 * rest) + k).toNat))), .long (zJ (s7 12 ((5 * set) + k).toNat)), .int (zI ((5 * set) + k)), .ref 7180], [r0, r1, r2, r3, r4, r5, r6, zH s7 zL7 0, r8, r9])) rfl ?_
      refine zB.opi oX12_findPoly rfl (zi_add (4 * row) c) ?_
      obtain ⟨g26, H⟩ := zgd H
      refine zB.lald oX12_findPoly (g := 7) (p := 10) (N := 16) (i := (4 * row) + c) rfl rfl (by decide) rfl rfl (by decide) g26 ?_
      refine zB.opl oX12_findPoly rfl (zj_mul (sg * (s7 12 ((5 * rest) + k).toNat)) (s7 10 ((4 * row) + c).toNat)) ?_
      refine zB.opl oX12_findPoly rfl (zj_add (s7 12 ((5 * set) + k).toNat) ((sg * (s7 12 ((5 * rest) + k).toNat)) * (s7 10 ((4 * row) + c).toNat))) ?_
      obtain ⟨g25, H⟩ := zgd H
      refine zB.last oX12_findPoly (g := 7) (p := 12) (N := 80) (i := (5 * set) + k) (hp1 := [r0, r1, r2, r3, r4, r5, r6, zH (upz s7 12 ((5 * set) + k).toNat ((s7 12 ((5 * set) + k).toNat) + ((sg * (s7 12 ((5 * rest) + k).toNat)) * (s7 10 ((4 * row) + c).toNat)))) zL7 0, r8, r9]) rfl rfl (by decide) (by decide) rfl rfl (by decide) g25 rfl ?_
      refine xB.run oX12_findPoly 2 (s := (166, [some (.ref 7168), some (.int (zI m)), some (.int (zI set)), some (.int (zI row)), some (.int (zI c)), some (.int (zI rest)), some (.long (zJ sg)), none, some (.int (zI k)), some (.long (zJ (sg * (s7 12 ((5 * rest) + k).toNat)))), none], [.int (zI 4), .int (zI k)], [r0, r1, r2, r3, r4, r5, r6, zH (upz s7 12 ((5 * set) + k).toNat ((s7 12 ((5 * set) + k).toNat) + ((sg * (s7 12 ((5 * rest) + k).toNat)) * (s7 10 ((4 * row) + c).toNat)))) zL7 0, r8, r9])) rfl ?_
      obtain ⟨g24, H⟩ := zgd H
      have H := zif H
      refine xB.brE oX12_findPoly (P := (4 : Int) ≤ k) rfl (zc_ge (a := k) (b := 4) ⟨g24, by decide⟩) (fun h20 => ?_) (fun h20 => ?_)
      · have H := H.1 h20
        refine zB.inc oX12_findPoly rfl (lv2 := [some (.ref 7168), some (.int (zI m)), some (.int (zI set)), some (.int (zI row)), some (.int (zI c)), some (.int (zI rest)), some (.long (zJ sg)), none, some (.int (zI (k + 1))), some (.long (zJ (sg * (s7 12 ((5 * rest) + k).toNat)))), none]) (zi_inc (a := 0) (zi_addp1 k) _ rfl) ?_
        refine xB.run oX12_findPoly 1 (s := (112, [some (.ref 7168), some (.int (zI m)), some (.int (zI set)), some (.int (zI row)), some (.int (zI c)), some (.int (zI rest)), some (.long (zJ sg)), none, some (.int (zI (k + 1))), some (.long (zJ (sg * (s7 12 ((5 * rest) + k).toNat)))), none], [], [r0, r1, r2, r3, r4, r5, r6, zH (upz s7 12 ((5 * set) + k).toNat ((s7 12 ((5 * set) + k).toNat) + ((sg * (s7 12 ((5 * rest) + k).toNat)) * (s7 10 ((4 * row) + c).toNat)))) zL7 0, r8, r9])) rfl ?_
        refine xB.forget (lv1 := [some (.ref 7168), some (.int (zI m)), some (.int (zI set)), some (.int (zI row)), some (.int (zI c)), some (.int (zI rest)), some (.long (zJ sg)), none, some (.int (zI (k + 1))), none, none]) (xle_same (xle_same (xle_same (xle_same (xle_same (xle_same (xle_same (xle_same (xle_same (xle_none (xle_same (xle_nil)))))))))))) ?_
        exact ih (k + 1) (upz s7 12 ((5 * set) + k).toNat ((s7 12 ((5 * set) + k).toNat) + ((sg * (s7 12 ((5 * rest) + k).toNat)) * (s7 10 ((4 * row) + c).toNat)))) H K
      · have H := H.2 h20
        refine xB.run oX12_findPoly 4 (s := (175, [some (.ref 7168), some (.int (zI m)), some (.int (zI set)), some (.int (zI row)), some (.int (zI c)), some (.int (zI rest)), some (.long (zJ sg)), none, some (.int (zI k)), some (.long (zJ (sg * (s7 12 ((5 * rest) + k).toNat)))), none], [.int (zI set), .int (zI 5), .ref 7180], [r0, r1, r2, r3, r4, r5, r6, zH (upz s7 12 ((5 * set) + k).toNat ((s7 12 ((5 * set) + k).toNat) + ((sg * (s7 12 ((5 * rest) + k).toNat)) * (s7 10 ((4 * row) + c).toNat)))) zL7 0, r8, r9])) rfl ?_
        refine zB.opi oX12_findPoly rfl (zi_mul 5 set) ?_
        refine xB.run oX12_findPoly 1 (s := (178, [some (.ref 7168), some (.int (zI m)), some (.int (zI set)), some (.int (zI row)), some (.int (zI c)), some (.int (zI rest)), some (.long (zJ sg)), none, some (.int (zI k)), some (.long (zJ (sg * (s7 12 ((5 * rest) + k).toNat)))), none], [.int (zI k), .int (zI (5 * set)), .ref 7180], [r0, r1, r2, r3, r4, r5, r6, zH (upz s7 12 ((5 * set) + k).toNat ((s7 12 ((5 * set) + k).toNat) + ((sg * (s7 12 ((5 * rest) + k).toNat)) * (s7 10 ((4 * row) + c).toNat)))) zL7 0, r8, r9])) rfl ?_
        refine zB.opi oX12_findPoly rfl (zi_add (5 * set) k) ?_
        refine xB.run oX12_findPoly 1 (s := (180, [some (.ref 7168), some (.int (zI m)), some (.int (zI set)), some (.int (zI row)), some (.int (zI c)), some (.int (zI rest)), some (.long (zJ sg)), none, some (.int (zI k)), some (.long (zJ (sg * (s7 12 ((5 * rest) + k).toNat)))), none], [.int (zI 1), .int (zI ((5 * set) + k)), .ref 7180], [r0, r1, r2, r3, r4, r5, r6, zH (upz s7 12 ((5 * set) + k).toNat ((s7 12 ((5 * set) + k).toNat) + ((sg * (s7 12 ((5 * rest) + k).toNat)) * (s7 10 ((4 * row) + c).toNat)))) zL7 0, r8, r9])) rfl ?_
        refine zB.opi oX12_findPoly rfl (zi_add ((5 * set) + k) 1) ?_
        refine xB.run oX12_findPoly 1 (s := (182, [some (.ref 7168), some (.int (zI m)), some (.int (zI set)), some (.int (zI row)), some (.int (zI c)), some (.int (zI rest)), some (.long (zJ sg)), none, some (.int (zI k)), some (.long (zJ (sg * (s7 12 ((5 * rest) + k).toNat)))), none], [.int (zI (((5 * set) + k) + 1)), .ref 7180, .int (zI (((5 * set) + k) + 1)), .ref 7180], [r0, r1, r2, r3, r4, r5, r6, zH (upz s7 12 ((5 * set) + k).toNat ((s7 12 ((5 * set) + k).toNat) + ((sg * (s7 12 ((5 * rest) + k).toNat)) * (s7 10 ((4 * row) + c).toNat)))) zL7 0, r8, r9])) rfl ?_
        obtain ⟨g23, H⟩ := zgd H
        refine zB.lald oX12_findPoly (g := 7) (p := 12) (N := 80) (i := ((5 * set) + k) + 1) rfl rfl (by decide) rfl rfl (by decide) g23 ?_
        refine xB.run oX12_findPoly 5 (s := (191, [some (.ref 7168), some (.int (zI m)), some (.int (zI set)), some (.int (zI row)), some (.int (zI c)), some (.int (zI rest)), some (.long (zJ sg)), none, some (.int (zI k)), some (.long (zJ (sg * (s7 12 ((5 * rest) + k).toNat)))), none], [.int (zI row), .int (zI 4), .ref 7179, .long (zJ (sg * (s7 12 ((5 * rest) + k).toNat))), .long (zJ ((upz s7 12 ((5 * set) + k).toNat ((s7 12 ((5 * set) + k).toNat) + ((sg * (s7 12 ((5 * rest) + k).toNat)) * (s7 10 ((4 * row) + c).toNat)))) 12 (((5 * set) + k) + 1).toNat)), .int (zI (((5 * set) + k) + 1)), .ref 7180], [r0, r1, r2, r3, r4, r5, r6, zH (upz s7 12 ((5 * set) + k).toNat ((s7 12 ((5 * set) + k).toNat) + ((sg * (s7 12 ((5 * rest) + k).toNat)) * (s7 10 ((4 * row) + c).toNat)))) zL7 0, r8, r9])) rfl ?_
        refine zB.opi oX12_findPoly rfl (zi_mul 4 row) ?_
        refine xB.run oX12_findPoly 1 (s := (194, [some (.ref 7168), some (.int (zI m)), some (.int (zI set)), some (.int (zI row)), some (.int (zI c)), some (.int (zI rest)), some (.long (zJ sg)), none, some (.int (zI k)), some (.long (zJ (sg * (s7 12 ((5 * rest) + k).toNat)))), none], [.int (zI c), .int (zI (4 * row)), .ref 7179, .long (zJ (sg * (s7 12 ((5 * rest) + k).toNat))), .long (zJ ((upz s7 12 ((5 * set) + k).toNat ((s7 12 ((5 * set) + k).toNat) + ((sg * (s7 12 ((5 * rest) + k).toNat)) * (s7 10 ((4 * row) + c).toNat)))) 12 (((5 * set) + k) + 1).toNat)), .int (zI (((5 * set) + k) + 1)), .ref 7180], [r0, r1, r2, r3, r4, r5, r6, zH (upz s7 12 ((5 * set) + k).toNat ((s7 12 ((5 * set) + k).toNat) + ((sg * (s7 12 ((5 * rest) + k).toNat)) * (s7 10 ((4 * row) + c).toNat)))) zL7 0, r8, r9])) rfl ?_
        refine zB.opi oX12_findPoly rfl (zi_add (4 * row) c) ?_
        obtain ⟨g22, H⟩ := zgd H
        refine zB.lald oX12_findPoly (g := 7) (p := 11) (N := 16) (i := (4 * row) + c) rfl rfl (by decide) rfl rfl (by decide) g22 ?_
        refine zB.opl oX12_findPoly rfl (zj_mul (sg * (s7 12 ((5 * rest) + k).toNat)) ((upz s7 12 ((5 * set) + k).toNat ((s7 12 ((5 * set) + k).toNat) + ((sg * (s7 12 ((5 * rest) + k).toNat)) * (s7 10 ((4 * row) + c).toNat)))) 11 ((4 * row) + c).toNat)) ?_
        refine zB.opl oX12_findPoly rfl (zj_sub ((upz s7 12 ((5 * set) + k).toNat ((s7 12 ((5 * set) + k).toNat) + ((sg * (s7 12 ((5 * rest) + k).toNat)) * (s7 10 ((4 * row) + c).toNat)))) 12 (((5 * set) + k) + 1).toNat) ((sg * (s7 12 ((5 * rest) + k).toNat)) * ((upz s7 12 ((5 * set) + k).toNat ((s7 12 ((5 * set) + k).toNat) + ((sg * (s7 12 ((5 * rest) + k).toNat)) * (s7 10 ((4 * row) + c).toNat)))) 11 ((4 * row) + c).toNat))) ?_
        obtain ⟨g21, H⟩ := zgd H
        refine zB.last oX12_findPoly (g := 7) (p := 12) (N := 80) (i := ((5 * set) + k) + 1) (hp1 := [r0, r1, r2, r3, r4, r5, r6, zH (upz (upz s7 12 ((5 * set) + k).toNat ((s7 12 ((5 * set) + k).toNat) + ((sg * (s7 12 ((5 * rest) + k).toNat)) * (s7 10 ((4 * row) + c).toNat)))) 12 (((5 * set) + k) + 1).toNat (((upz s7 12 ((5 * set) + k).toNat ((s7 12 ((5 * set) + k).toNat) + ((sg * (s7 12 ((5 * rest) + k).toNat)) * (s7 10 ((4 * row) + c).toNat)))) 12 (((5 * set) + k) + 1).toNat) - ((sg * (s7 12 ((5 * rest) + k).toNat)) * ((upz s7 12 ((5 * set) + k).toNat ((s7 12 ((5 * set) + k).toNat) + ((sg * (s7 12 ((5 * rest) + k).toNat)) * (s7 10 ((4 * row) + c).toNat)))) 11 ((4 * row) + c).toNat)))) zL7 0, r8, r9]) rfl rfl (by decide) (by decide) rfl rfl (by decide) g21 rfl ?_
        refine zB.inc oX12_findPoly rfl (lv2 := [some (.ref 7168), some (.int (zI m)), some (.int (zI set)), some (.int (zI row)), some (.int (zI c)), some (.int (zI rest)), some (.long (zJ sg)), none, some (.int (zI (k + 1))), some (.long (zJ (sg * (s7 12 ((5 * rest) + k).toNat)))), none]) (zi_inc (a := 0) (zi_addp1 k) _ rfl) ?_
        refine xB.run oX12_findPoly 1 (s := (112, [some (.ref 7168), some (.int (zI m)), some (.int (zI set)), some (.int (zI row)), some (.int (zI c)), some (.int (zI rest)), some (.long (zJ sg)), none, some (.int (zI (k + 1))), some (.long (zJ (sg * (s7 12 ((5 * rest) + k).toNat)))), none], [], [r0, r1, r2, r3, r4, r5, r6, zH (upz (upz s7 12 ((5 * set) + k).toNat ((s7 12 ((5 * set) + k).toNat) + ((sg * (s7 12 ((5 * rest) + k).toNat)) * (s7 10 ((4 * row) + c).toNat)))) 12 (((5 * set) + k) + 1).toNat (((upz s7 12 ((5 * set) + k).toNat ((s7 12 ((5 * set) + k).toNat) + ((sg * (s7 12 ((5 * rest) + k).toNat)) * (s7 10 ((4 * row) + c).toNat)))) 12 (((5 * set) + k) + 1).toNat) - ((sg * (s7 12 ((5 * rest) + k).toNat)) * ((upz s7 12 ((5 * set) + k).toNat ((s7 12 ((5 * set) + k).toNat) + ((sg * (s7 12 ((5 * rest) + k).toNat)) * (s7 10 ((4 * row) + c).toNat)))) 11 ((4 * row) + c).toNat)))) zL7 0, r8, r9])) rfl ?_
        refine xB.forget (lv1 := [some (.ref 7168), some (.int (zI m)), some (.int (zI set)), some (.int (zI row)), some (.int (zI c)), some (.int (zI rest)), some (.long (zJ sg)), none, some (.int (zI (k + 1))), none, none]) (xle_same (xle_same (xle_same (xle_same (xle_same (xle_same (xle_same (xle_same (xle_same (xle_none (xle_same (xle_nil)))))))))))) ?_
        exact ih (k + 1) (upz (upz s7 12 ((5 * set) + k).toNat ((s7 12 ((5 * set) + k).toNat) + ((sg * (s7 12 ((5 * rest) + k).toNat)) * (s7 10 ((4 * row) + c).toNat)))) 12 (((5 * set) + k) + 1).toNat (((upz s7 12 ((5 * set) + k).toNat ((s7 12 ((5 * set) + k).toNat) + ((sg * (s7 12 ((5 * rest) + k).toNat)) * (s7 10 ((4 * row) + c).toNat)))) 12 (((5 * set) + k) + 1).toNat) - ((sg * (s7 12 ((5 * rest) + k).toNat)) * ((upz s7 12 ((5 * set) + k).toNat ((s7 12 ((5 * set) + k).toNat) + ((sg * (s7 12 ((5 * rest) + k).toNat)) * (s7 10 ((4 * row) + c).toNat)))) 11 ((4 * row) + c).toNat)))) H K
set_option maxRecDepth 20000 in
theorem l_X12_findPoly_59 (r0 : List va_E) (r1 : List va_E) (r2 : List va_E) (r3 : List va_E) (r4 : List va_E) (r5 : List va_E) (r6 : List va_E) (r8 : List va_E) (r9 : List va_E) (m : Int) (set : Int) (row : Int) {r : Option Value} {hp1 : xH} : ∀ (uN : Nat) (c : Int) (s7 : zZ) {uX : Int × zZ}, d_X12_findPoly_59 m set row uN c s7 = some uX → (xBody MX12_findPoly 2 211 [some (.ref 7168), some (.int (zI m)), some (.int (zI set)), some (.int (zI row)), some (.int (zI uX.1)), none, none, none, none, none, none] [] ([r0, r1, r2, r3, r4, r5, r6, zH uX.2 zL7 0, r8, r9]) r hp1) → xBody MX12_findPoly 2 59 [some (.ref 7168), some (.int (zI m)), some (.int (zI set)), some (.int (zI row)), some (.int (zI c)), none, none, none, none, none, none] [] ([r0, r1, r2, r3, r4, r5, r6, zH s7 zL7 0, r8, r9]) r hp1 := by
  intro uN
  induction uN with
  | zero => intro c s7 uX H K; cases H
  | succ uN ih =>
    intro c s7 uX H K
    unfold d_X12_findPoly_59 at H
    refine xB.run oX12_findPoly 2 (s := (62, [some (.ref 7168), some (.int (zI m)), some (.int (zI set)), some (.int (zI row)), some (.int (zI c)), none, none, none, none, none, none], [.int (zI m), .int (zI c)], [r0, r1, r2, r3, r4, r5, r6, zH s7 zL7 0, r8, r9])) rfl ?_
    obtain ⟨g41, H⟩ := zgd H
    have H := zif H
    refine xB.brE oX12_findPoly (P := m ≤ c) rfl (zc_ge (a := c) (b := m) g41) (fun h14 => ?_) (fun h14 => ?_)
    · have H := H.1 h14
      obtain rfl := Option.some.inj H
      exact K
    · have H := H.2 h14
      refine xB.run oX12_findPoly 2 (s := (68, [some (.ref 7168), some (.int (zI m)), some (.int (zI set)), some (.int (zI row)), some (.int (zI c)), none, none, none, none, none, none], [.int (zI c), .int (zI set)], [r0, r1, r2, r3, r4, r5, r6, zH s7 zL7 0, r8, r9])) rfl ?_
      obtain ⟨g40, H⟩ := zgd H
      refine zB.opi oX12_findPoly rfl (zi_shr (c := c) g40.1 g40.2) ?_
      refine xB.run oX12_findPoly 1 (s := (70, [some (.ref 7168), some (.int (zI m)), some (.int (zI set)), some (.int (zI row)), some (.int (zI c)), none, none, none, none, none, none], [.int (zI 1), .int (zI (set / (2 : Int) ^ c.toNat))], [r0, r1, r2, r3, r4, r5, r6, zH s7 zL7 0, r8, r9])) rfl ?_
      refine zB.opi oX12_findPoly rfl (zi_and1 (set / (2 : Int) ^ c.toNat)) ?_
      obtain ⟨g39, H⟩ := zgd H
      have H := zif H
      refine xB.brE oX12_findPoly (P := ((set / (2 : Int) ^ c.toNat) % 2) ≠ 0) rfl (zc_ne (a := (set / (2 : Int) ^ c.toNat) % 2) (b := 0) ⟨g39, by decide⟩) (fun h15 => ?_) (fun h15 => ?_)
      · have H := H.1 h15
        refine xB.run oX12_findPoly 3 (s := (81, [some (.ref 7168), some (.int (zI m)), some (.int (zI set)), some (.int (zI row)), some (.int (zI c)), none, none, none, none, none, none], [.int (zI c), .int (zI 1), .int (zI set)], [r0, r1, r2, r3, r4, r5, r6, zH s7 zL7 0, r8, r9])) rfl ?_
        obtain ⟨g38, H⟩ := zgd H
        refine zB.opi oX12_findPoly (y := (2 : Int) ^ c.toNat) rfl (zi_shl1 (c := c) g38) ?_
        refine xB.run oX12_findPoly 1 (s := (83, [some (.ref 7168), some (.int (zI m)), some (.int (zI set)), some (.int (zI row)), some (.int (zI c)), none, none, none, none, none, none], [.int (zI (-1)), .int (zI ((2 : Int) ^ c.toNat)), .int (zI set)], [r0, r1, r2, r3, r4, r5, r6, zH s7 zL7 0, r8, r9])) rfl ?_
        refine zB.opi oX12_findPoly rfl (zi_not ((2 : Int) ^ c.toNat)) ?_
        obtain ⟨g37, H⟩ := zgd H
        refine zB.opi oX12_findPoly rfl (zi_andnot (a := set) (b := (2 : Int) ^ c.toNat) g37.1 g37.2) ?_
        refine xB.run oX12_findPoly 3 (s := (91, [some (.ref 7168), some (.int (zI m)), some (.int (zI set)), some (.int (zI row)), some (.int (zI c)), some (.int (zI (set - ((set.toNat &&& ((2 : Int) ^ c.toNat).toNat : Nat) : Int)))), none, none, none, none, none], [.int (zI c), .int (zI (set - ((set.toNat &&& ((2 : Int) ^ c.toNat).toNat : Nat) : Int)))], [r0, r1, r2, r3, r4, r5, r6, zH s7 zL7 0, r8, r9])) rfl ?_
        obtain ⟨g36, H⟩ := zgd H
        refine zB.opi oX12_findPoly rfl (zi_shr (c := c) g36.1 g36.2) ?_
        obtain ⟨y16, e17, H⟩ := zbd H
        refine xB.call oX12_findPoly (M2 := MX12_bitsOf) rfl rfl ((t_X12_bitsOf r0 r1 r2 r3 r4 r5 r6 (zH s7 zL7 0) r8 r9 ((set - ((set.toNat &&& ((2 : Int) ^ c.toNat).toNat : Nat) : Int)) / (2 : Int) ^ c.toNat) e17).deep (by decide : 0 ≤ 1)) ?_
        show xBody MX12_findPoly 2 95 [some (.ref 7168), some (.int (zI m)), some (.int (zI set)), some (.int (zI row)), some (.int (zI c)), some (.int (zI (set - ((set.toNat &&& ((2 : Int) ^ c.toNat).toNat : Nat) : Int)))), none, none, none, none, none] [.int (zI y16)] ([r0, r1, r2, r3, r4, r5, r6, zH s7 zL7 0, r8, r9]) _ _
        refine xB.run oX12_findPoly 1 (s := (96, [some (.ref 7168), some (.int (zI m)), some (.int (zI set)), some (.int (zI row)), some (.int (zI c)), some (.int (zI (set - ((set.toNat &&& ((2 : Int) ^ c.toNat).toNat : Nat) : Int)))), none, none, none, none, none], [.int (zI 2), .int (zI y16)], [r0, r1, r2, r3, r4, r5, r6, zH s7 zL7 0, r8, r9])) rfl ?_
        obtain ⟨g35, H⟩ := zgd H
        refine zB.divi oX12_findPoly (b := 2) rfl (zi_remp g35 (by decide)) rfl (by decide) ?_
        obtain ⟨g34, H⟩ := zgd H
        have H := zif H
        refine xB.brE oX12_findPoly (P := (y16 % 2) ≠ 0) rfl (zc_ne (a := y16 % 2) (b := 0) ⟨g34, by decide⟩) (fun h18 => ?_) (fun h18 => ?_)
        · have H := H.1 h18
          refine xB.run oX12_findPoly 4 (s := (112, [some (.ref 7168), some (.int (zI m)), some (.int (zI set)), some (.int (zI row)), some (.int (zI c)), some (.int (zI (set - ((set.toNat &&& ((2 : Int) ^ c.toNat).toNat : Nat) : Int)))), some (.long (zJ (-1))), none, some (.int (zI 0)), none, none], [], [r0, r1, r2, r3, r4, r5, r6, zH s7 zL7 0, r8, r9])) rfl ?_
          obtain ⟨y30, e31, H⟩ := zbd H
          refine l_X12_findPoly_112 r0 r1 r2 r3 r4 r5 r6 r8 r9 m set row c (set - ((set.toNat &&& ((2 : Int) ^ c.toNat).toNat : Nat) : Int)) (-1) _ 0 s7 e31 ?_
          refine zB.inc oX12_findPoly rfl (lv2 := [some (.ref 7168), some (.int (zI m)), some (.int (zI set)), some (.int (zI row)), some (.int (zI (c + 1))), some (.int (zI (set - ((set.toNat &&& ((2 : Int) ^ c.toNat).toNat : Nat) : Int)))), some (.long (zJ (-1))), none, some (.int (zI y30.1)), none, none]) (zi_inc (a := 0) (zi_addp1 c) _ rfl) ?_
          refine xB.run oX12_findPoly 1 (s := (59, [some (.ref 7168), some (.int (zI m)), some (.int (zI set)), some (.int (zI row)), some (.int (zI (c + 1))), some (.int (zI (set - ((set.toNat &&& ((2 : Int) ^ c.toNat).toNat : Nat) : Int)))), some (.long (zJ (-1))), none, some (.int (zI y30.1)), none, none], [], [r0, r1, r2, r3, r4, r5, r6, zH y30.2 zL7 0, r8, r9])) rfl ?_
          refine xB.forget (lv1 := [some (.ref 7168), some (.int (zI m)), some (.int (zI set)), some (.int (zI row)), some (.int (zI (c + 1))), none, none, none, none, none, none]) (xle_same (xle_same (xle_same (xle_same (xle_same (xle_none (xle_none (xle_same (xle_none (xle_same (xle_same (xle_nil)))))))))))) ?_
          exact ih (c + 1) y30.2 H K
        · have H := H.2 h18
          refine xB.run oX12_findPoly 5 (s := (112, [some (.ref 7168), some (.int (zI m)), some (.int (zI set)), some (.int (zI row)), some (.int (zI c)), some (.int (zI (set - ((set.toNat &&& ((2 : Int) ^ c.toNat).toNat : Nat) : Int)))), some (.long (zJ 1)), none, some (.int (zI 0)), none, none], [], [r0, r1, r2, r3, r4, r5, r6, zH s7 zL7 0, r8, r9])) rfl ?_
          obtain ⟨y32, e33, H⟩ := zbd H
          refine l_X12_findPoly_112 r0 r1 r2 r3 r4 r5 r6 r8 r9 m set row c (set - ((set.toNat &&& ((2 : Int) ^ c.toNat).toNat : Nat) : Int)) 1 _ 0 s7 e33 ?_
          refine zB.inc oX12_findPoly rfl (lv2 := [some (.ref 7168), some (.int (zI m)), some (.int (zI set)), some (.int (zI row)), some (.int (zI (c + 1))), some (.int (zI (set - ((set.toNat &&& ((2 : Int) ^ c.toNat).toNat : Nat) : Int)))), some (.long (zJ 1)), none, some (.int (zI y32.1)), none, none]) (zi_inc (a := 0) (zi_addp1 c) _ rfl) ?_
          refine xB.run oX12_findPoly 1 (s := (59, [some (.ref 7168), some (.int (zI m)), some (.int (zI set)), some (.int (zI row)), some (.int (zI (c + 1))), some (.int (zI (set - ((set.toNat &&& ((2 : Int) ^ c.toNat).toNat : Nat) : Int)))), some (.long (zJ 1)), none, some (.int (zI y32.1)), none, none], [], [r0, r1, r2, r3, r4, r5, r6, zH y32.2 zL7 0, r8, r9])) rfl ?_
          refine xB.forget (lv1 := [some (.ref 7168), some (.int (zI m)), some (.int (zI set)), some (.int (zI row)), some (.int (zI (c + 1))), none, none, none, none, none, none]) (xle_same (xle_same (xle_same (xle_same (xle_same (xle_none (xle_none (xle_same (xle_none (xle_same (xle_same (xle_nil)))))))))))) ?_
          exact ih (c + 1) y32.2 H K
      · have H := H.2 h15
        refine xB.run oX12_findPoly 1 (s := (205, [some (.ref 7168), some (.int (zI m)), some (.int (zI set)), some (.int (zI row)), some (.int (zI c)), none, none, none, none, none, none], [], [r0, r1, r2, r3, r4, r5, r6, zH s7 zL7 0, r8, r9])) rfl ?_
        refine zB.inc oX12_findPoly rfl (lv2 := [some (.ref 7168), some (.int (zI m)), some (.int (zI set)), some (.int (zI row)), some (.int (zI (c + 1))), none, none, none, none, none, none]) (zi_inc (a := 0) (zi_addp1 c) _ rfl) ?_
        refine xB.run oX12_findPoly 1 (s := (59, [some (.ref 7168), some (.int (zI m)), some (.int (zI set)), some (.int (zI row)), some (.int (zI (c + 1))), none, none, none, none, none, none], [], [r0, r1, r2, r3, r4, r5, r6, zH s7 zL7 0, r8, r9])) rfl ?_
        exact ih (c + 1) s7 H K
set_option maxRecDepth 20000 in
theorem l_X12_findPoly_42 (r0 : List va_E) (r1 : List va_E) (r2 : List va_E) (r3 : List va_E) (r4 : List va_E) (r5 : List va_E) (r6 : List va_E) (r8 : List va_E) (r9 : List va_E) (m : Int) {r : Option Value} {hp1 : xH} : ∀ (uN : Nat) (set : Int) (s7 : zZ) {uX : Int × zZ}, d_X12_findPoly_42 m uN set s7 = some uX → (xBody MX12_findPoly 2 217 [some (.ref 7168), some (.int (zI m)), some (.int (zI uX.1)), none, none, none, none, none, none, none, none] [] ([r0, r1, r2, r3, r4, r5, r6, zH uX.2 zL7 0, r8, r9]) r hp1) → xBody MX12_findPoly 2 42 [some (.ref 7168), some (.int (zI m)), some (.int (zI set)), none, none, none, none, none, none, none, none] [] ([r0, r1, r2, r3, r4, r5, r6, zH s7 zL7 0, r8, r9]) r hp1 := by
  intro uN
  induction uN with
  | zero => intro set s7 uX H K; cases H
  | succ uN ih =>
    intro set s7 uX H K
    unfold d_X12_findPoly_42 at H
    refine xB.run oX12_findPoly 3 (s := (45, [some (.ref 7168), some (.int (zI m)), some (.int (zI set)), none, none, none, none, none, none, none, none], [.int (zI m), .int (zI 1), .int (zI set)], [r0, r1, r2, r3, r4, r5, r6, zH s7 zL7 0, r8, r9])) rfl ?_
    obtain ⟨g45, H⟩ := zgd H
    refine zB.opi oX12_findPoly (y := (2 : Int) ^ m.toNat) rfl (zi_shl1 (c := m) g45) ?_
    obtain ⟨g44, H⟩ := zgd H
    have H := zif H
    refine xB.brE oX12_findPoly (P := ((2 : Int) ^ m.toNat) ≤ set) rfl (zc_ge (a := set) (b := (2 : Int) ^ m.toNat) g44) (fun h11 => ?_) (fun h11 => ?_)
    · have H := H.1 h11
      obtain rfl := Option.some.inj H
      exact K
    · have H := H.2 h11
      refine xB.run oX12_findPoly 1 (s := (50, [some (.ref 7168), some (.int (zI m)), some (.int (zI set)), none, none, none, none, none, none, none, none], [.int (zI set)], [r0, r1, r2, r3, r4, r5, r6, zH s7 zL7 0, r8, r9])) rfl ?_
      obtain ⟨y12, e13, H⟩ := zbd H
      refine xB.call oX12_findPoly (M2 := MX12_bitsOf) rfl rfl ((t_X12_bitsOf r0 r1 r2 r3 r4 r5 r6 (zH s7 zL7 0) r8 r9 set e13).deep (by decide : 0 ≤ 1)) ?_
      show xBody MX12_findPoly 2 53 [some (.ref 7168), some (.int (zI m)), some (.int (zI set)), none, none, none, none, none, none, none, none] [.int (zI y12)] ([r0, r1, r2, r3, r4, r5, r6, zH s7 zL7 0, r8, r9]) _ _
      refine xB.run oX12_findPoly 1 (s := (54, [some (.ref 7168), some (.int (zI m)), some (.int (zI set)), none, none, none, none, none, none, none, none], [.int (zI 1), .int (zI y12)], [r0, r1, r2, r3, r4, r5, r6, zH s7 zL7 0, r8, r9])) rfl ?_
      refine zB.opi oX12_findPoly rfl (zi_sub y12 1) ?_
      refine xB.run oX12_findPoly 3 (s := (59, [some (.ref 7168), some (.int (zI m)), some (.int (zI set)), some (.int (zI (y12 - 1))), some (.int (zI 0)), none, none, none, none, none, none], [], [r0, r1, r2, r3, r4, r5, r6, zH s7 zL7 0, r8, r9])) rfl ?_
      obtain ⟨y42, e43, H⟩ := zbd H
      refine l_X12_findPoly_59 r0 r1 r2 r3 r4 r5 r6 r8 r9 m set (y12 - 1) _ 0 s7 e43 ?_
      refine zB.inc oX12_findPoly rfl (lv2 := [some (.ref 7168), some (.int (zI m)), some (.int (zI (set + 1))), some (.int (zI (y12 - 1))), some (.int (zI y42.1)), none, none, none, none, none, none]) (zi_inc (a := 0) (zi_addp1 set) _ rfl) ?_
      refine xB.run oX12_findPoly 1 (s := (42, [some (.ref 7168), some (.int (zI m)), some (.int (zI (set + 1))), some (.int (zI (y12 - 1))), some (.int (zI y42.1)), none, none, none, none, none, none], [], [r0, r1, r2, r3, r4, r5, r6, zH y42.2 zL7 0, r8, r9])) rfl ?_
      refine xB.forget (lv1 := [some (.ref 7168), some (.int (zI m)), some (.int (zI (set + 1))), none, none, none, none, none, none, none, none]) (xle_same (xle_same (xle_same (xle_none (xle_none (xle_same (xle_same (xle_same (xle_same (xle_same (xle_same (xle_nil)))))))))))) ?_
      exact ih (set + 1) y42.2 H K
set_option maxRecDepth 20000 in
theorem t_X12_findPoly (r0 : List va_E) (r1 : List va_E) (r2 : List va_E) (r3 : List va_E) (r4 : List va_E) (r5 : List va_E) (r6 : List va_E) (s7 : zZ) (r8 : List va_E) (r9 : List va_E) {rr : zZ} (H : d_X12_findPoly s7 = some rr) : xC MX12_findPoly 2 [.ref 7168] ([r0, r1, r2, r3, r4, r5, r6, zH s7 zL7 0, r8, r9]) (none) ([r0, r1, r2, r3, r4, r5, r6, zH rr zL7 0, r8, r9]) := by
  refine ⟨Nat.le_of_ble_eq_true rfl, ?_⟩
  show xBody MX12_findPoly 2 0 [some (.ref 7168), none, none, none, none, none, none, none, none, none, none] [] ([r0, r1, r2, r3, r4, r5, r6, zH s7 zL7 0, r8, r9]) _ _
  unfold d_X12_findPoly at H
  refine xB.run oX12_findPoly 1 (s := (1, [some (.ref 7168), none, none, none, none, none, none, none, none, none, none], [.ref 7168], [r0, r1, r2, r3, r4, r5, r6, zH s7 zL7 0, r8, r9])) rfl ?_
  obtain ⟨y1, e2, H⟩ := zbd H
  refine xB.call oX12_findPoly (M2 := MX12_layTables) rfl rfl ((t_X12_layTables r0 r1 r2 r3 r4 r5 r6 s7 r8 r9  e2).deep (by decide : 1 ≤ 1)) ?_
  show xBody MX12_findPoly 2 4 [some (.ref 7168), none, none, none, none, none, none, none, none, none, none] [] ([r0, r1, r2, r3, r4, r5, r6, zH y1 zL7 0, r8, r9]) _ _
  refine xB.run oX12_findPoly 3 (s := (9, [some (.ref 7168), none, none, none, none, none, none, none, none, none, none], [.int (zI 1), .int (zI (y1 0 14))], [r0, r1, r2, r3, r4, r5, r6, zH y1 zL7 0, r8, r9])) rfl ?_
  refine zB.opi oX12_findPoly rfl (zi_sub (y1 0 14) 1) ?_
  refine xB.run oX12_findPoly 3 (s := (13, [some (.ref 7168), some (.int (zI ((y1 0 14) - 1))), some (.int (zI 0)), none, none, none, none, none, none, none, none], [], [r0, r1, r2, r3, r4, r5, r6, zH y1 zL7 0, r8, r9])) rfl ?_
  obtain ⟨y9, e10, H⟩ := zbd H
  refine l_X12_findPoly_13 r0 r1 r2 r3 r4 r5 r6 r8 r9 ((y1 0 14) - 1) _ 0 y1 e10 ?_
  refine xB.run oX12_findPoly 2 (s := (42, [some (.ref 7168), some (.int (zI ((y1 0 14) - 1))), some (.int (zI 1)), none, none, none, none, none, none, none, none], [], [r0, r1, r2, r3, r4, r5, r6, zH y9.2 zL7 0, r8, r9])) rfl ?_
  obtain ⟨y46, e47, H⟩ := zbd H
  refine l_X12_findPoly_42 r0 r1 r2 r3 r4 r5 r6 r8 r9 ((y1 0 14) - 1) _ 1 y9.2 e47 ?_
  obtain rfl := Option.some.inj H
  exact xB.ret oX12_findPoly (r1 := none) rfl rfl rfl
def d_X12_coefficient (s7 : zZ) (k : Int) : Option (Int) := if (0 ≤ ((s7 0 14) - 1) ∧ ((s7 0 14) - 1) < 32) then (if (0 ≤ ((5 * (((2 : Int) ^ ((s7 0 14) - 1).toNat) - 1)) + k) ∧ ((5 * (((2 : Int) ^ ((s7 0 14) - 1).toNat) - 1)) + k) < 80) then some (s7 12 ((5 * (((2 : Int) ^ ((s7 0 14) - 1).toNat) - 1)) + k).toNat) else none) else none
set_option maxRecDepth 20000 in
theorem t_X12_coefficient (r0 : List va_E) (r1 : List va_E) (r2 : List va_E) (r3 : List va_E) (r4 : List va_E) (r5 : List va_E) (r6 : List va_E) (s7 : zZ) (r8 : List va_E) (r9 : List va_E) (k : Int) {rr : Int} (H : d_X12_coefficient s7 k = some rr) : xC MX12_coefficient 0 [.ref 7168, .int (zI k)] ([r0, r1, r2, r3, r4, r5, r6, zH s7 zL7 0, r8, r9]) (some (.long (zJ rr))) ([r0, r1, r2, r3, r4, r5, r6, zH s7 zL7 0, r8, r9]) := by
  refine ⟨Nat.le_of_ble_eq_true rfl, ?_⟩
  show xBody MX12_coefficient 0 0 [some (.ref 7168), some (.int (zI k))] [] ([r0, r1, r2, r3, r4, r5, r6, zH s7 zL7 0, r8, r9]) _ _
  unfold d_X12_coefficient at H
  refine xB.run oX12_coefficient 7 (s := (11, [some (.ref 7168), some (.int (zI k))], [.int (zI 1), .int (zI (s7 0 14)), .int (zI 1), .int (zI 5), .ref 7180], [r0, r1, r2, r3, r4, r5, r6, zH s7 zL7 0, r8, r9])) rfl ?_
  refine zB.opi oX12_coefficient rfl (zi_sub (s7 0 14) 1) ?_
  obtain ⟨g2, H⟩ := zgd H
  refine zB.opi oX12_coefficient (y := (2 : Int) ^ ((s7 0 14) - 1).toNat) rfl (zi_shl1 (c := (s7 0 14) - 1) g2) ?_
  refine xB.run oX12_coefficient 1 (s := (14, [some (.ref 7168), some (.int (zI k))], [.int (zI 1), .int (zI ((2 : Int) ^ ((s7 0 14) - 1).toNat)), .int (zI 5), .ref 7180], [r0, r1, r2, r3, r4, r5, r6, zH s7 zL7 0, r8, r9])) rfl ?_
  refine zB.opi oX12_coefficient rfl (zi_sub ((2 : Int) ^ ((s7 0 14) - 1).toNat) 1) ?_
  refine zB.opi oX12_coefficient rfl (zi_mul 5 (((2 : Int) ^ ((s7 0 14) - 1).toNat) - 1)) ?_
  refine xB.run oX12_coefficient 1 (s := (17, [some (.ref 7168), some (.int (zI k))], [.int (zI k), .int (zI (5 * (((2 : Int) ^ ((s7 0 14) - 1).toNat) - 1))), .ref 7180], [r0, r1, r2, r3, r4, r5, r6, zH s7 zL7 0, r8, r9])) rfl ?_
  refine zB.opi oX12_coefficient rfl (zi_add (5 * (((2 : Int) ^ ((s7 0 14) - 1).toNat) - 1)) k) ?_
  obtain ⟨g1, H⟩ := zgd H
  refine zB.lald oX12_coefficient (g := 7) (p := 12) (N := 80) (i := (5 * (((2 : Int) ^ ((s7 0 14) - 1).toNat) - 1)) + k) rfl rfl (by decide) rfl rfl (by decide) g1 ?_
  obtain rfl := Option.some.inj H
  exact xB.ret oX12_coefficient (r1 := some (.long (zJ (s7 12 ((5 * (((2 : Int) ^ ((s7 0 14) - 1).toNat) - 1)) + k).toNat)))) rfl rfl rfl
def d_X12_poly (s7 : zZ) (k : Int) : Option (Int × zZ) := if zr k then (if zr ((s7 0 14) - 1) then ((d_X12_within k 0 ((s7 0 14) - 1)).bind fun y1 => if (zr y1) then (if y1 ≠ 0 then ((d_X12_findPoly s7).bind fun y4 => (d_X12_coefficient y4 k).bind fun y6 => some (y6, y4)) else some ((-9223372036854775808), s7)) else none) else none) else none
set_option maxRecDepth 20000 in
theorem t_X12_poly (r0 : List va_E) (r1 : List va_E) (r2 : List va_E) (r3 : List va_E) (r4 : List va_E) (r5 : List va_E) (r6 : List va_E) (s7 : zZ) (r8 : List va_E) (r9 : List va_E) (k : Int) {rr : Int × zZ} (H : d_X12_poly s7 k = some rr) : xC MX12_poly 3 [.ref 7168, .int (zI k)] ([r0, r1, r2, r3, r4, r5, r6, zH s7 zL7 0, r8, r9]) (some (.long (zJ rr.1))) ([r0, r1, r2, r3, r4, r5, r6, zH rr.2 zL7 0, r8, r9]) := by
  refine ⟨Nat.le_of_ble_eq_true rfl, ?_⟩
  show xBody MX12_poly 3 0 [some (.ref 7168), some (.int (zI k))] [] ([r0, r1, r2, r3, r4, r5, r6, zH s7 zL7 0, r8, r9]) _ _
  unfold d_X12_poly at H
  refine xB.run oX12_poly 1 (s := (1, [some (.ref 7168), some (.int (zI k))], [.int (zI k)], [r0, r1, r2, r3, r4, r5, r6, zH s7 zL7 0, r8, r9])) rfl ?_
  obtain ⟨g10, H⟩ := zgd H
  refine zB.opl oX12_poly rfl (zi_i2l g10) ?_
  refine xB.run oX12_poly 4 (s := (8, [some (.ref 7168), some (.int (zI k))], [.int (zI 1), .int (zI (s7 0 14)), .long (zJ 0), .long (zJ k)], [r0, r1, r2, r3, r4, r5, r6, zH s7 zL7 0, r8, r9])) rfl ?_
  refine zB.opi oX12_poly rfl (zi_sub (s7 0 14) 1) ?_
  obtain ⟨g9, H⟩ := zgd H
  refine zB.opl oX12_poly rfl (zi_i2l g9) ?_
  obtain ⟨y1, e2, H⟩ := zbd H
  refine xB.call oX12_poly (M2 := MX12_within) rfl rfl ((t_X12_within r0 r1 r2 r3 r4 r5 r6 (zH s7 zL7 0) r8 r9 k 0 ((s7 0 14) - 1) e2).deep (by decide : 0 ≤ 2)) ?_
  show xBody MX12_poly 3 13 [some (.ref 7168), some (.int (zI k))] [.int (zI y1)] ([r0, r1, r2, r3, r4, r5, r6, zH s7 zL7 0, r8, r9]) _ _
  obtain ⟨g8, H⟩ := zgd H
  have H := zif H
  refine xB.brE oX12_poly (P := y1 ≠ 0) rfl (zc_ne (a := y1) (b := 0) ⟨g8, by decide⟩) (fun h3 => ?_) (fun h3 => ?_)
  · have H := H.1 h3
    refine xB.run oX12_poly 1 (s := (21, [some (.ref 7168), some (.int (zI k))], [.ref 7168], [r0, r1, r2, r3, r4, r5, r6, zH s7 zL7 0, r8, r9])) rfl ?_
    obtain ⟨y4, e5, H⟩ := zbd H
    refine xB.call oX12_poly (M2 := MX12_findPoly) rfl rfl ((t_X12_findPoly r0 r1 r2 r3 r4 r5 r6 s7 r8 r9  e5).deep (by decide : 2 ≤ 2)) ?_
    show xBody MX12_poly 3 24 [some (.ref 7168), some (.int (zI k))] [] ([r0, r1, r2, r3, r4, r5, r6, zH y4 zL7 0, r8, r9]) _ _
    refine xB.run oX12_poly 2 (s := (26, [some (.ref 7168), some (.int (zI k))], [.int (zI k), .ref 7168], [r0, r1, r2, r3, r4, r5, r6, zH y4 zL7 0, r8, r9])) rfl ?_
    obtain ⟨y6, e7, H⟩ := zbd H
    refine xB.call oX12_poly (M2 := MX12_coefficient) rfl rfl ((t_X12_coefficient r0 r1 r2 r3 r4 r5 r6 y4 r8 r9 k e7).deep (by decide : 0 ≤ 2)) ?_
    show xBody MX12_poly 3 29 [some (.ref 7168), some (.int (zI k))] [.long (zJ y6)] ([r0, r1, r2, r3, r4, r5, r6, zH y4 zL7 0, r8, r9]) _ _
    obtain rfl := Option.some.inj H
    exact xB.ret oX12_poly (r1 := some (.long (zJ y6))) rfl rfl rfl
  · have H := H.2 h3
    refine xB.run oX12_poly 1 (s := (19, [some (.ref 7168), some (.int (zI k))], [.long (zJ (-9223372036854775808))], [r0, r1, r2, r3, r4, r5, r6, zH s7 zL7 0, r8, r9])) rfl ?_
    obtain rfl := Option.some.inj H
    exact xB.ret oX12_poly (r1 := some (.long (zJ (-9223372036854775808)))) rfl rfl rfl
def d_X12_shift_14 (a : Int) (b : Int) (m : Int) : Nat → Int → zZ → Option (Int × zZ)
  | 0, _, _ => none
  | uN + 1, by_, s7 => if (zr by_) then (if (5 : Int) ≤ by_ then some (by_, s7) else (if (0 ≤ by_ ∧ by_ < 5) then (d_X12_shift_14 a b m uN (by_ + 1) (upz s7 13 by_.toNat 0)) else none)) else none
def d_X12_shift_48 (a : Int) (b : Int) (m : Int) (by_ : Int) (k : Int) : Nat → Int → zZ → Option (Int × zZ)
  | 0, _, _ => none
  | uN + 1, q, s7 => if (zr q) then (if q < 0 then some (q, s7) else (if (0 ≤ q ∧ q < 5) then (if zr a then (if (zr q) then (if q ≤ 0 then (if (0 ≤ q ∧ q < 5) then (d_X12_shift_48 a b m by_ k uN (q + (-1)) (upz s7 13 q.toNat (((s7 13 q.toNat) * a) - 0))) else none) else (if (0 ≤ (q - 1) ∧ (q - 1) < 5) then (if zr b then (if (0 ≤ q ∧ q < 5) then (d_X12_shift_48 a b m by_ k uN (q + (-1)) (upz s7 13 q.toNat (((s7 13 q.toNat) * a) - ((s7 13 (q - 1).toNat) * b)))) else none) else none) else none)) else none) else none) else none)) else none
def d_X12_shift_40 (a : Int) (b : Int) (m : Int) : Nat → Int → Int → zZ → Option (Int × Int × zZ)
  | 0, _, _, _ => none
  | uN + 1, by_, k, s7 => if (zr k) then (if k < 0 then some (by_, k, s7) else ((d_X12_shift_48 a b m by_ k zF 4 s7).bind fun y19 => (d_X12_coefficient y19.2 k).bind fun y21 => if zr b then (d_X12_shift_40 a b m uN (by_ * b) (k + (-1)) (upz y19.2 13 0 ((y19.2 13 0) + (y21 * by_)))) else none)) else none
def d_X12_shift (s7 : zZ) (a : Int) (b : Int) : Option (zZ) := (d_X12_findPoly s7).bind fun y1 => (d_X12_shift_14 a b ((y1 0 14) - 1) zF 0 y1).bind fun y6 => (d_X12_shift_40 a b ((y1 0 14) - 1) zF 1 ((y1 0 14) - 1) y6.2).bind fun y25 => some y25.2.2
set_option maxRecDepth 20000 in
theorem l_X12_shift_14 (r0 : List va_E) (r1 : List va_E) (r2 : List va_E) (r3 : List va_E) (r4 : List va_E) (r5 : List va_E) (r6 : List va_E) (r8 : List va_E) (r9 : List va_E) (a : Int) (b : Int) (m : Int) {r : Option Value} {hp1 : xH} : ∀ (uN : Nat) (by_ : Int) (s7 : zZ) {uX : Int × zZ}, d_X12_shift_14 a b m uN by_ s7 = some uX → (xBody MX12_shift 3 34 [some (.ref 7168), some (.int (zI a)), some (.int (zI b)), some (.int (zI m)), some (.int (zI uX.1)), none, none, none] [] ([r0, r1, r2, r3, r4, r5, r6, zH uX.2 zL7 0, r8, r9]) r hp1) → xBody MX12_shift 3 14 [some (.ref 7168), some (.int (zI a)), some (.int (zI b)), some (.int (zI m)), some (.int (zI by_)), none, none, none] [] ([r0, r1, r2, r3, r4, r5, r6, zH s7 zL7 0, r8, r9]) r hp1 := by
  intro uN
  induction uN with
  | zero => intro by_ s7 uX H K; cases H
  | succ uN ih =>
    intro by_ s7 uX H K
    unfold d_X12_shift_14 at H
    refine xB.run oX12_shift 2 (s := (17, [some (.ref 7168), some (.int (zI a)), some (.int (zI b)), some (.int (zI m)), some (.int (zI by_)), none, none, none], [.int (zI 5), .int (zI by_)], [r0, r1, r2, r3, r4, r5, r6, zH s7 zL7 0, r8, r9])) rfl ?_
    obtain ⟨g5, H⟩ := zgd H
    have H := zif H
    refine xB.brE oX12_shift (P := (5 : Int) ≤ by_) rfl (zc_ge (a := by_) (b := 5) ⟨g5, by decide⟩) (fun h3 => ?_) (fun h3 => ?_)
    · have H := H.1 h3
      obtain rfl := Option.some.inj H
      exact K
    · have H := H.2 h3
      refine xB.run oX12_shift 4 (s := (27, [some (.ref 7168), some (.int (zI a)), some (.int (zI b)), some (.int (zI m)), some (.int (zI by_)), none, none, none], [.long (zJ 0), .int (zI by_), .ref 7181], [r0, r1, r2, r3, r4, r5, r6, zH s7 zL7 0, r8, r9])) rfl ?_
      obtain ⟨g4, H⟩ := zgd H
      refine zB.last oX12_shift (g := 7) (p := 13) (N := 5) (i := by_) (hp1 := [r0, r1, r2, r3, r4, r5, r6, zH (upz s7 13 by_.toNat 0) zL7 0, r8, r9]) rfl rfl (by decide) (by decide) rfl rfl (by decide) g4 rfl ?_
      refine zB.inc oX12_shift rfl (lv2 := [some (.ref 7168), some (.int (zI a)), some (.int (zI b)), some (.int (zI m)), some (.int (zI (by_ + 1))), none, none, none]) (zi_inc (a := 0) (zi_addp1 by_) _ rfl) ?_
      refine xB.run oX12_shift 1 (s := (14, [some (.ref 7168), some (.int (zI a)), some (.int (zI b)), some (.int (zI m)), some (.int (zI (by_ + 1))), none, none, none], [], [r0, r1, r2, r3, r4, r5, r6, zH (upz s7 13 by_.toNat 0) zL7 0, r8, r9])) rfl ?_
      exact ih (by_ + 1) (upz s7 13 by_.toNat 0) H K
set_option maxRecDepth 20000 in
theorem l_X12_shift_48 (r0 : List va_E) (r1 : List va_E) (r2 : List va_E) (r3 : List va_E) (r4 : List va_E) (r5 : List va_E) (r6 : List va_E) (r8 : List va_E) (r9 : List va_E) (a : Int) (b : Int) (m : Int) (by_ : Int) (k : Int) {r : Option Value} {hp1 : xH} : ∀ (uN : Nat) (q : Int) (s7 : zZ) {uX : Int × zZ}, d_X12_shift_48 a b m by_ k uN q s7 = some uX → (xBody MX12_shift 3 98 [some (.ref 7168), some (.int (zI a)), some (.int (zI b)), some (.int (zI m)), some (.long (zJ by_)), none, some (.int (zI k)), some (.int (zI uX.1))] [] ([r0, r1, r2, r3, r4, r5, r6, zH uX.2 zL7 0, r8, r9]) r hp1) → xBody MX12_shift 3 48 [some (.ref 7168), some (.int (zI a)), some (.int (zI b)), some (.int (zI m)), some (.long (zJ by_)), none, some (.int (zI k)), some (.int (zI q))] [] ([r0, r1, r2, r3, r4, r5, r6, zH s7 zL7 0, r8, r9]) r hp1 := by
  intro uN
  induction uN with
  | zero => intro q s7 uX H K; cases H
  | succ uN ih =>
    intro q s7 uX H K
    unfold d_X12_shift_48 at H
    refine xB.run oX12_shift 1 (s := (50, [some (.ref 7168), some (.int (zI a)), some (.int (zI b)), some (.int (zI m)), some (.long (zJ by_)), none, some (.int (zI k)), some (.int (zI q))], [.int (zI q)], [r0, r1, r2, r3, r4, r5, r6, zH s7 zL7 0, r8, r9])) rfl ?_
    obtain ⟨g18, H⟩ := zgd H
    have H := zif H
    refine xB.brE oX12_shift (P := q < 0) rfl (zc_lt (a := q) (b := 0) ⟨g18, by decide⟩) (fun h9 => ?_) (fun h9 => ?_)
    · have H := H.1 h9
      obtain rfl := Option.some.inj H
      exact K
    · have H := H.2 h9
      refine xB.run oX12_shift 6 (s := (65, [some (.ref 7168), some (.int (zI a)), some (.int (zI b)), some (.int (zI m)), some (.long (zJ by_)), none, some (.int (zI k)), some (.int (zI q))], [.int (zI q), .ref 7181, .int (zI q), .ref 7181], [r0, r1, r2, r3, r4, r5, r6, zH s7 zL7 0, r8, r9])) rfl ?_
      obtain ⟨g17, H⟩ := zgd H
      refine zB.lald oX12_shift (g := 7) (p := 13) (N := 5) (i := q) rfl rfl (by decide) rfl rfl (by decide) g17 ?_
      refine xB.run oX12_shift 1 (s := (67, [some (.ref 7168), some (.int (zI a)), some (.int (zI b)), some (.int (zI m)), some (.long (zJ by_)), none, some (.int (zI k)), some (.int (zI q))], [.int (zI a), .long (zJ (s7 13 q.toNat)), .int (zI q), .ref 7181], [r0, r1, r2, r3, r4, r5, r6, zH s7 zL7 0, r8, r9])) rfl ?_
      obtain ⟨g16, H⟩ := zgd H
      refine zB.opl oX12_shift rfl (zi_i2l g16) ?_
      refine zB.opl oX12_shift rfl (zj_mul (s7 13 q.toNat) a) ?_
      refine xB.run oX12_shift 1 (s := (71, [some (.ref 7168), some (.int (zI a)), some (.int (zI b)), some (.int (zI m)), some (.long (zJ by_)), none, some (.int (zI k)), some (.int (zI q))], [.int (zI q), .long (zJ ((s7 13 q.toNat) * a)), .int (zI q), .ref 7181], [r0, r1, r2, r3, r4, r5, r6, zH s7 zL7 0, r8, r9])) rfl ?_
      obtain ⟨g15, H⟩ := zgd H
      have H := zif H
      refine xB.brE oX12_shift (P := q ≤ 0) rfl (zc_le (a := q) (b := 0) ⟨g15, by decide⟩) (fun h10 => ?_) (fun h10 => ?_)
      · have H := H.1 h10
        refine xB.run oX12_shift 1 (s := (90, [some (.ref 7168), some (.int (zI a)), some (.int (zI b)), some (.int (zI m)), some (.long (zJ by_)), none, some (.int (zI k)), some (.int (zI q))], [.long (zJ 0), .long (zJ ((s7 13 q.toNat) * a)), .int (zI q), .ref 7181], [r0, r1, r2, r3, r4, r5, r6, zH s7 zL7 0, r8, r9])) rfl ?_
        refine zB.opl oX12_shift rfl (zj_sub ((s7 13 q.toNat) * a) 0) ?_
        obtain ⟨g11, H⟩ := zgd H
        refine zB.last oX12_shift (g := 7) (p := 13) (N := 5) (i := q) (hp1 := [r0, r1, r2, r3, r4, r5, r6, zH (upz s7 13 q.toNat (((s7 13 q.toNat) * a) - 0)) zL7 0, r8, r9]) rfl rfl (by decide) (by decide) rfl rfl (by decide) g11 rfl ?_
        refine zB.inc oX12_shift rfl (lv2 := [some (.ref 7168), some (.int (zI a)), some (.int (zI b)), some (.int (zI m)), some (.long (zJ by_)), none, some (.int (zI k)), some (.int (zI (q + (-1))))]) (zi_inc (a := 0) (zi_addm1 q) _ rfl) ?_
        refine xB.run oX12_shift 1 (s := (48, [some (.ref 7168), some (.int (zI a)), some (.int (zI b)), some (.int (zI m)), some (.long (zJ by_)), none, some (.int (zI k)), some (.int (zI (q + (-1))))], [], [r0, r1, r2, r3, r4, r5, r6, zH (upz s7 13 q.toNat (((s7 13 q.toNat) * a) - 0)) zL7 0, r8, r9])) rfl ?_
        exact ih (q + (-1)) (upz s7 13 q.toNat (((s7 13 q.toNat) * a) - 0)) H K
      · have H := H.2 h10
        refine xB.run oX12_shift 4 (s := (81, [some (.ref 7168), some (.int (zI a)), some (.int (zI b)), some (.int (zI m)), some (.long (zJ by_)), none, some (.int (zI k)), some (.int (zI q))], [.int (zI 1), .int (zI q), .ref 7181, .long (zJ ((s7 13 q.toNat) * a)), .int (zI q), .ref 7181], [r0, r1, r2, r3, r4, r5, r6, zH s7 zL7 0, r8, r9])) rfl ?_
        refine zB.opi oX12_shift rfl (zi_sub q 1) ?_
        obtain ⟨g14, H⟩ := zgd H
        refine zB.lald oX12_shift (g := 7) (p := 13) (N := 5) (i := q - 1) rfl rfl (by decide) rfl rfl (by decide) g14 ?_
        refine xB.run oX12_shift 1 (s := (84, [some (.ref 7168), some (.int (zI a)), some (.int (zI b)), some (.int (zI m)), some (.long (zJ by_)), none, some (.int (zI k)), some (.int (zI q))], [.int (zI b), .long (zJ (s7 13 (q - 1).toNat)), .long (zJ ((s7 13 q.toNat) * a)), .int (zI q), .ref 7181], [r0, r1, r2, r3, r4, r5, r6, zH s7 zL7 0, r8, r9])) rfl ?_
        obtain ⟨g13, H⟩ := zgd H
        refine zB.opl oX12_shift rfl (zi_i2l g13) ?_
        refine zB.opl oX12_shift rfl (zj_mul (s7 13 (q - 1).toNat) b) ?_
        refine xB.run oX12_shift 1 (s := (90, [some (.ref 7168), some (.int (zI a)), some (.int (zI b)), some (.int (zI m)), some (.long (zJ by_)), none, some (.int (zI k)), some (.int (zI q))], [.long (zJ ((s7 13 (q - 1).toNat) * b)), .long (zJ ((s7 13 q.toNat) * a)), .int (zI q), .ref 7181], [r0, r1, r2, r3, r4, r5, r6, zH s7 zL7 0, r8, r9])) rfl ?_
        refine zB.opl oX12_shift rfl (zj_sub ((s7 13 q.toNat) * a) ((s7 13 (q - 1).toNat) * b)) ?_
        obtain ⟨g12, H⟩ := zgd H
        refine zB.last oX12_shift (g := 7) (p := 13) (N := 5) (i := q) (hp1 := [r0, r1, r2, r3, r4, r5, r6, zH (upz s7 13 q.toNat (((s7 13 q.toNat) * a) - ((s7 13 (q - 1).toNat) * b))) zL7 0, r8, r9]) rfl rfl (by decide) (by decide) rfl rfl (by decide) g12 rfl ?_
        refine zB.inc oX12_shift rfl (lv2 := [some (.ref 7168), some (.int (zI a)), some (.int (zI b)), some (.int (zI m)), some (.long (zJ by_)), none, some (.int (zI k)), some (.int (zI (q + (-1))))]) (zi_inc (a := 0) (zi_addm1 q) _ rfl) ?_
        refine xB.run oX12_shift 1 (s := (48, [some (.ref 7168), some (.int (zI a)), some (.int (zI b)), some (.int (zI m)), some (.long (zJ by_)), none, some (.int (zI k)), some (.int (zI (q + (-1))))], [], [r0, r1, r2, r3, r4, r5, r6, zH (upz s7 13 q.toNat (((s7 13 q.toNat) * a) - ((s7 13 (q - 1).toNat) * b))) zL7 0, r8, r9])) rfl ?_
        exact ih (q + (-1)) (upz s7 13 q.toNat (((s7 13 q.toNat) * a) - ((s7 13 (q - 1).toNat) * b))) H K
set_option maxRecDepth 20000 in
theorem l_X12_shift_40 (r0 : List va_E) (r1 : List va_E) (r2 : List va_E) (r3 : List va_E) (r4 : List va_E) (r5 : List va_E) (r6 : List va_E) (r8 : List va_E) (r9 : List va_E) (a : Int) (b : Int) (m : Int) {r : Option Value} {hp1 : xH} : ∀ (uN : Nat) (by_ : Int) (k : Int) (s7 : zZ) {uX : Int × Int × zZ}, d_X12_shift_40 a b m uN by_ k s7 = some uX → (xBody MX12_shift 3 129 [some (.ref 7168), some (.int (zI a)), some (.int (zI b)), some (.int (zI m)), some (.long (zJ uX.1)), none, some (.int (zI uX.2.1)), none] [] ([r0, r1, r2, r3, r4, r5, r6, zH uX.2.2 zL7 0, r8, r9]) r hp1) → xBody MX12_shift 3 40 [some (.ref 7168), some (.int (zI a)), some (.int (zI b)), some (.int (zI m)), some (.long (zJ by_)), none, some (.int (zI k)), none] [] ([r0, r1, r2, r3, r4, r5, r6, zH s7 zL7 0, r8, r9]) r hp1 := by
  intro uN
  induction uN with
  | zero => intro by_ k s7 uX H K; cases H
  | succ uN ih =>
    intro by_ k s7 uX H K
    unfold d_X12_shift_40 at H
    refine xB.run oX12_shift 1 (s := (42, [some (.ref 7168), some (.int (zI a)), some (.int (zI b)), some (.int (zI m)), some (.long (zJ by_)), none, some (.int (zI k)), none], [.int (zI k)], [r0, r1, r2, r3, r4, r5, r6, zH s7 zL7 0, r8, r9])) rfl ?_
    obtain ⟨g24, H⟩ := zgd H
    have H := zif H
    refine xB.brE oX12_shift (P := k < 0) rfl (zc_lt (a := k) (b := 0) ⟨g24, by decide⟩) (fun h8 => ?_) (fun h8 => ?_)
    · have H := H.1 h8
      obtain rfl := Option.some.inj H
      exact K
    · have H := H.2 h8
      refine xB.run oX12_shift 2 (s := (48, [some (.ref 7168), some (.int (zI a)), some (.int (zI b)), some (.int (zI m)), some (.long (zJ by_)), none, some (.int (zI k)), some (.int (zI 4))], [], [r0, r1, r2, r3, r4, r5, r6, zH s7 zL7 0, r8, r9])) rfl ?_
      obtain ⟨y19, e20, H⟩ := zbd H
      refine l_X12_shift_48 r0 r1 r2 r3 r4 r5 r6 r8 r9 a b m by_ k _ 4 s7 e20 ?_
      refine xB.run oX12_shift 4 (s := (104, [some (.ref 7168), some (.int (zI a)), some (.int (zI b)), some (.int (zI m)), some (.long (zJ by_)), none, some (.int (zI k)), some (.int (zI y19.1))], [.int (zI 0), .ref 7181, .int (zI 0), .ref 7181], [r0, r1, r2, r3, r4, r5, r6, zH y19.2 zL7 0, r8, r9])) rfl ?_
      refine zB.lald oX12_shift (g := 7) (p := 13) (N := 5) (i := 0) rfl rfl (by decide) rfl rfl (by decide) (by decide) ?_
      refine xB.run oX12_shift 2 (s := (108, [some (.ref 7168), some (.int (zI a)), some (.int (zI b)), some (.int (zI m)), some (.long (zJ by_)), none, some (.int (zI k)), some (.int (zI y19.1))], [.int (zI k), .ref 7168, .long (zJ (y19.2 13 0)), .int (zI 0), .ref 7181], [r0, r1, r2, r3, r4, r5, r6, zH y19.2 zL7 0, r8, r9])) rfl ?_
      obtain ⟨y21, e22, H⟩ := zbd H
      refine xB.call oX12_shift (M2 := MX12_coefficient) rfl rfl ((t_X12_coefficient r0 r1 r2 r3 r4 r5 r6 y19.2 r8 r9 k e22).deep (by decide : 0 ≤ 2)) ?_
      show xBody MX12_shift 3 111 [some (.ref 7168), some (.int (zI a)), some (.int (zI b)), some (.int (zI m)), some (.long (zJ by_)), none, some (.int (zI k)), some (.int (zI y19.1))] [.long (zJ y21), .long (zJ (y19.2 13 0)), .int (zI 0), .ref 7181] ([r0, r1, r2, r3, r4, r5, r6, zH y19.2 zL7 0, r8, r9]) _ _
      refine xB.run oX12_shift 1 (s := (113, [some (.ref 7168), some (.int (zI a)), some (.int (zI b)), some (.int (zI m)), some (.long (zJ by_)), none, some (.int (zI k)), some (.int (zI y19.1))], [.long (zJ by_), .long (zJ y21), .long (zJ (y19.2 13 0)), .int (zI 0), .ref 7181], [r0, r1, r2, r3, r4, r5, r6, zH y19.2 zL7 0, r8, r9])) rfl ?_
      refine zB.opl oX12_shift rfl (zj_mul y21 by_) ?_
      refine zB.opl oX12_shift rfl (zj_add (y19.2 13 0) (y21 * by_)) ?_
      refine zB.last oX12_shift (g := 7) (p := 13) (N := 5) (i := 0) (hp1 := [r0, r1, r2, r3, r4, r5, r6, zH (upz y19.2 13 0 ((y19.2 13 0) + (y21 * by_))) zL7 0, r8, r9]) rfl rfl (by decide) (by decide) rfl rfl (by decide) (by decide) rfl ?_
      refine xB.run oX12_shift 2 (s := (119, [some (.ref 7168), some (.int (zI a)), some (.int (zI b)), some (.int (zI m)), some (.long (zJ by_)), none, some (.int (zI k)), some (.int (zI y19.1))], [.int (zI b), .long (zJ by_)], [r0, r1, r2, r3, r4, r5, r6, zH (upz y19.2 13 0 ((y19.2 13 0) + (y21 * by_))) zL7 0, r8, r9])) rfl ?_
      obtain ⟨g23, H⟩ := zgd H
      refine zB.opl oX12_shift rfl (zi_i2l g23) ?_
      refine zB.opl oX12_shift rfl (zj_mul by_ b) ?_
      refine xB.run oX12_shift 1 (s := (123, [some (.ref 7168), some (.int (zI a)), some (.int (zI b)), some (.int (zI m)), some (.long (zJ (by_ * b))), none, some (.int (zI k)), some (.int (zI y19.1))], [], [r0, r1, r2, r3, r4, r5, r6, zH (upz y19.2 13 0 ((y19.2 13 0) + (y21 * by_))) zL7 0, r8, r9])) rfl ?_
      refine zB.inc oX12_shift rfl (lv2 := [some (.ref 7168), some (.int (zI a)), some (.int (zI b)), some (.int (zI m)), some (.long (zJ (by_ * b))), none, some (.int (zI (k + (-1)))), some (.int (zI y19.1))]) (zi_inc (a := 0) (zi_addm1 k) _ rfl) ?_
      refine xB.run oX12_shift 1 (s := (40, [some (.ref 7168), some (.int (zI a)), some (.int (zI b)), some (.int (zI m)), some (.long (zJ (by_ * b))), none, some (.int (zI (k + (-1)))), some (.int (zI y19.1))], [], [r0, r1, r2, r3, r4, r5, r6, zH (upz y19.2 13 0 ((y19.2 13 0) + (y21 * by_))) zL7 0, r8, r9])) rfl ?_
      refine xB.forget (lv1 := [some (.ref 7168), some (.int (zI a)), some (.int (zI b)), some (.int (zI m)), some (.long (zJ (by_ * b))), none, some (.int (zI (k + (-1)))), none]) (xle_same (xle_same (xle_same (xle_same (xle_same (xle_same (xle_same (xle_none (xle_nil))))))))) ?_
      exact ih (by_ * b) (k + (-1)) (upz y19.2 13 0 ((y19.2 13 0) + (y21 * by_))) H K
set_option maxRecDepth 20000 in
theorem t_X12_shift (r0 : List va_E) (r1 : List va_E) (r2 : List va_E) (r3 : List va_E) (r4 : List va_E) (r5 : List va_E) (r6 : List va_E) (s7 : zZ) (r8 : List va_E) (r9 : List va_E) (a : Int) (b : Int) {rr : zZ} (H : d_X12_shift s7 a b = some rr) : xC MX12_shift 3 [.ref 7168, .int (zI a), .int (zI b)] ([r0, r1, r2, r3, r4, r5, r6, zH s7 zL7 0, r8, r9]) (none) ([r0, r1, r2, r3, r4, r5, r6, zH rr zL7 0, r8, r9]) := by
  refine ⟨Nat.le_of_ble_eq_true rfl, ?_⟩
  show xBody MX12_shift 3 0 [some (.ref 7168), some (.int (zI a)), some (.int (zI b)), none, none, none, none, none] [] ([r0, r1, r2, r3, r4, r5, r6, zH s7 zL7 0, r8, r9]) _ _
  unfold d_X12_shift at H
  refine xB.run oX12_shift 1 (s := (1, [some (.ref 7168), some (.int (zI a)), some (.int (zI b)), none, none, none, none, none], [.ref 7168], [r0, r1, r2, r3, r4, r5, r6, zH s7 zL7 0, r8, r9])) rfl ?_
  obtain ⟨y1, e2, H⟩ := zbd H
  refine xB.call oX12_shift (M2 := MX12_findPoly) rfl rfl ((t_X12_findPoly r0 r1 r2 r3 r4 r5 r6 s7 r8 r9  e2).deep (by decide : 2 ≤ 2)) ?_
  show xBody MX12_shift 3 4 [some (.ref 7168), some (.int (zI a)), some (.int (zI b)), none, none, none, none, none] [] ([r0, r1, r2, r3, r4, r5, r6, zH y1 zL7 0, r8, r9]) _ _
  refine xB.run oX12_shift 3 (s := (9, [some (.ref 7168), some (.int (zI a)), some (.int (zI b)), none, none, none, none, none], [.int (zI 1), .int (zI (y1 0 14))], [r0, r1, r2, r3, r4, r5, r6, zH y1 zL7 0, r8, r9])) rfl ?_
  refine zB.opi oX12_shift rfl (zi_sub (y1 0 14) 1) ?_
  refine xB.run oX12_shift 3 (s := (14, [some (.ref 7168), some (.int (zI a)), some (.int (zI b)), some (.int (zI ((y1 0 14) - 1))), some (.int (zI 0)), none, none, none], [], [r0, r1, r2, r3, r4, r5, r6, zH y1 zL7 0, r8, r9])) rfl ?_
  obtain ⟨y6, e7, H⟩ := zbd H
  refine l_X12_shift_14 r0 r1 r2 r3 r4 r5 r6 r8 r9 a b ((y1 0 14) - 1) _ 0 y1 e7 ?_
  refine xB.run oX12_shift 4 (s := (40, [some (.ref 7168), some (.int (zI a)), some (.int (zI b)), some (.int (zI ((y1 0 14) - 1))), some (.long (zJ 1)), none, some (.int (zI ((y1 0 14) - 1))), none], [], [r0, r1, r2, r3, r4, r5, r6, zH y6.2 zL7 0, r8, r9])) rfl ?_
  obtain ⟨y25, e26, H⟩ := zbd H
  refine l_X12_shift_40 r0 r1 r2 r3 r4 r5 r6 r8 r9 a b ((y1 0 14) - 1) _ 1 ((y1 0 14) - 1) y6.2 e26 ?_
  obtain rfl := Option.some.inj H
  exact xB.ret oX12_shift (r1 := none) rfl rfl rfl
def d_X12_foldsOf_14 (s7 : zZ) (a : Int) (b : Int) : Nat → Int → Int → Int → Option (Int × Int × Int)
  | 0, _, _, _ => none
  | uN + 1, cn, last, k => if (zr k ∧ zr (s7 0 14)) then (if (s7 0 14) ≤ k then some (cn, last, k) else (if (0 ≤ k ∧ k < 5) then (if (zrl (s7 13 k.toNat)) then (if (s7 13 k.toNat) ≠ 0 then (if (zrl last) then (if last = 0 then (if (0 ≤ k ∧ k < 5) then (d_X12_foldsOf_14 s7 a b uN (cn + 0) (s7 13 k.toNat) (k + 1)) else none) else (if (zrl last) then (if last ≤ 0 then (if (0 ≤ k ∧ k < 5) then (if (zrl (s7 13 k.toNat)) then (if (s7 13 k.toNat) ≤ 0 then (if (0 ≤ k ∧ k < 5) then (d_X12_foldsOf_14 s7 a b uN (cn + 0) (s7 13 k.toNat) (k + 1)) else none) else (if (0 ≤ k ∧ k < 5) then (d_X12_foldsOf_14 s7 a b uN (cn + 1) (s7 13 k.toNat) (k + 1)) else none)) else none) else none) else (if (0 ≤ k ∧ k < 5) then (if (zrl (s7 13 k.toNat)) then (if (s7 13 k.toNat) ≤ 0 then (if (0 ≤ k ∧ k < 5) then (d_X12_foldsOf_14 s7 a b uN (cn + 1) (s7 13 k.toNat) (k + 1)) else none) else (if (0 ≤ k ∧ k < 5) then (d_X12_foldsOf_14 s7 a b uN (cn + 0) (s7 13 k.toNat) (k + 1)) else none)) else none) else none)) else none)) else none) else (d_X12_foldsOf_14 s7 a b uN cn last (k + 1))) else none) else none)) else none
def d_X12_foldsOf (s7 : zZ) (a : Int) (b : Int) : Option (Int × zZ) := (d_X12_shift s7 a b).bind fun y1 => (d_X12_foldsOf_14 y1 a b zF 0 0 0).bind fun y23 => some (y23.1, y1)
set_option maxRecDepth 20000 in
theorem l_X12_foldsOf_14 (r0 : List va_E) (r1 : List va_E) (r2 : List va_E) (r3 : List va_E) (r4 : List va_E) (r5 : List va_E) (r6 : List va_E) (s7 : zZ) (r8 : List va_E) (r9 : List va_E) (a : Int) (b : Int) {r : Option Value} {hp1 : xH} : ∀ (uN : Nat) (cn : Int) (last : Int) (k : Int) {uX : Int × Int × Int}, d_X12_foldsOf_14 s7 a b uN cn last k = some uX → (xBody MX12_foldsOf 4 100 [some (.ref 7168), some (.int (zI a)), some (.int (zI b)), some (.int (zI uX.1)), some (.long (zJ uX.2.1)), none, some (.int (zI uX.2.2))] [] ([r0, r1, r2, r3, r4, r5, r6, zH s7 zL7 0, r8, r9]) r hp1) → xBody MX12_foldsOf 4 14 [some (.ref 7168), some (.int (zI a)), some (.int (zI b)), some (.int (zI cn)), some (.long (zJ last)), none, some (.int (zI k))] [] ([r0, r1, r2, r3, r4, r5, r6, zH s7 zL7 0, r8, r9]) r hp1 := by
  intro uN
  induction uN with
  | zero => intro cn last k uX H K; cases H
  | succ uN ih =>
    intro cn last k uX H K
    unfold d_X12_foldsOf_14 at H
    refine xB.run oX12_foldsOf 3 (s := (20, [some (.ref 7168), some (.int (zI a)), some (.int (zI b)), some (.int (zI cn)), some (.long (zJ last)), none, some (.int (zI k))], [.int (zI (s7 0 14)), .int (zI k)], [r0, r1, r2, r3, r4, r5, r6, zH s7 zL7 0, r8, r9])) rfl ?_
    obtain ⟨g22, H⟩ := zgd H
    have H := zif H
    refine xB.brE oX12_foldsOf (P := (s7 0 14) ≤ k) rfl (zc_ge (a := k) (b := s7 0 14) g22) (fun h3 => ?_) (fun h3 => ?_)
    · have H := H.1 h3
      obtain rfl := Option.some.inj H
      exact K
    · have H := H.2 h3
      refine xB.run oX12_foldsOf 3 (s := (29, [some (.ref 7168), some (.int (zI a)), some (.int (zI b)), some (.int (zI cn)), some (.long (zJ last)), none, some (.int (zI k))], [.int (zI k), .ref 7181], [r0, r1, r2, r3, r4, r5, r6, zH s7 zL7 0, r8, r9])) rfl ?_
      obtain ⟨g21, H⟩ := zgd H
      refine zB.lald oX12_foldsOf (g := 7) (p := 13) (N := 5) (i := k) rfl rfl (by decide) rfl rfl (by decide) g21 ?_
      refine xB.run oX12_foldsOf 2 (s := (32, [some (.ref 7168), some (.int (zI a)), some (.int (zI b)), some (.int (zI cn)), some (.long (zJ last)), none, some (.int (zI k))], [.int (lg_cmp (zJ (s7 13 k.toNat)) (zJ 0))], [r0, r1, r2, r3, r4, r5, r6, zH s7 zL7 0, r8, r9])) rfl ?_
      obtain ⟨g20, H⟩ := zgd H
      have H := zif H
      refine xB.brE oX12_foldsOf (P := (s7 13 k.toNat) ≠ 0) rfl (zl_ne (a := s7 13 k.toNat) (b := 0) ⟨g20, by decide⟩) (fun h4 => ?_) (fun h4 => ?_)
      · have H := H.1 h4
        refine xB.run oX12_foldsOf 4 (s := (43, [some (.ref 7168), some (.int (zI a)), some (.int (zI b)), some (.int (zI cn)), some (.long (zJ last)), none, some (.int (zI k))], [.int (lg_cmp (zJ last) (zJ 0)), .int (zI cn)], [r0, r1, r2, r3, r4, r5, r6, zH s7 zL7 0, r8, r9])) rfl ?_
        obtain ⟨g19, H⟩ := zgd H
        have H := zif H
        refine xB.brE oX12_foldsOf (P := last = 0) rfl (zl_eq (a := last) (b := 0) ⟨g19, by decide⟩) (fun h5 => ?_) (fun h5 => ?_)
        · have H := H.1 h5
          refine xB.run oX12_foldsOf 1 (s := (83, [some (.ref 7168), some (.int (zI a)), some (.int (zI b)), some (.int (zI cn)), some (.long (zJ last)), none, some (.int (zI k))], [.int (zI 0), .int (zI cn)], [r0, r1, r2, r3, r4, r5, r6, zH s7 zL7 0, r8, r9])) rfl ?_
          refine zB.opi oX12_foldsOf rfl (zi_add cn 0) ?_
          refine xB.run oX12_foldsOf 4 (s := (91, [some (.ref 7168), some (.int (zI a)), some (.int (zI b)), some (.int (zI (cn + 0))), some (.long (zJ last)), none, some (.int (zI k))], [.int (zI k), .ref 7181], [r0, r1, r2, r3, r4, r5, r6, zH s7 zL7 0, r8, r9])) rfl ?_
          obtain ⟨g6, H⟩ := zgd H
          refine zB.lald oX12_foldsOf (g := 7) (p := 13) (N := 5) (i := k) rfl rfl (by decide) rfl rfl (by decide) g6 ?_
          refine xB.run oX12_foldsOf 1 (s := (94, [some (.ref 7168), some (.int (zI a)), some (.int (zI b)), some (.int (zI (cn + 0))), some (.long (zJ (s7 13 k.toNat))), none, some (.int (zI k))], [], [r0, r1, r2, r3, r4, r5, r6, zH s7 zL7 0, r8, r9])) rfl ?_
          refine zB.inc oX12_foldsOf rfl (lv2 := [some (.ref 7168), some (.int (zI a)), some (.int (zI b)), some (.int (zI (cn + 0))), some (.long (zJ (s7 13 k.toNat))), none, some (.int (zI (k + 1)))]) (zi_inc (a := 0) (zi_addp1 k) _ rfl) ?_
          refine xB.run oX12_foldsOf 1 (s := (14, [some (.ref 7168), some (.int (zI a)), some (.int (zI b)), some (.int (zI (cn + 0))), some (.long (zJ (s7 13 k.toNat))), none, some (.int (zI (k + 1)))], [], [r0, r1, r2, r3, r4, r5, r6, zH s7 zL7 0, r8, r9])) rfl ?_
          exact ih (cn + 0) (s7 13 k.toNat) (k + 1) H K
        · have H := H.2 h5
          refine xB.run oX12_foldsOf 3 (s := (50, [some (.ref 7168), some (.int (zI a)), some (.int (zI b)), some (.int (zI cn)), some (.long (zJ last)), none, some (.int (zI k))], [.int (lg_cmp (zJ last) (zJ 0)), .int (zI cn)], [r0, r1, r2, r3, r4, r5, r6, zH s7 zL7 0, r8, r9])) rfl ?_
          obtain ⟨g18, H⟩ := zgd H
          have H := zif H
          refine xB.brE oX12_foldsOf (P := last ≤ 0) rfl (zl_le (a := last) (b := 0) ⟨g18, by decide⟩) (fun h7 => ?_) (fun h7 => ?_)
          · have H := H.1 h7
            refine xB.run oX12_foldsOf 4 (s := (64, [some (.ref 7168), some (.int (zI a)), some (.int (zI b)), some (.int (zI cn)), some (.long (zJ last)), none, some (.int (zI k))], [.int (zI k), .ref 7181, .int (zI 0), .int (zI cn)], [r0, r1, r2, r3, r4, r5, r6, zH s7 zL7 0, r8, r9])) rfl ?_
            obtain ⟨g12, H⟩ := zgd H
            refine zB.lald oX12_foldsOf (g := 7) (p := 13) (N := 5) (i := k) rfl rfl (by decide) rfl rfl (by decide) g12 ?_
            refine xB.run oX12_foldsOf 2 (s := (67, [some (.ref 7168), some (.int (zI a)), some (.int (zI b)), some (.int (zI cn)), some (.long (zJ last)), none, some (.int (zI k))], [.int (lg_cmp (zJ (s7 13 k.toNat)) (zJ 0)), .int (zI 0), .int (zI cn)], [r0, r1, r2, r3, r4, r5, r6, zH s7 zL7 0, r8, r9])) rfl ?_
            obtain ⟨g11, H⟩ := zgd H
            have H := zif H
            refine xB.brE oX12_foldsOf (P := (s7 13 k.toNat) ≤ 0) rfl (zl_le (a := s7 13 k.toNat) (b := 0) ⟨g11, by decide⟩) (fun h8 => ?_) (fun h8 => ?_)
            · have H := H.1 h8
              refine xB.run oX12_foldsOf 3 (s := (83, [some (.ref 7168), some (.int (zI a)), some (.int (zI b)), some (.int (zI cn)), some (.long (zJ last)), none, some (.int (zI k))], [.int (zI 0), .int (zI cn)], [r0, r1, r2, r3, r4, r5, r6, zH s7 zL7 0, r8, r9])) rfl ?_
              refine zB.opi oX12_foldsOf rfl (zi_add cn 0) ?_
              refine xB.run oX12_foldsOf 4 (s := (91, [some (.ref 7168), some (.int (zI a)), some (.int (zI b)), some (.int (zI (cn + 0))), some (.long (zJ last)), none, some (.int (zI k))], [.int (zI k), .ref 7181], [r0, r1, r2, r3, r4, r5, r6, zH s7 zL7 0, r8, r9])) rfl ?_
              obtain ⟨g9, H⟩ := zgd H
              refine zB.lald oX12_foldsOf (g := 7) (p := 13) (N := 5) (i := k) rfl rfl (by decide) rfl rfl (by decide) g9 ?_
              refine xB.run oX12_foldsOf 1 (s := (94, [some (.ref 7168), some (.int (zI a)), some (.int (zI b)), some (.int (zI (cn + 0))), some (.long (zJ (s7 13 k.toNat))), none, some (.int (zI k))], [], [r0, r1, r2, r3, r4, r5, r6, zH s7 zL7 0, r8, r9])) rfl ?_
              refine zB.inc oX12_foldsOf rfl (lv2 := [some (.ref 7168), some (.int (zI a)), some (.int (zI b)), some (.int (zI (cn + 0))), some (.long (zJ (s7 13 k.toNat))), none, some (.int (zI (k + 1)))]) (zi_inc (a := 0) (zi_addp1 k) _ rfl) ?_
              refine xB.run oX12_foldsOf 1 (s := (14, [some (.ref 7168), some (.int (zI a)), some (.int (zI b)), some (.int (zI (cn + 0))), some (.long (zJ (s7 13 k.toNat))), none, some (.int (zI (k + 1)))], [], [r0, r1, r2, r3, r4, r5, r6, zH s7 zL7 0, r8, r9])) rfl ?_
              exact ih (cn + 0) (s7 13 k.toNat) (k + 1) H K
            · have H := H.2 h8
              refine xB.run oX12_foldsOf 5 (s := (83, [some (.ref 7168), some (.int (zI a)), some (.int (zI b)), some (.int (zI cn)), some (.long (zJ last)), none, some (.int (zI k))], [.int (zI 1), .int (zI cn)], [r0, r1, r2, r3, r4, r5, r6, zH s7 zL7 0, r8, r9])) rfl ?_
              refine zB.opi oX12_foldsOf rfl (zi_add cn 1) ?_
              refine xB.run oX12_foldsOf 4 (s := (91, [some (.ref 7168), some (.int (zI a)), some (.int (zI b)), some (.int (zI (cn + 1))), some (.long (zJ last)), none, some (.int (zI k))], [.int (zI k), .ref 7181], [r0, r1, r2, r3, r4, r5, r6, zH s7 zL7 0, r8, r9])) rfl ?_
              obtain ⟨g10, H⟩ := zgd H
              refine zB.lald oX12_foldsOf (g := 7) (p := 13) (N := 5) (i := k) rfl rfl (by decide) rfl rfl (by decide) g10 ?_
              refine xB.run oX12_foldsOf 1 (s := (94, [some (.ref 7168), some (.int (zI a)), some (.int (zI b)), some (.int (zI (cn + 1))), some (.long (zJ (s7 13 k.toNat))), none, some (.int (zI k))], [], [r0, r1, r2, r3, r4, r5, r6, zH s7 zL7 0, r8, r9])) rfl ?_
              refine zB.inc oX12_foldsOf rfl (lv2 := [some (.ref 7168), some (.int (zI a)), some (.int (zI b)), some (.int (zI (cn + 1))), some (.long (zJ (s7 13 k.toNat))), none, some (.int (zI (k + 1)))]) (zi_inc (a := 0) (zi_addp1 k) _ rfl) ?_
              refine xB.run oX12_foldsOf 1 (s := (14, [some (.ref 7168), some (.int (zI a)), some (.int (zI b)), some (.int (zI (cn + 1))), some (.long (zJ (s7 13 k.toNat))), none, some (.int (zI (k + 1)))], [], [r0, r1, r2, r3, r4, r5, r6, zH s7 zL7 0, r8, r9])) rfl ?_
              exact ih (cn + 1) (s7 13 k.toNat) (k + 1) H K
          · have H := H.2 h7
            refine xB.run oX12_foldsOf 5 (s := (64, [some (.ref 7168), some (.int (zI a)), some (.int (zI b)), some (.int (zI cn)), some (.long (zJ last)), none, some (.int (zI k))], [.int (zI k), .ref 7181, .int (zI 1), .int (zI cn)], [r0, r1, r2, r3, r4, r5, r6, zH s7 zL7 0, r8, r9])) rfl ?_
            obtain ⟨g17, H⟩ := zgd H
            refine zB.lald oX12_foldsOf (g := 7) (p := 13) (N := 5) (i := k) rfl rfl (by decide) rfl rfl (by decide) g17 ?_
            refine xB.run oX12_foldsOf 2 (s := (67, [some (.ref 7168), some (.int (zI a)), some (.int (zI b)), some (.int (zI cn)), some (.long (zJ last)), none, some (.int (zI k))], [.int (lg_cmp (zJ (s7 13 k.toNat)) (zJ 0)), .int (zI 1), .int (zI cn)], [r0, r1, r2, r3, r4, r5, r6, zH s7 zL7 0, r8, r9])) rfl ?_
            obtain ⟨g16, H⟩ := zgd H
            have H := zif H
            refine xB.brE oX12_foldsOf (P := (s7 13 k.toNat) ≤ 0) rfl (zl_le (a := s7 13 k.toNat) (b := 0) ⟨g16, by decide⟩) (fun h13 => ?_) (fun h13 => ?_)
            · have H := H.1 h13
              refine xB.run oX12_foldsOf 4 (s := (83, [some (.ref 7168), some (.int (zI a)), some (.int (zI b)), some (.int (zI cn)), some (.long (zJ last)), none, some (.int (zI k))], [.int (zI 1), .int (zI cn)], [r0, r1, r2, r3, r4, r5, r6, zH s7 zL7 0, r8, r9])) rfl ?_
              refine zB.opi oX12_foldsOf rfl (zi_add cn 1) ?_
              refine xB.run oX12_foldsOf 4 (s := (91, [some (.ref 7168), some (.int (zI a)), some (.int (zI b)), some (.int (zI (cn + 1))), some (.long (zJ last)), none, some (.int (zI k))], [.int (zI k), .ref 7181], [r0, r1, r2, r3, r4, r5, r6, zH s7 zL7 0, r8, r9])) rfl ?_
              obtain ⟨g14, H⟩ := zgd H
              refine zB.lald oX12_foldsOf (g := 7) (p := 13) (N := 5) (i := k) rfl rfl (by decide) rfl rfl (by decide) g14 ?_
              refine xB.run oX12_foldsOf 1 (s := (94, [some (.ref 7168), some (.int (zI a)), some (.int (zI b)), some (.int (zI (cn + 1))), some (.long (zJ (s7 13 k.toNat))), none, some (.int (zI k))], [], [r0, r1, r2, r3, r4, r5, r6, zH s7 zL7 0, r8, r9])) rfl ?_
              refine zB.inc oX12_foldsOf rfl (lv2 := [some (.ref 7168), some (.int (zI a)), some (.int (zI b)), some (.int (zI (cn + 1))), some (.long (zJ (s7 13 k.toNat))), none, some (.int (zI (k + 1)))]) (zi_inc (a := 0) (zi_addp1 k) _ rfl) ?_
              refine xB.run oX12_foldsOf 1 (s := (14, [some (.ref 7168), some (.int (zI a)), some (.int (zI b)), some (.int (zI (cn + 1))), some (.long (zJ (s7 13 k.toNat))), none, some (.int (zI (k + 1)))], [], [r0, r1, r2, r3, r4, r5, r6, zH s7 zL7 0, r8, r9])) rfl ?_
              exact ih (cn + 1) (s7 13 k.toNat) (k + 1) H K
            · have H := H.2 h13
              refine xB.run oX12_foldsOf 4 (s := (83, [some (.ref 7168), some (.int (zI a)), some (.int (zI b)), some (.int (zI cn)), some (.long (zJ last)), none, some (.int (zI k))], [.int (zI 0), .int (zI cn)], [r0, r1, r2, r3, r4, r5, r6, zH s7 zL7 0, r8, r9])) rfl ?_
              refine zB.opi oX12_foldsOf rfl (zi_add cn 0) ?_
              refine xB.run oX12_foldsOf 4 (s := (91, [some (.ref 7168), some (.int (zI a)), some (.int (zI b)), some (.int (zI (cn + 0))), some (.long (zJ last)), none, some (.int (zI k))], [.int (zI k), .ref 7181], [r0, r1, r2, r3, r4, r5, r6, zH s7 zL7 0, r8, r9])) rfl ?_
              obtain ⟨g15, H⟩ := zgd H
              refine zB.lald oX12_foldsOf (g := 7) (p := 13) (N := 5) (i := k) rfl rfl (by decide) rfl rfl (by decide) g15 ?_
              refine xB.run oX12_foldsOf 1 (s := (94, [some (.ref 7168), some (.int (zI a)), some (.int (zI b)), some (.int (zI (cn + 0))), some (.long (zJ (s7 13 k.toNat))), none, some (.int (zI k))], [], [r0, r1, r2, r3, r4, r5, r6, zH s7 zL7 0, r8, r9])) rfl ?_
              refine zB.inc oX12_foldsOf rfl (lv2 := [some (.ref 7168), some (.int (zI a)), some (.int (zI b)), some (.int (zI (cn + 0))), some (.long (zJ (s7 13 k.toNat))), none, some (.int (zI (k + 1)))]) (zi_inc (a := 0) (zi_addp1 k) _ rfl) ?_
              refine xB.run oX12_foldsOf 1 (s := (14, [some (.ref 7168), some (.int (zI a)), some (.int (zI b)), some (.int (zI (cn + 0))), some (.long (zJ (s7 13 k.toNat))), none, some (.int (zI (k + 1)))], [], [r0, r1, r2, r3, r4, r5, r6, zH s7 zL7 0, r8, r9])) rfl ?_
              exact ih (cn + 0) (s7 13 k.toNat) (k + 1) H K
      · have H := H.2 h4
        refine xB.run oX12_foldsOf 1 (s := (94, [some (.ref 7168), some (.int (zI a)), some (.int (zI b)), some (.int (zI cn)), some (.long (zJ last)), none, some (.int (zI k))], [], [r0, r1, r2, r3, r4, r5, r6, zH s7 zL7 0, r8, r9])) rfl ?_
        refine zB.inc oX12_foldsOf rfl (lv2 := [some (.ref 7168), some (.int (zI a)), some (.int (zI b)), some (.int (zI cn)), some (.long (zJ last)), none, some (.int (zI (k + 1)))]) (zi_inc (a := 0) (zi_addp1 k) _ rfl) ?_
        refine xB.run oX12_foldsOf 1 (s := (14, [some (.ref 7168), some (.int (zI a)), some (.int (zI b)), some (.int (zI cn)), some (.long (zJ last)), none, some (.int (zI (k + 1)))], [], [r0, r1, r2, r3, r4, r5, r6, zH s7 zL7 0, r8, r9])) rfl ?_
        exact ih cn last (k + 1) H K
set_option maxRecDepth 20000 in
theorem t_X12_foldsOf (r0 : List va_E) (r1 : List va_E) (r2 : List va_E) (r3 : List va_E) (r4 : List va_E) (r5 : List va_E) (r6 : List va_E) (s7 : zZ) (r8 : List va_E) (r9 : List va_E) (a : Int) (b : Int) {rr : Int × zZ} (H : d_X12_foldsOf s7 a b = some rr) : xC MX12_foldsOf 4 [.ref 7168, .int (zI a), .int (zI b)] ([r0, r1, r2, r3, r4, r5, r6, zH s7 zL7 0, r8, r9]) (some (.int (zI rr.1))) ([r0, r1, r2, r3, r4, r5, r6, zH rr.2 zL7 0, r8, r9]) := by
  refine ⟨Nat.le_of_ble_eq_true rfl, ?_⟩
  show xBody MX12_foldsOf 4 0 [some (.ref 7168), some (.int (zI a)), some (.int (zI b)), none, none, none, none] [] ([r0, r1, r2, r3, r4, r5, r6, zH s7 zL7 0, r8, r9]) _ _
  unfold d_X12_foldsOf at H
  refine xB.run oX12_foldsOf 3 (s := (3, [some (.ref 7168), some (.int (zI a)), some (.int (zI b)), none, none, none, none], [.int (zI b), .int (zI a), .ref 7168], [r0, r1, r2, r3, r4, r5, r6, zH s7 zL7 0, r8, r9])) rfl ?_
  obtain ⟨y1, e2, H⟩ := zbd H
  refine xB.call oX12_foldsOf (M2 := MX12_shift) rfl rfl ((t_X12_shift r0 r1 r2 r3 r4 r5 r6 s7 r8 r9 a b e2).deep (by decide : 3 ≤ 3)) ?_
  show xBody MX12_foldsOf 4 6 [some (.ref 7168), some (.int (zI a)), some (.int (zI b)), none, none, none, none] [] ([r0, r1, r2, r3, r4, r5, r6, zH y1 zL7 0, r8, r9]) _ _
  refine xB.run oX12_foldsOf 6 (s := (14, [some (.ref 7168), some (.int (zI a)), some (.int (zI b)), some (.int (zI 0)), some (.long (zJ 0)), none, some (.int (zI 0))], [], [r0, r1, r2, r3, r4, r5, r6, zH y1 zL7 0, r8, r9])) rfl ?_
  obtain ⟨y23, e24, H⟩ := zbd H
  refine l_X12_foldsOf_14 r0 r1 r2 r3 r4 r5 r6 y1 r8 r9 a b _ 0 0 0 e24 ?_
  refine xB.run oX12_foldsOf 1 (s := (101, [some (.ref 7168), some (.int (zI a)), some (.int (zI b)), some (.int (zI y23.1)), some (.long (zJ y23.2.1)), none, some (.int (zI y23.2.2))], [.int (zI y23.1)], [r0, r1, r2, r3, r4, r5, r6, zH y1 zL7 0, r8, r9])) rfl ?_
  obtain rfl := Option.some.inj H
  exact xB.ret oX12_foldsOf (r1 := some (.int (zI y23.1))) rfl rfl rfl
def d_X12_folds (s7 : zZ) (a : Int) (b : Int) : Option (Int × zZ) := (d_X12_isShare a b).bind fun y1 => if (zr y1) then (if y1 = 0 then some ((-2), s7) else ((d_X12_foldsOf s7 a b).bind fun y4 => some (y4.1, y4.2))) else none
set_option maxRecDepth 20000 in
theorem t_X12_folds (r0 : List va_E) (r1 : List va_E) (r2 : List va_E) (r3 : List va_E) (r4 : List va_E) (r5 : List va_E) (r6 : List va_E) (s7 : zZ) (r8 : List va_E) (r9 : List va_E) (a : Int) (b : Int) {rr : Int × zZ} (H : d_X12_folds s7 a b = some rr) : xC MX12_folds 5 [.ref 7168, .int (zI a), .int (zI b)] ([r0, r1, r2, r3, r4, r5, r6, zH s7 zL7 0, r8, r9]) (some (.int (zI rr.1))) ([r0, r1, r2, r3, r4, r5, r6, zH rr.2 zL7 0, r8, r9]) := by
  refine ⟨Nat.le_of_ble_eq_true rfl, ?_⟩
  show xBody MX12_folds 5 0 [some (.ref 7168), some (.int (zI a)), some (.int (zI b))] [] ([r0, r1, r2, r3, r4, r5, r6, zH s7 zL7 0, r8, r9]) _ _
  unfold d_X12_folds at H
  refine xB.run oX12_folds 2 (s := (2, [some (.ref 7168), some (.int (zI a)), some (.int (zI b))], [.int (zI b), .int (zI a)], [r0, r1, r2, r3, r4, r5, r6, zH s7 zL7 0, r8, r9])) rfl ?_
  obtain ⟨y1, e2, H⟩ := zbd H
  refine xB.call oX12_folds (M2 := MX12_isShare) rfl rfl ((t_X12_isShare r0 r1 r2 r3 r4 r5 r6 (zH s7 zL7 0) r8 r9 a b e2).deep (by decide : 1 ≤ 4)) ?_
  show xBody MX12_folds 5 5 [some (.ref 7168), some (.int (zI a)), some (.int (zI b))] [.int (zI y1)] ([r0, r1, r2, r3, r4, r5, r6, zH s7 zL7 0, r8, r9]) _ _
  obtain ⟨g6, H⟩ := zgd H
  have H := zif H
  refine xB.brE oX12_folds (P := y1 = 0) rfl (zc_eq (a := y1) (b := 0) ⟨g6, by decide⟩) (fun h3 => ?_) (fun h3 => ?_)
  · have H := H.1 h3
    refine xB.run oX12_folds 1 (s := (19, [some (.ref 7168), some (.int (zI a)), some (.int (zI b))], [.int (zI (-2))], [r0, r1, r2, r3, r4, r5, r6, zH s7 zL7 0, r8, r9])) rfl ?_
    obtain rfl := Option.some.inj H
    exact xB.ret oX12_folds (r1 := some (.int (zI (-2)))) rfl rfl rfl
  · have H := H.2 h3
    refine xB.run oX12_folds 3 (s := (11, [some (.ref 7168), some (.int (zI a)), some (.int (zI b))], [.int (zI b), .int (zI a), .ref 7168], [r0, r1, r2, r3, r4, r5, r6, zH s7 zL7 0, r8, r9])) rfl ?_
    obtain ⟨y4, e5, H⟩ := zbd H
    refine xB.call oX12_folds (M2 := MX12_foldsOf) rfl rfl ((t_X12_foldsOf r0 r1 r2 r3 r4 r5 r6 s7 r8 r9 a b e5).deep (by decide : 4 ≤ 4)) ?_
    show xBody MX12_folds 5 14 [some (.ref 7168), some (.int (zI a)), some (.int (zI b))] [.int (zI y4.1)] ([r0, r1, r2, r3, r4, r5, r6, zH y4.2 zL7 0, r8, r9]) _ _
    refine xB.run oX12_folds 1 (s := (19, [some (.ref 7168), some (.int (zI a)), some (.int (zI b))], [.int (zI y4.1)], [r0, r1, r2, r3, r4, r5, r6, zH y4.2 zL7 0, r8, r9])) rfl ?_
    obtain rfl := Option.some.inj H
    exact xB.ret oX12_folds (r1 := some (.int (zI y4.1))) rfl rfl rfl
def d_X12_fold_19 (s7 : zZ) (a : Int) (b : Int) : Nat → Int → Option (Int)
  | 0, _ => none
  | uN + 1, cn => if (zr cn ∧ zr ((s7 0 14) - 1)) then (if ((s7 0 14) - 1) ≤ cn then some cn else (if (0 ≤ cn ∧ cn < 5) then (if (zrl (s7 13 cn.toNat)) then (if (s7 13 cn.toNat) ≠ 0 then some cn else (d_X12_fold_19 s7 a b uN (cn + 1))) else none) else none)) else none
def d_X12_fold (s7 : zZ) (a : Int) (b : Int) : Option (Int × zZ) := (d_X12_isShare a b).bind fun y1 => if (zr y1) then (if y1 ≠ 0 then ((d_X12_shift s7 a b).bind fun y4 => (d_X12_fold_19 y4 a b zF 0).bind fun y11 => some (y11, y4)) else some ((-2), s7)) else none
set_option maxRecDepth 20000 in
theorem l_X12_fold_19 (r0 : List va_E) (r1 : List va_E) (r2 : List va_E) (r3 : List va_E) (r4 : List va_E) (r5 : List va_E) (r6 : List va_E) (s7 : zZ) (r8 : List va_E) (r9 : List va_E) (a : Int) (b : Int) {r : Option Value} {hp1 : xH} : ∀ (uN : Nat) (cn : Int) {uX : Int}, d_X12_fold_19 s7 a b uN cn = some uX → (xBody MX12_fold 4 46 [some (.ref 7168), some (.int (zI a)), some (.int (zI b)), some (.int (zI uX))] [] ([r0, r1, r2, r3, r4, r5, r6, zH s7 zL7 0, r8, r9]) r hp1) → xBody MX12_fold 4 19 [some (.ref 7168), some (.int (zI a)), some (.int (zI b)), some (.int (zI cn))] [] ([r0, r1, r2, r3, r4, r5, r6, zH s7 zL7 0, r8, r9]) r hp1 := by
  intro uN
  induction uN with
  | zero => intro cn uX H K; cases H
  | succ uN ih =>
    intro cn uX H K
    unfold d_X12_fold_19 at H
    refine xB.run oX12_fold 4 (s := (25, [some (.ref 7168), some (.int (zI a)), some (.int (zI b)), some (.int (zI cn))], [.int (zI 1), .int (zI (s7 0 14)), .int (zI cn)], [r0, r1, r2, r3, r4, r5, r6, zH s7 zL7 0, r8, r9])) rfl ?_
    refine zB.opi oX12_fold rfl (zi_sub (s7 0 14) 1) ?_
    obtain ⟨g10, H⟩ := zgd H
    have H := zif H
    refine xB.brE oX12_fold (P := ((s7 0 14) - 1) ≤ cn) rfl (zc_ge (a := cn) (b := (s7 0 14) - 1) g10) (fun h6 => ?_) (fun h6 => ?_)
    · have H := H.1 h6
      obtain rfl := Option.some.inj H
      exact K
    · have H := H.2 h6
      refine xB.run oX12_fold 3 (s := (34, [some (.ref 7168), some (.int (zI a)), some (.int (zI b)), some (.int (zI cn))], [.int (zI cn), .ref 7181], [r0, r1, r2, r3, r4, r5, r6, zH s7 zL7 0, r8, r9])) rfl ?_
      obtain ⟨g9, H⟩ := zgd H
      refine zB.lald oX12_fold (g := 7) (p := 13) (N := 5) (i := cn) rfl rfl (by decide) rfl rfl (by decide) g9 ?_
      refine xB.run oX12_fold 2 (s := (37, [some (.ref 7168), some (.int (zI a)), some (.int (zI b)), some (.int (zI cn))], [.int (lg_cmp (zJ (s7 13 cn.toNat)) (zJ 0))], [r0, r1, r2, r3, r4, r5, r6, zH s7 zL7 0, r8, r9])) rfl ?_
      obtain ⟨g8, H⟩ := zgd H
      have H := zif H
      refine xB.brE oX12_fold (P := (s7 13 cn.toNat) ≠ 0) rfl (zl_ne (a := s7 13 cn.toNat) (b := 0) ⟨g8, by decide⟩) (fun h7 => ?_) (fun h7 => ?_)
      · have H := H.1 h7
        obtain rfl := Option.some.inj H
        exact K
      · have H := H.2 h7
        refine zB.inc oX12_fold rfl (lv2 := [some (.ref 7168), some (.int (zI a)), some (.int (zI b)), some (.int (zI (cn + 1)))]) (zi_inc (a := 0) (zi_addp1 cn) _ rfl) ?_
        refine xB.run oX12_fold 1 (s := (19, [some (.ref 7168), some (.int (zI a)), some (.int (zI b)), some (.int (zI (cn + 1)))], [], [r0, r1, r2, r3, r4, r5, r6, zH s7 zL7 0, r8, r9])) rfl ?_
        exact ih (cn + 1) H K
set_option maxRecDepth 20000 in
theorem t_X12_fold (r0 : List va_E) (r1 : List va_E) (r2 : List va_E) (r3 : List va_E) (r4 : List va_E) (r5 : List va_E) (r6 : List va_E) (s7 : zZ) (r8 : List va_E) (r9 : List va_E) (a : Int) (b : Int) {rr : Int × zZ} (H : d_X12_fold s7 a b = some rr) : xC MX12_fold 4 [.ref 7168, .int (zI a), .int (zI b)] ([r0, r1, r2, r3, r4, r5, r6, zH s7 zL7 0, r8, r9]) (some (.int (zI rr.1))) ([r0, r1, r2, r3, r4, r5, r6, zH rr.2 zL7 0, r8, r9]) := by
  refine ⟨Nat.le_of_ble_eq_true rfl, ?_⟩
  show xBody MX12_fold 4 0 [some (.ref 7168), some (.int (zI a)), some (.int (zI b)), none] [] ([r0, r1, r2, r3, r4, r5, r6, zH s7 zL7 0, r8, r9]) _ _
  unfold d_X12_fold at H
  refine xB.run oX12_fold 2 (s := (2, [some (.ref 7168), some (.int (zI a)), some (.int (zI b)), none], [.int (zI b), .int (zI a)], [r0, r1, r2, r3, r4, r5, r6, zH s7 zL7 0, r8, r9])) rfl ?_
  obtain ⟨y1, e2, H⟩ := zbd H
  refine xB.call oX12_fold (M2 := MX12_isShare) rfl rfl ((t_X12_isShare r0 r1 r2 r3 r4 r5 r6 (zH s7 zL7 0) r8 r9 a b e2).deep (by decide : 1 ≤ 3)) ?_
  show xBody MX12_fold 4 5 [some (.ref 7168), some (.int (zI a)), some (.int (zI b)), none] [.int (zI y1)] ([r0, r1, r2, r3, r4, r5, r6, zH s7 zL7 0, r8, r9]) _ _
  obtain ⟨g13, H⟩ := zgd H
  have H := zif H
  refine xB.brE oX12_fold (P := y1 ≠ 0) rfl (zc_ne (a := y1) (b := 0) ⟨g13, by decide⟩) (fun h3 => ?_) (fun h3 => ?_)
  · have H := H.1 h3
    refine xB.run oX12_fold 3 (s := (14, [some (.ref 7168), some (.int (zI a)), some (.int (zI b)), none], [.int (zI b), .int (zI a), .ref 7168], [r0, r1, r2, r3, r4, r5, r6, zH s7 zL7 0, r8, r9])) rfl ?_
    obtain ⟨y4, e5, H⟩ := zbd H
    refine xB.call oX12_fold (M2 := MX12_shift) rfl rfl ((t_X12_shift r0 r1 r2 r3 r4 r5 r6 s7 r8 r9 a b e5).deep (by decide : 3 ≤ 3)) ?_
    show xBody MX12_fold 4 17 [some (.ref 7168), some (.int (zI a)), some (.int (zI b)), none] [] ([r0, r1, r2, r3, r4, r5, r6, zH y4 zL7 0, r8, r9]) _ _
    refine xB.run oX12_fold 2 (s := (19, [some (.ref 7168), some (.int (zI a)), some (.int (zI b)), some (.int (zI 0))], [], [r0, r1, r2, r3, r4, r5, r6, zH y4 zL7 0, r8, r9])) rfl ?_
    obtain ⟨y11, e12, H⟩ := zbd H
    refine l_X12_fold_19 r0 r1 r2 r3 r4 r5 r6 y4 r8 r9 a b _ 0 e12 ?_
    refine xB.run oX12_fold 1 (s := (47, [some (.ref 7168), some (.int (zI a)), some (.int (zI b)), some (.int (zI y11))], [.int (zI y11)], [r0, r1, r2, r3, r4, r5, r6, zH y4 zL7 0, r8, r9])) rfl ?_
    obtain rfl := Option.some.inj H
    exact xB.ret oX12_fold (r1 := some (.int (zI y11))) rfl rfl rfl
  · have H := H.2 h3
    refine xB.run oX12_fold 1 (s := (10, [some (.ref 7168), some (.int (zI a)), some (.int (zI b)), none], [.int (zI (-2))], [r0, r1, r2, r3, r4, r5, r6, zH s7 zL7 0, r8, r9])) rfl ?_
    obtain rfl := Option.some.inj H
    exact xB.ret oX12_fold (r1 := some (.int (zI (-2)))) rfl rfl rfl
def d_X12_bound_17 (b : Int) : Nat → Int → zZ → Option (Int × zZ)
  | 0, _, _ => none
  | uN + 1, a, s7 => if (zr a) then (if (999 : Int) ≤ a then some (a, s7) else ((d_X12_foldsOf s7 (a + 1) b).bind fun y5 => if (zr y5.1) then (if y5.1 ≠ 0 then some (a, y5.2) else (d_X12_bound_17 b uN (a + 1) y5.2)) else none)) else none
def d_X12_bound (s7 : zZ) (b : Int) : Option (Int × zZ) := if zr b then ((d_X12_within b 1 99).bind fun y1 => if (zr y1) then (if y1 ≠ 0 then ((d_X12_bound_17 b zF 0 s7).bind fun y10 => some (y10.1, y10.2)) else some ((-2), s7)) else none) else none
set_option maxRecDepth 20000 in
theorem l_X12_bound_17 (r0 : List va_E) (r1 : List va_E) (r2 : List va_E) (r3 : List va_E) (r4 : List va_E) (r5 : List va_E) (r6 : List va_E) (r8 : List va_E) (r9 : List va_E) (b : Int) {r : Option Value} {hp1 : xH} : ∀ (uN : Nat) (a : Int) (s7 : zZ) {uX : Int × zZ}, d_X12_bound_17 b uN a s7 = some uX → (xBody MX12_bound 5 41 [some (.ref 7168), some (.int (zI b)), some (.int (zI uX.1))] [] ([r0, r1, r2, r3, r4, r5, r6, zH uX.2 zL7 0, r8, r9]) r hp1) → xBody MX12_bound 5 17 [some (.ref 7168), some (.int (zI b)), some (.int (zI a))] [] ([r0, r1, r2, r3, r4, r5, r6, zH s7 zL7 0, r8, r9]) r hp1 := by
  intro uN
  induction uN with
  | zero => intro a s7 uX H K; cases H
  | succ uN ih =>
    intro a s7 uX H K
    unfold d_X12_bound_17 at H
    refine xB.run oX12_bound 2 (s := (21, [some (.ref 7168), some (.int (zI b)), some (.int (zI a))], [.int (zI 999), .int (zI a)], [r0, r1, r2, r3, r4, r5, r6, zH s7 zL7 0, r8, r9])) rfl ?_
    obtain ⟨g9, H⟩ := zgd H
    have H := zif H
    refine xB.brE oX12_bound (P := (999 : Int) ≤ a) rfl (zc_ge (a := a) (b := 999) ⟨g9, by decide⟩) (fun h4 => ?_) (fun h4 => ?_)
    · have H := H.1 h4
      obtain rfl := Option.some.inj H
      exact K
    · have H := H.2 h4
      refine xB.run oX12_bound 3 (s := (27, [some (.ref 7168), some (.int (zI b)), some (.int (zI a))], [.int (zI 1), .int (zI a), .ref 7168], [r0, r1, r2, r3, r4, r5, r6, zH s7 zL7 0, r8, r9])) rfl ?_
      refine zB.opi oX12_bound rfl (zi_add a 1) ?_
      refine xB.run oX12_bound 1 (s := (29, [some (.ref 7168), some (.int (zI b)), some (.int (zI a))], [.int (zI b), .int (zI (a + 1)), .ref 7168], [r0, r1, r2, r3, r4, r5, r6, zH s7 zL7 0, r8, r9])) rfl ?_
      obtain ⟨y5, e6, H⟩ := zbd H
      refine xB.call oX12_bound (M2 := MX12_foldsOf) rfl rfl ((t_X12_foldsOf r0 r1 r2 r3 r4 r5 r6 s7 r8 r9 (a + 1) b e6).deep (by decide : 4 ≤ 4)) ?_
      show xBody MX12_bound 5 32 [some (.ref 7168), some (.int (zI b)), some (.int (zI a))] [.int (zI y5.1)] ([r0, r1, r2, r3, r4, r5, r6, zH y5.2 zL7 0, r8, r9]) _ _
      obtain ⟨g8, H⟩ := zgd H
      have H := zif H
      refine xB.brE oX12_bound (P := y5.1 ≠ 0) rfl (zc_ne (a := y5.1) (b := 0) ⟨g8, by decide⟩) (fun h7 => ?_) (fun h7 => ?_)
      · have H := H.1 h7
        obtain rfl := Option.some.inj H
        exact K
      · have H := H.2 h7
        refine zB.inc oX12_bound rfl (lv2 := [some (.ref 7168), some (.int (zI b)), some (.int (zI (a + 1)))]) (zi_inc (a := 0) (zi_addp1 a) _ rfl) ?_
        refine xB.run oX12_bound 1 (s := (17, [some (.ref 7168), some (.int (zI b)), some (.int (zI (a + 1)))], [], [r0, r1, r2, r3, r4, r5, r6, zH y5.2 zL7 0, r8, r9])) rfl ?_
        exact ih (a + 1) y5.2 H K
set_option maxRecDepth 20000 in
theorem t_X12_bound (r0 : List va_E) (r1 : List va_E) (r2 : List va_E) (r3 : List va_E) (r4 : List va_E) (r5 : List va_E) (r6 : List va_E) (s7 : zZ) (r8 : List va_E) (r9 : List va_E) (b : Int) {rr : Int × zZ} (H : d_X12_bound s7 b = some rr) : xC MX12_bound 5 [.ref 7168, .int (zI b)] ([r0, r1, r2, r3, r4, r5, r6, zH s7 zL7 0, r8, r9]) (some (.int (zI rr.1))) ([r0, r1, r2, r3, r4, r5, r6, zH rr.2 zL7 0, r8, r9]) := by
  refine ⟨Nat.le_of_ble_eq_true rfl, ?_⟩
  show xBody MX12_bound 5 0 [some (.ref 7168), some (.int (zI b)), none] [] ([r0, r1, r2, r3, r4, r5, r6, zH s7 zL7 0, r8, r9]) _ _
  unfold d_X12_bound at H
  refine xB.run oX12_bound 1 (s := (1, [some (.ref 7168), some (.int (zI b)), none], [.int (zI b)], [r0, r1, r2, r3, r4, r5, r6, zH s7 zL7 0, r8, r9])) rfl ?_
  obtain ⟨g13, H⟩ := zgd H
  refine zB.opl oX12_bound rfl (zi_i2l g13) ?_
  refine xB.run oX12_bound 2 (s := (6, [some (.ref 7168), some (.int (zI b)), none], [.long (zJ 99), .long (zJ 1), .long (zJ b)], [r0, r1, r2, r3, r4, r5, r6, zH s7 zL7 0, r8, r9])) rfl ?_
  obtain ⟨y1, e2, H⟩ := zbd H
  refine xB.call oX12_bound (M2 := MX12_within) rfl rfl ((t_X12_within r0 r1 r2 r3 r4 r5 r6 (zH s7 zL7 0) r8 r9 b 1 99 e2).deep (by decide : 0 ≤ 4)) ?_
  show xBody MX12_bound 5 9 [some (.ref 7168), some (.int (zI b)), none] [.int (zI y1)] ([r0, r1, r2, r3, r4, r5, r6, zH s7 zL7 0, r8, r9]) _ _
  obtain ⟨g12, H⟩ := zgd H
  have H := zif H
  refine xB.brE oX12_bound (P := y1 ≠ 0) rfl (zc_ne (a := y1) (b := 0) ⟨g12, by decide⟩) (fun h3 => ?_) (fun h3 => ?_)
  · have H := H.1 h3
    refine xB.run oX12_bound 2 (s := (17, [some (.ref 7168), some (.int (zI b)), some (.int (zI 0))], [], [r0, r1, r2, r3, r4, r5, r6, zH s7 zL7 0, r8, r9])) rfl ?_
    obtain ⟨y10, e11, H⟩ := zbd H
    refine l_X12_bound_17 r0 r1 r2 r3 r4 r5 r6 r8 r9 b _ 0 s7 e11 ?_
    refine xB.run oX12_bound 1 (s := (42, [some (.ref 7168), some (.int (zI b)), some (.int (zI y10.1))], [.int (zI y10.1)], [r0, r1, r2, r3, r4, r5, r6, zH y10.2 zL7 0, r8, r9])) rfl ?_
    obtain rfl := Option.some.inj H
    exact xB.ret oX12_bound (r1 := some (.int (zI y10.1))) rfl rfl rfl
  · have H := H.2 h3
    refine xB.run oX12_bound 1 (s := (14, [some (.ref 7168), some (.int (zI b)), none], [.int (zI (-2))], [r0, r1, r2, r3, r4, r5, r6, zH s7 zL7 0, r8, r9])) rfl ?_
    obtain rfl := Option.some.inj H
    exact xB.ret oX12_bound (r1 := some (.int (zI (-2)))) rfl rfl rfl
