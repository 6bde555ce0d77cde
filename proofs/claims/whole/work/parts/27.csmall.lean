/-! the class: small methods of the parts -/
def fX6_isOtherLane (lan : Nat → Int32) (len : Nat → Int32) (k : Int32) (lane : Int32) : Int32 := if (fX6_isSheet k) = 0 then 0 else if (len k.toNatClampNeg) = (-1) then 0 else if (lan k.toNatClampNeg) = lane then 0 else 1
theorem fX6_isOtherLane_01 (lan : Nat → Int32) (len : Nat → Int32) (k : Int32) (lane : Int32) : fX6_isOtherLane lan len k lane = 0 ∨ fX6_isOtherLane lan len k lane = 1 := by
  unfold fX6_isOtherLane
  (repeat' split) <;> first | exact Or.inl rfl | exact Or.inr rfl
set_option maxRecDepth 20000 in
theorem t_X6_isOtherLane (r0 : List va_E) (r1 : List va_E) (r2 : List va_E) (r3 : List va_E) (r4 : List va_E) (r5 : List va_E) (rws : Nat → Nat → Int32) (lan : Nat → Int32) (len : Nat → Int32) (r7 : List va_E) (r8 : List va_E) (r9 : List va_E) (k : Int32) (lane : Int32) (K : (((fX6_isSheet k) = 0 → True) ∧ (¬ ((fX6_isSheet k) = 0) → (¬ (k < 0 ∨ 4 ≤ k.toNatClampNeg) ∧ (((len k.toNatClampNeg) = (-1) → True) ∧ (¬ ((len k.toNatClampNeg) = (-1)) → (¬ (k < 0 ∨ 4 ≤ k.toNatClampNeg)))))))) : xC MX6_isOtherLane 1 [.ref 6144, .int k, .int lane] ([r0, r1, r2, r3, r4, r5, rSheets rws lan len, r7, r8, r9]) (some (.int (fX6_isOtherLane lan len k lane))) ([r0, r1, r2, r3, r4, r5, rSheets rws lan len, r7, r8, r9]) := by
  refine ⟨Nat.le_of_ble_eq_true rfl, ?_⟩
  show xBody MX6_isOtherLane 1 0 [some (.ref 6144), some (.int k), some (.int lane)] [] ([r0, r1, r2, r3, r4, r5, rSheets rws lan len, r7, r8, r9]) _ _
  refine xB.run oX6_isOtherLane 1 (s := (1, [some (.ref 6144), some (.int k), some (.int lane)], [.int k], [r0, r1, r2, r3, r4, r5, rSheets rws lan len, r7, r8, r9])) rfl ?_
  refine xB.call oX6_isOtherLane (M2 := MX6_isSheet) rfl rfl ((t_X6_isSheet ([r0, r1, r2, r3, r4, r5, rSheets rws lan len, r7, r8, r9]) k).deep (by decide : 0 ≤ 0)) ?_
  show xBody MX6_isOtherLane 1 4 [some (.ref 6144), some (.int k), some (.int lane)] [.int (fX6_isSheet k)] ([r0, r1, r2, r3, r4, r5, rSheets rws lan len, r7, r8, r9]) _ _
  refine xB.br oX6_isOtherLane (P := (fX6_isSheet k) = 0) rfl (fun h1 => ?_) (fun h1 => ?_)
  · have K := K.1 h1
    refine xB.run oX6_isOtherLane 1 (s := (32, [some (.ref 6144), some (.int k), some (.int lane)], [.int 0], [r0, r1, r2, r3, r4, r5, rSheets rws lan len, r7, r8, r9])) rfl ?_
    exact xB.ret oX6_isOtherLane (r1 := some (.int 0)) rfl (by simp only [fX6_isOtherLane, if_pos h1]) rfl
  · have K := K.2 h1
    refine xB.run oX6_isOtherLane 3 (s := (12, [some (.ref 6144), some (.int k), some (.int lane)], [.int k, .ref 6151], [r0, r1, r2, r3, r4, r5, rSheets rws lan len, r7, r8, r9])) rfl ?_
    refine xB.iald oX6_isOtherLane (o := 6151) (N := 4) (f := len) rfl rfl K.1 ?_
    have K := K.2
    refine xB.run oX6_isOtherLane 1 (s := (14, [some (.ref 6144), some (.int k), some (.int lane)], [.int (-1), .int (len k.toNatClampNeg)], [r0, r1, r2, r3, r4, r5, rSheets rws lan len, r7, r8, r9])) rfl ?_
    refine xB.br oX6_isOtherLane (P := (len k.toNatClampNeg) = (-1)) rfl (fun h2 => ?_) (fun h2 => ?_)
    · have K := K.1 h2
      refine xB.run oX6_isOtherLane 1 (s := (32, [some (.ref 6144), some (.int k), some (.int lane)], [.int 0], [r0, r1, r2, r3, r4, r5, rSheets rws lan len, r7, r8, r9])) rfl ?_
      exact xB.ret oX6_isOtherLane (r1 := some (.int 0)) rfl (by simp only [fX6_isOtherLane, if_neg h1, if_pos h2]) rfl
    · have K := K.2 h2
      refine xB.run oX6_isOtherLane 3 (s := (22, [some (.ref 6144), some (.int k), some (.int lane)], [.int k, .ref 6150], [r0, r1, r2, r3, r4, r5, rSheets rws lan len, r7, r8, r9])) rfl ?_
      refine xB.iald oX6_isOtherLane (o := 6150) (N := 4) (f := lan) rfl rfl K ?_
      refine xB.run oX6_isOtherLane 1 (s := (24, [some (.ref 6144), some (.int k), some (.int lane)], [.int lane, .int (lan k.toNatClampNeg)], [r0, r1, r2, r3, r4, r5, rSheets rws lan len, r7, r8, r9])) rfl ?_
      refine xB.br oX6_isOtherLane (P := (lan k.toNatClampNeg) = lane) rfl (fun h3 => ?_) (fun h3 => ?_)
      · skip
        refine xB.run oX6_isOtherLane 1 (s := (32, [some (.ref 6144), some (.int k), some (.int lane)], [.int 0], [r0, r1, r2, r3, r4, r5, rSheets rws lan len, r7, r8, r9])) rfl ?_
        exact xB.ret oX6_isOtherLane (r1 := some (.int 0)) rfl (by simp only [fX6_isOtherLane, if_neg h1, if_neg h2, if_pos h3]) rfl
      · skip
        refine xB.run oX6_isOtherLane 2 (s := (32, [some (.ref 6144), some (.int k), some (.int lane)], [.int 1], [r0, r1, r2, r3, r4, r5, rSheets rws lan len, r7, r8, r9])) rfl ?_
        exact xB.ret oX6_isOtherLane (r1 := some (.int 1)) rfl (by simp only [fX6_isOtherLane, if_neg h1, if_neg h2, if_neg h3]) rfl
def fX6_drop (len : Nat → Int32) (k : Int32) : Int32 := if (fX6_isSheet k) = 0 then 0 else if (len k.toNatClampNeg) ≠ (-1) then 1 else 0
def gX6_drop_len (len : Nat → Int32) (k : Int32) : Nat → Int32 := if (fX6_isSheet k) = 0 then len else if (len k.toNatClampNeg) ≠ (-1) then upd len k.toNatClampNeg (-1) else len
set_option maxRecDepth 20000 in
theorem t_X6_drop (r0 : List va_E) (r1 : List va_E) (r2 : List va_E) (r3 : List va_E) (r4 : List va_E) (r5 : List va_E) (rws : Nat → Nat → Int32) (lan : Nat → Int32) (len : Nat → Int32) (r7 : List va_E) (r8 : List va_E) (r9 : List va_E) (k : Int32) (K : (((fX6_isSheet k) = 0 → True) ∧ (¬ ((fX6_isSheet k) = 0) → (¬ (k < 0 ∨ 4 ≤ k.toNatClampNeg) ∧ (((len k.toNatClampNeg) ≠ (-1) → (¬ (k < 0 ∨ 4 ≤ k.toNatClampNeg))) ∧ (¬ ((len k.toNatClampNeg) ≠ (-1)) → True)))))) : xC MX6_drop 1 [.ref 6144, .int k] ([r0, r1, r2, r3, r4, r5, rSheets rws lan len, r7, r8, r9]) (some (.int (fX6_drop len k))) ([r0, r1, r2, r3, r4, r5, rSheets rws lan (gX6_drop_len len k), r7, r8, r9]) := by
  refine ⟨Nat.le_of_ble_eq_true rfl, ?_⟩
  show xBody MX6_drop 1 0 [some (.ref 6144), some (.int k)] [] ([r0, r1, r2, r3, r4, r5, rSheets rws lan len, r7, r8, r9]) _ _
  refine xB.run oX6_drop 1 (s := (1, [some (.ref 6144), some (.int k)], [.int k], [r0, r1, r2, r3, r4, r5, rSheets rws lan len, r7, r8, r9])) rfl ?_
  refine xB.call oX6_drop (M2 := MX6_isSheet) rfl rfl ((t_X6_isSheet ([r0, r1, r2, r3, r4, r5, rSheets rws lan len, r7, r8, r9]) k).deep (by decide : 0 ≤ 0)) ?_
  show xBody MX6_drop 1 4 [some (.ref 6144), some (.int k)] [.int (fX6_isSheet k)] ([r0, r1, r2, r3, r4, r5, rSheets rws lan len, r7, r8, r9]) _ _
  refine xB.br oX6_drop (P := (fX6_isSheet k) = 0) rfl (fun h1 => ?_) (fun h1 => ?_)
  · have K := K.1 h1
    refine xB.run oX6_drop 1 (s := (18, [some (.ref 6144), some (.int k)], [.int 0], [r0, r1, r2, r3, r4, r5, rSheets rws lan len, r7, r8, r9])) rfl ?_
    exact xB.ret oX6_drop (r1 := some (.int 0)) rfl (by simp only [fX6_drop, gX6_drop_len, if_pos h1]) (by simp only [fX6_drop, gX6_drop_len, if_pos h1])
  · have K := K.2 h1
    refine xB.run oX6_drop 3 (s := (12, [some (.ref 6144), some (.int k)], [.int k, .ref 6151], [r0, r1, r2, r3, r4, r5, rSheets rws lan len, r7, r8, r9])) rfl ?_
    refine xB.iald oX6_drop (o := 6151) (N := 4) (f := len) rfl rfl K.1 ?_
    have K := K.2
    refine xB.run oX6_drop 1 (s := (14, [some (.ref 6144), some (.int k)], [.int (-1), .int (len k.toNatClampNeg)], [r0, r1, r2, r3, r4, r5, rSheets rws lan len, r7, r8, r9])) rfl ?_
    refine xB.br oX6_drop (P := (len k.toNatClampNeg) ≠ (-1)) rfl (fun h2 => ?_) (fun h2 => ?_)
    · have K := K.1 h2
      refine xB.run oX6_drop 4 (s := (25, [some (.ref 6144), some (.int k)], [.int (-1), .int k, .ref 6151], [r0, r1, r2, r3, r4, r5, rSheets rws lan len, r7, r8, r9])) rfl ?_
      refine xB.iast oX6_drop (o := 6151) (N := 4) (f := len) (hp1 := [r0, r1, r2, r3, r4, r5, rSheets rws lan (upd len k.toNatClampNeg (-1)), r7, r8, r9]) rfl rfl (by decide) K rfl ?_
      refine xB.run oX6_drop 1 (s := (27, [some (.ref 6144), some (.int k)], [.int 1], [r0, r1, r2, r3, r4, r5, rSheets rws lan (upd len k.toNatClampNeg (-1)), r7, r8, r9])) rfl ?_
      exact xB.ret oX6_drop (r1 := some (.int 1)) rfl (by simp only [fX6_drop, gX6_drop_len, if_neg h1, if_pos h2]) (by simp only [fX6_drop, gX6_drop_len, if_neg h1, if_pos h2])
    · have K := K.2 h2
      refine xB.run oX6_drop 1 (s := (18, [some (.ref 6144), some (.int k)], [.int 0], [r0, r1, r2, r3, r4, r5, rSheets rws lan len, r7, r8, r9])) rfl ?_
      exact xB.ret oX6_drop (r1 := some (.int 0)) rfl (by simp only [fX6_drop, gX6_drop_len, if_neg h1, if_neg h2]) (by simp only [fX6_drop, gX6_drop_len, if_neg h1, if_neg h2])
def fX6_faultOfCell (len : Nat → Int32) (k : Int32) (i : Int32) : Int32 := if (fX6_isSheet k) = 0 then 1 else if (len k.toNatClampNeg) ≠ (-1) then (if i < 0 then 3 else if i < (len k.toNatClampNeg) then 0 else 3) else 1
set_option maxRecDepth 20000 in
theorem t_X6_faultOfCell (r0 : List va_E) (r1 : List va_E) (r2 : List va_E) (r3 : List va_E) (r4 : List va_E) (r5 : List va_E) (rws : Nat → Nat → Int32) (lan : Nat → Int32) (len : Nat → Int32) (r7 : List va_E) (r8 : List va_E) (r9 : List va_E) (k : Int32) (i : Int32) (K : (((fX6_isSheet k) = 0 → True) ∧ (¬ ((fX6_isSheet k) = 0) → (¬ (k < 0 ∨ 4 ≤ k.toNatClampNeg) ∧ (((len k.toNatClampNeg) ≠ (-1) → ((i < 0 → True) ∧ (¬ (i < 0) → (¬ (k < 0 ∨ 4 ≤ k.toNatClampNeg))))) ∧ (¬ ((len k.toNatClampNeg) ≠ (-1)) → True)))))) : xC MX6_faultOfCell 1 [.ref 6144, .int k, .int i] ([r0, r1, r2, r3, r4, r5, rSheets rws lan len, r7, r8, r9]) (some (.int (fX6_faultOfCell len k i))) ([r0, r1, r2, r3, r4, r5, rSheets rws lan len, r7, r8, r9]) := by
  refine ⟨Nat.le_of_ble_eq_true rfl, ?_⟩
  show xBody MX6_faultOfCell 1 0 [some (.ref 6144), some (.int k), some (.int i)] [] ([r0, r1, r2, r3, r4, r5, rSheets rws lan len, r7, r8, r9]) _ _
  refine xB.run oX6_faultOfCell 1 (s := (1, [some (.ref 6144), some (.int k), some (.int i)], [.int k], [r0, r1, r2, r3, r4, r5, rSheets rws lan len, r7, r8, r9])) rfl ?_
  refine xB.call oX6_faultOfCell (M2 := MX6_isSheet) rfl rfl ((t_X6_isSheet ([r0, r1, r2, r3, r4, r5, rSheets rws lan len, r7, r8, r9]) k).deep (by decide : 0 ≤ 0)) ?_
  show xBody MX6_faultOfCell 1 4 [some (.ref 6144), some (.int k), some (.int i)] [.int (fX6_isSheet k)] ([r0, r1, r2, r3, r4, r5, rSheets rws lan len, r7, r8, r9]) _ _
  refine xB.br oX6_faultOfCell (P := (fX6_isSheet k) = 0) rfl (fun h1 => ?_) (fun h1 => ?_)
  · have K := K.1 h1
    refine xB.run oX6_faultOfCell 1 (s := (18, [some (.ref 6144), some (.int k), some (.int i)], [.int 1], [r0, r1, r2, r3, r4, r5, rSheets rws lan len, r7, r8, r9])) rfl ?_
    exact xB.ret oX6_faultOfCell (r1 := some (.int 1)) rfl (by simp only [fX6_faultOfCell, if_pos h1]) rfl
  · have K := K.2 h1
    refine xB.run oX6_faultOfCell 3 (s := (12, [some (.ref 6144), some (.int k), some (.int i)], [.int k, .ref 6151], [r0, r1, r2, r3, r4, r5, rSheets rws lan len, r7, r8, r9])) rfl ?_
    refine xB.iald oX6_faultOfCell (o := 6151) (N := 4) (f := len) rfl rfl K.1 ?_
    have K := K.2
    refine xB.run oX6_faultOfCell 1 (s := (14, [some (.ref 6144), some (.int k), some (.int i)], [.int (-1), .int (len k.toNatClampNeg)], [r0, r1, r2, r3, r4, r5, rSheets rws lan len, r7, r8, r9])) rfl ?_
    refine xB.br oX6_faultOfCell (P := (len k.toNatClampNeg) ≠ (-1)) rfl (fun h2 => ?_) (fun h2 => ?_)
    · have K := K.1 h2
      refine xB.run oX6_faultOfCell 1 (s := (20, [some (.ref 6144), some (.int k), some (.int i)], [.int i], [r0, r1, r2, r3, r4, r5, rSheets rws lan len, r7, r8, r9])) rfl ?_
      refine xB.br oX6_faultOfCell (P := i < 0) rfl (fun h3 => ?_) (fun h3 => ?_)
      · have K := K.1 h3
        refine xB.run oX6_faultOfCell 2 (s := (38, [some (.ref 6144), some (.int k), some (.int i)], [.int 3], [r0, r1, r2, r3, r4, r5, rSheets rws lan len, r7, r8, r9])) rfl ?_
        exact xB.ret oX6_faultOfCell (r1 := some (.int 3)) rfl (by simp only [fX6_faultOfCell, if_neg h1, if_pos h2, if_pos h3]) rfl
      · have K := K.2 h3
        refine xB.run oX6_faultOfCell 4 (s := (29, [some (.ref 6144), some (.int k), some (.int i)], [.int k, .ref 6151, .int i], [r0, r1, r2, r3, r4, r5, rSheets rws lan len, r7, r8, r9])) rfl ?_
        refine xB.iald oX6_faultOfCell (o := 6151) (N := 4) (f := len) rfl rfl K ?_
        refine xB.br oX6_faultOfCell (P := i < (len k.toNatClampNeg)) rfl (fun h4 => ?_) (fun h4 => ?_)
        · skip
          refine xB.run oX6_faultOfCell 1 (s := (38, [some (.ref 6144), some (.int k), some (.int i)], [.int 0], [r0, r1, r2, r3, r4, r5, rSheets rws lan len, r7, r8, r9])) rfl ?_
          exact xB.ret oX6_faultOfCell (r1 := some (.int 0)) rfl (by simp only [fX6_faultOfCell, if_neg h1, if_pos h2, if_neg h3, if_pos h4]) rfl
        · skip
          refine xB.run oX6_faultOfCell 2 (s := (38, [some (.ref 6144), some (.int k), some (.int i)], [.int 3], [r0, r1, r2, r3, r4, r5, rSheets rws lan len, r7, r8, r9])) rfl ?_
          exact xB.ret oX6_faultOfCell (r1 := some (.int 3)) rfl (by simp only [fX6_faultOfCell, if_neg h1, if_pos h2, if_neg h3, if_neg h4]) rfl
    · have K := K.2 h2
      refine xB.run oX6_faultOfCell 1 (s := (18, [some (.ref 6144), some (.int k), some (.int i)], [.int 1], [r0, r1, r2, r3, r4, r5, rSheets rws lan len, r7, r8, r9])) rfl ?_
      exact xB.ret oX6_faultOfCell (r1 := some (.int 1)) rfl (by simp only [fX6_faultOfCell, if_neg h1, if_neg h2]) rfl
def fX6_faultOfCells (lan : Nat → Int32) (len : Nat → Int32) (k : Int32) (lane : Int32) (i : Int32) (n : Int32) : Int32 := if (fX6_isOtherLane lan len k lane) = 0 then (if (fX6_isSheet k) = 0 then 1 else if (len k.toNatClampNeg) ≠ (-1) then (if (0 : Int32) ≤ n then (if i < 0 then 3 else if (len k.toNatClampNeg) < i then 3 else if n ≤ ((len k.toNatClampNeg) - i) then 0 else 3) else 4) else 1) else 2
set_option maxRecDepth 20000 in
theorem t_X6_faultOfCells (r0 : List va_E) (r1 : List va_E) (r2 : List va_E) (r3 : List va_E) (r4 : List va_E) (r5 : List va_E) (rws : Nat → Nat → Int32) (lan : Nat → Int32) (len : Nat → Int32) (r7 : List va_E) (r8 : List va_E) (r9 : List va_E) (k : Int32) (lane : Int32) (i : Int32) (n : Int32) (K : ((((fX6_isSheet k) = 0 → True) ∧ (¬ ((fX6_isSheet k) = 0) → (¬ (k < 0 ∨ 4 ≤ k.toNatClampNeg) ∧ (((len k.toNatClampNeg) = (-1) → True) ∧ (¬ ((len k.toNatClampNeg) = (-1)) → (¬ (k < 0 ∨ 4 ≤ k.toNatClampNeg))))))) ∧ (((fX6_isOtherLane lan len k lane) = 0 → (((fX6_isSheet k) = 0 → True) ∧ (¬ ((fX6_isSheet k) = 0) → (¬ (k < 0 ∨ 4 ≤ k.toNatClampNeg) ∧ (((len k.toNatClampNeg) ≠ (-1) → (((0 : Int32) ≤ n → ((i < 0 → True) ∧ (¬ (i < 0) → (¬ (k < 0 ∨ 4 ≤ k.toNatClampNeg) ∧ (((len k.toNatClampNeg) < i → True) ∧ (¬ ((len k.toNatClampNeg) < i) → (¬ (k < 0 ∨ 4 ≤ k.toNatClampNeg)))))))) ∧ (¬ ((0 : Int32) ≤ n) → True))) ∧ (¬ ((len k.toNatClampNeg) ≠ (-1)) → True)))))) ∧ (¬ ((fX6_isOtherLane lan len k lane) = 0) → True)))) : xC MX6_faultOfCells 2 [.ref 6144, .int k, .int lane, .int i, .int n] ([r0, r1, r2, r3, r4, r5, rSheets rws lan len, r7, r8, r9]) (some (.int (fX6_faultOfCells lan len k lane i n))) ([r0, r1, r2, r3, r4, r5, rSheets rws lan len, r7, r8, r9]) := by
  refine ⟨Nat.le_of_ble_eq_true rfl, ?_⟩
  show xBody MX6_faultOfCells 2 0 [some (.ref 6144), some (.int k), some (.int lane), some (.int i), some (.int n)] [] ([r0, r1, r2, r3, r4, r5, rSheets rws lan len, r7, r8, r9]) _ _
  refine xB.run oX6_faultOfCells 3 (s := (3, [some (.ref 6144), some (.int k), some (.int lane), some (.int i), some (.int n)], [.int lane, .int k, .ref 6144], [r0, r1, r2, r3, r4, r5, rSheets rws lan len, r7, r8, r9])) rfl ?_
  refine xB.call oX6_faultOfCells (M2 := MX6_isOtherLane) rfl rfl ((t_X6_isOtherLane r0 r1 r2 r3 r4 r5 rws lan len r7 r8 r9 k lane K.1).deep (by decide : 1 ≤ 1)) ?_
  show xBody MX6_faultOfCells 2 6 [some (.ref 6144), some (.int k), some (.int lane), some (.int i), some (.int n)] [.int (fX6_isOtherLane lan len k lane)] ([r0, r1, r2, r3, r4, r5, rSheets rws lan len, r7, r8, r9]) _ _
  have K := K.2
  refine xB.br oX6_faultOfCells (P := (fX6_isOtherLane lan len k lane) = 0) rfl (fun h1 => ?_) (fun h1 => ?_)
  · have K := K.1 h1
    refine xB.run oX6_faultOfCells 1 (s := (12, [some (.ref 6144), some (.int k), some (.int lane), some (.int i), some (.int n)], [.int k], [r0, r1, r2, r3, r4, r5, rSheets rws lan len, r7, r8, r9])) rfl ?_
    refine xB.call oX6_faultOfCells (M2 := MX6_isSheet) rfl rfl ((t_X6_isSheet ([r0, r1, r2, r3, r4, r5, rSheets rws lan len, r7, r8, r9]) k).deep (by decide : 0 ≤ 1)) ?_
    show xBody MX6_faultOfCells 2 15 [some (.ref 6144), some (.int k), some (.int lane), some (.int i), some (.int n)] [.int (fX6_isSheet k)] ([r0, r1, r2, r3, r4, r5, rSheets rws lan len, r7, r8, r9]) _ _
    refine xB.br oX6_faultOfCells (P := (fX6_isSheet k) = 0) rfl (fun h2 => ?_) (fun h2 => ?_)
    · have K := K.1 h2
      refine xB.run oX6_faultOfCells 1 (s := (29, [some (.ref 6144), some (.int k), some (.int lane), some (.int i), some (.int n)], [.int 1], [r0, r1, r2, r3, r4, r5, rSheets rws lan len, r7, r8, r9])) rfl ?_
      exact xB.ret oX6_faultOfCells (r1 := some (.int 1)) rfl (by simp only [fX6_faultOfCells, if_pos h1, if_pos h2]) rfl
    · have K := K.2 h2
      refine xB.run oX6_faultOfCells 3 (s := (23, [some (.ref 6144), some (.int k), some (.int lane), some (.int i), some (.int n)], [.int k, .ref 6151], [r0, r1, r2, r3, r4, r5, rSheets rws lan len, r7, r8, r9])) rfl ?_
      refine xB.iald oX6_faultOfCells (o := 6151) (N := 4) (f := len) rfl rfl K.1 ?_
      have K := K.2
      refine xB.run oX6_faultOfCells 1 (s := (25, [some (.ref 6144), some (.int k), some (.int lane), some (.int i), some (.int n)], [.int (-1), .int (len k.toNatClampNeg)], [r0, r1, r2, r3, r4, r5, rSheets rws lan len, r7, r8, r9])) rfl ?_
      refine xB.br oX6_faultOfCells (P := (len k.toNatClampNeg) ≠ (-1)) rfl (fun h3 => ?_) (fun h3 => ?_)
      · have K := K.1 h3
        refine xB.run oX6_faultOfCells 1 (s := (32, [some (.ref 6144), some (.int k), some (.int lane), some (.int i), some (.int n)], [.int n], [r0, r1, r2, r3, r4, r5, rSheets rws lan len, r7, r8, r9])) rfl ?_
        refine xB.br oX6_faultOfCells (P := (0 : Int32) ≤ n) rfl (fun h4 => ?_) (fun h4 => ?_)
        · have K := K.1 h4
          refine xB.run oX6_faultOfCells 1 (s := (38, [some (.ref 6144), some (.int k), some (.int lane), some (.int i), some (.int n)], [.int i], [r0, r1, r2, r3, r4, r5, rSheets rws lan len, r7, r8, r9])) rfl ?_
          refine xB.br oX6_faultOfCells (P := i < 0) rfl (fun h5 => ?_) (fun h5 => ?_)
          · have K := K.1 h5
            refine xB.run oX6_faultOfCells 2 (s := (69, [some (.ref 6144), some (.int k), some (.int lane), some (.int i), some (.int n)], [.int 3], [r0, r1, r2, r3, r4, r5, rSheets rws lan len, r7, r8, r9])) rfl ?_
            exact xB.ret oX6_faultOfCells (r1 := some (.int 3)) rfl (by simp only [fX6_faultOfCells, if_pos h1, if_neg h2, if_pos h3, if_pos h4, if_pos h5]) rfl
          · have K := K.2 h5
            refine xB.run oX6_faultOfCells 4 (s := (47, [some (.ref 6144), some (.int k), some (.int lane), some (.int i), some (.int n)], [.int k, .ref 6151, .int i], [r0, r1, r2, r3, r4, r5, rSheets rws lan len, r7, r8, r9])) rfl ?_
            refine xB.iald oX6_faultOfCells (o := 6151) (N := 4) (f := len) rfl rfl K.1 ?_
            have K := K.2
            refine xB.br oX6_faultOfCells (P := (len k.toNatClampNeg) < i) rfl (fun h6 => ?_) (fun h6 => ?_)
            · have K := K.1 h6
              refine xB.run oX6_faultOfCells 2 (s := (69, [some (.ref 6144), some (.int k), some (.int lane), some (.int i), some (.int n)], [.int 3], [r0, r1, r2, r3, r4, r5, rSheets rws lan len, r7, r8, r9])) rfl ?_
              exact xB.ret oX6_faultOfCells (r1 := some (.int 3)) rfl (by simp only [fX6_faultOfCells, if_pos h1, if_neg h2, if_pos h3, if_pos h4, if_neg h5, if_pos h6]) rfl
            · have K := K.2 h6
              refine xB.run oX6_faultOfCells 4 (s := (58, [some (.ref 6144), some (.int k), some (.int lane), some (.int i), some (.int n)], [.int k, .ref 6151, .int n], [r0, r1, r2, r3, r4, r5, rSheets rws lan len, r7, r8, r9])) rfl ?_
              refine xB.iald oX6_faultOfCells (o := 6151) (N := 4) (f := len) rfl rfl K ?_
              refine xB.run oX6_faultOfCells 2 (s := (61, [some (.ref 6144), some (.int k), some (.int lane), some (.int i), some (.int n)], [.int ((len k.toNatClampNeg) - i), .int n], [r0, r1, r2, r3, r4, r5, rSheets rws lan len, r7, r8, r9])) rfl ?_
              refine xB.br oX6_faultOfCells (P := n ≤ ((len k.toNatClampNeg) - i)) rfl (fun h7 => ?_) (fun h7 => ?_)
              · skip
                refine xB.run oX6_faultOfCells 1 (s := (69, [some (.ref 6144), some (.int k), some (.int lane), some (.int i), some (.int n)], [.int 0], [r0, r1, r2, r3, r4, r5, rSheets rws lan len, r7, r8, r9])) rfl ?_
                exact xB.ret oX6_faultOfCells (r1 := some (.int 0)) rfl (by simp only [fX6_faultOfCells, if_pos h1, if_neg h2, if_pos h3, if_pos h4, if_neg h5, if_neg h6, if_pos h7]) rfl
              · skip
                refine xB.run oX6_faultOfCells 2 (s := (69, [some (.ref 6144), some (.int k), some (.int lane), some (.int i), some (.int n)], [.int 3], [r0, r1, r2, r3, r4, r5, rSheets rws lan len, r7, r8, r9])) rfl ?_
                exact xB.ret oX6_faultOfCells (r1 := some (.int 3)) rfl (by simp only [fX6_faultOfCells, if_pos h1, if_neg h2, if_pos h3, if_pos h4, if_neg h5, if_neg h6, if_neg h7]) rfl
        · have K := K.2 h4
          refine xB.run oX6_faultOfCells 1 (s := (36, [some (.ref 6144), some (.int k), some (.int lane), some (.int i), some (.int n)], [.int 4], [r0, r1, r2, r3, r4, r5, rSheets rws lan len, r7, r8, r9])) rfl ?_
          exact xB.ret oX6_faultOfCells (r1 := some (.int 4)) rfl (by simp only [fX6_faultOfCells, if_pos h1, if_neg h2, if_pos h3, if_neg h4]) rfl
      · have K := K.2 h3
        refine xB.run oX6_faultOfCells 1 (s := (29, [some (.ref 6144), some (.int k), some (.int lane), some (.int i), some (.int n)], [.int 1], [r0, r1, r2, r3, r4, r5, rSheets rws lan len, r7, r8, r9])) rfl ?_
        exact xB.ret oX6_faultOfCells (r1 := some (.int 1)) rfl (by simp only [fX6_faultOfCells, if_pos h1, if_neg h2, if_neg h3]) rfl
  · have K := K.2 h1
    refine xB.run oX6_faultOfCells 1 (s := (10, [some (.ref 6144), some (.int k), some (.int lane), some (.int i), some (.int n)], [.int 2], [r0, r1, r2, r3, r4, r5, rSheets rws lan len, r7, r8, r9])) rfl ?_
    exact xB.ret oX6_faultOfCells (r1 := some (.int 2)) rfl (by simp only [fX6_faultOfCells, if_neg h1]) rfl
def gX6_write_rws (rws : Nat → Nat → Int32) (lan : Nat → Int32) (len : Nat → Int32) (k : Int32) (i : Int32) (v : Int32) : Nat → Nat → Int32 := if (fX6_faultOfCell len k i) ≠ 0 then rws else (updR rws k.toNatClampNeg (upd (rws k.toNatClampNeg) i.toNatClampNeg (fX6_cutToLane (lan k.toNatClampNeg) v)))
set_option maxRecDepth 20000 in
theorem t_X6_write (r0 : List va_E) (r1 : List va_E) (r2 : List va_E) (r3 : List va_E) (r4 : List va_E) (r5 : List va_E) (rws : Nat → Nat → Int32) (lan : Nat → Int32) (len : Nat → Int32) (r7 : List va_E) (r8 : List va_E) (r9 : List va_E) (k : Int32) (i : Int32) (v : Int32) (K : ((((fX6_isSheet k) = 0 → True) ∧ (¬ ((fX6_isSheet k) = 0) → (¬ (k < 0 ∨ 4 ≤ k.toNatClampNeg) ∧ (((len k.toNatClampNeg) ≠ (-1) → ((i < 0 → True) ∧ (¬ (i < 0) → (¬ (k < 0 ∨ 4 ≤ k.toNatClampNeg))))) ∧ (¬ ((len k.toNatClampNeg) ≠ (-1)) → True))))) ∧ (((fX6_faultOfCell len k i) ≠ 0 → True) ∧ (¬ ((fX6_faultOfCell len k i) ≠ 0) → (¬ (k < 0 ∨ 4 ≤ k.toNatClampNeg) ∧ (¬ (k < 0 ∨ 4 ≤ k.toNatClampNeg) ∧ (¬ (i < 0 ∨ 60 ≤ i.toNatClampNeg)))))))) : xC MX6_write 2 [.ref 6144, .int k, .int i, .int v] ([r0, r1, r2, r3, r4, r5, rSheets rws lan len, r7, r8, r9]) (none) ([r0, r1, r2, r3, r4, r5, rSheets (gX6_write_rws rws lan len k i v) lan len, r7, r8, r9]) := by
  refine ⟨Nat.le_of_ble_eq_true rfl, ?_⟩
  show xBody MX6_write 2 0 [some (.ref 6144), some (.int k), some (.int i), some (.int v)] [] ([r0, r1, r2, r3, r4, r5, rSheets rws lan len, r7, r8, r9]) _ _
  refine xB.run oX6_write 3 (s := (3, [some (.ref 6144), some (.int k), some (.int i), some (.int v)], [.int i, .int k, .ref 6144], [r0, r1, r2, r3, r4, r5, rSheets rws lan len, r7, r8, r9])) rfl ?_
  refine xB.call oX6_write (M2 := MX6_faultOfCell) rfl rfl ((t_X6_faultOfCell r0 r1 r2 r3 r4 r5 rws lan len r7 r8 r9 k i K.1).deep (by decide : 1 ≤ 1)) ?_
  show xBody MX6_write 2 6 [some (.ref 6144), some (.int k), some (.int i), some (.int v)] [.int (fX6_faultOfCell len k i)] ([r0, r1, r2, r3, r4, r5, rSheets rws lan len, r7, r8, r9]) _ _
  have K := K.2
  refine xB.br oX6_write (P := (fX6_faultOfCell len k i) ≠ 0) rfl (fun h1 => ?_) (fun h1 => ?_)
  · have K := K.1 h1
    exact xB.ret oX6_write (r1 := none) rfl rfl (by simp only [gX6_write_rws, if_pos h1])
  · have K := K.2 h1
    refine xB.run oX6_write 3 (s := (14, [some (.ref 6144), some (.int k), some (.int i), some (.int v)], [.int k, .ref 6145], [r0, r1, r2, r3, r4, r5, rSheets rws lan len, r7, r8, r9])) rfl ?_
    have hg2 : k.toNatClampNeg < 4 := Nat.not_le.mp fun q => K.1 (Or.inr q)
    refine xB.aald oX6_write (o := 6145) (N := 4) (f := (fun i => if i < 4 then some (6146 + i) else none)) (b := 6146 + k.toNatClampNeg) rfl rfl (by decide) K.1 (if_pos hg2) ?_
    have K := K.2
    refine xB.run oX6_write 4 (s := (21, [some (.ref 6144), some (.int k), some (.int i), some (.int v)], [.int k, .ref 6150, .int i, .ref (6146 + k.toNatClampNeg)], [r0, r1, r2, r3, r4, r5, rSheets rws lan len, r7, r8, r9])) rfl ?_
    refine xB.iald oX6_write (o := 6150) (N := 4) (f := lan) rfl rfl K.1 ?_
    have K := K.2
    refine xB.run oX6_write 1 (s := (23, [some (.ref 6144), some (.int k), some (.int i), some (.int v)], [.int v, .int (lan k.toNatClampNeg), .int i, .ref (6146 + k.toNatClampNeg)], [r0, r1, r2, r3, r4, r5, rSheets rws lan len, r7, r8, r9])) rfl ?_
    refine xB.call oX6_write (M2 := MX6_cutToLane) rfl rfl ((t_X6_cutToLane ([r0, r1, r2, r3, r4, r5, rSheets rws lan len, r7, r8, r9]) (lan k.toNatClampNeg) v).deep (by decide : 0 ≤ 1)) ?_
    show xBody MX6_write 2 26 [some (.ref 6144), some (.int k), some (.int i), some (.int v)] [.int (fX6_cutToLane (lan k.toNatClampNeg) v), .int i, .ref (6146 + k.toNatClampNeg)] ([r0, r1, r2, r3, r4, r5, rSheets rws lan len, r7, r8, r9]) _ _
    refine xB.iast oX6_write (o := (6146 + k.toNatClampNeg)) (N := 60) (f := rws k.toNatClampNeg) (hp1 := [r0, r1, r2, r3, r4, r5, rSheets (updR rws k.toNatClampNeg (upd (rws k.toNatClampNeg) i.toNatClampNeg (fX6_cutToLane (lan k.toNatClampNeg) v))) lan len, r7, r8, r9]) rfl (xg_rws r0 r1 r2 r3 r4 r5 rws lan len r7 r8 r9 (k.toNatClampNeg) hg2) (by omega) K (xs_rws r0 r1 r2 r3 r4 r5 rws lan len r7 r8 r9 (k.toNatClampNeg) (upd (rws k.toNatClampNeg) i.toNatClampNeg (fX6_cutToLane (lan k.toNatClampNeg) v)) hg2) ?_
    exact xB.ret oX6_write (r1 := none) rfl rfl (by simp only [gX6_write_rws, if_neg h1])
def fX6_number (rws : Nat → Nat → Int32) (len : Nat → Int32) (k : Int32) (i : Int32) : Int32 := if (fX6_faultOfCell len k i) ≠ 0 then 0 else rws k.toNatClampNeg i.toNatClampNeg
set_option maxRecDepth 20000 in
theorem t_X6_number (r0 : List va_E) (r1 : List va_E) (r2 : List va_E) (r3 : List va_E) (r4 : List va_E) (r5 : List va_E) (rws : Nat → Nat → Int32) (lan : Nat → Int32) (len : Nat → Int32) (r7 : List va_E) (r8 : List va_E) (r9 : List va_E) (k : Int32) (i : Int32) (K : ((((fX6_isSheet k) = 0 → True) ∧ (¬ ((fX6_isSheet k) = 0) → (¬ (k < 0 ∨ 4 ≤ k.toNatClampNeg) ∧ (((len k.toNatClampNeg) ≠ (-1) → ((i < 0 → True) ∧ (¬ (i < 0) → (¬ (k < 0 ∨ 4 ≤ k.toNatClampNeg))))) ∧ (¬ ((len k.toNatClampNeg) ≠ (-1)) → True))))) ∧ (((fX6_faultOfCell len k i) ≠ 0 → True) ∧ (¬ ((fX6_faultOfCell len k i) ≠ 0) → (¬ (k < 0 ∨ 4 ≤ k.toNatClampNeg) ∧ (¬ (i < 0 ∨ 60 ≤ i.toNatClampNeg))))))) : xC MX6_number 2 [.ref 6144, .int k, .int i] ([r0, r1, r2, r3, r4, r5, rSheets rws lan len, r7, r8, r9]) (some (.int (fX6_number rws len k i))) ([r0, r1, r2, r3, r4, r5, rSheets rws lan len, r7, r8, r9]) := by
  refine ⟨Nat.le_of_ble_eq_true rfl, ?_⟩
  show xBody MX6_number 2 0 [some (.ref 6144), some (.int k), some (.int i)] [] ([r0, r1, r2, r3, r4, r5, rSheets rws lan len, r7, r8, r9]) _ _
  refine xB.run oX6_number 3 (s := (3, [some (.ref 6144), some (.int k), some (.int i)], [.int i, .int k, .ref 6144], [r0, r1, r2, r3, r4, r5, rSheets rws lan len, r7, r8, r9])) rfl ?_
  refine xB.call oX6_number (M2 := MX6_faultOfCell) rfl rfl ((t_X6_faultOfCell r0 r1 r2 r3 r4 r5 rws lan len r7 r8 r9 k i K.1).deep (by decide : 1 ≤ 1)) ?_
  show xBody MX6_number 2 6 [some (.ref 6144), some (.int k), some (.int i)] [.int (fX6_faultOfCell len k i)] ([r0, r1, r2, r3, r4, r5, rSheets rws lan len, r7, r8, r9]) _ _
  have K := K.2
  refine xB.br oX6_number (P := (fX6_faultOfCell len k i) ≠ 0) rfl (fun h1 => ?_) (fun h1 => ?_)
  · have K := K.1 h1
    refine xB.run oX6_number 1 (s := (21, [some (.ref 6144), some (.int k), some (.int i)], [.int 0], [r0, r1, r2, r3, r4, r5, rSheets rws lan len, r7, r8, r9])) rfl ?_
    exact xB.ret oX6_number (r1 := some (.int 0)) rfl (by simp only [fX6_number, if_pos h1]) rfl
  · have K := K.2 h1
    refine xB.run oX6_number 3 (s := (14, [some (.ref 6144), some (.int k), some (.int i)], [.int k, .ref 6145], [r0, r1, r2, r3, r4, r5, rSheets rws lan len, r7, r8, r9])) rfl ?_
    have hg2 : k.toNatClampNeg < 4 := Nat.not_le.mp fun q => K.1 (Or.inr q)
    refine xB.aald oX6_number (o := 6145) (N := 4) (f := (fun i => if i < 4 then some (6146 + i) else none)) (b := 6146 + k.toNatClampNeg) rfl rfl (by decide) K.1 (if_pos hg2) ?_
    have K := K.2
    refine xB.run oX6_number 1 (s := (16, [some (.ref 6144), some (.int k), some (.int i)], [.int i, .ref (6146 + k.toNatClampNeg)], [r0, r1, r2, r3, r4, r5, rSheets rws lan len, r7, r8, r9])) rfl ?_
    refine xB.iald oX6_number (o := (6146 + k.toNatClampNeg)) (N := 60) (f := rws k.toNatClampNeg) rfl (xg_rws r0 r1 r2 r3 r4 r5 rws lan len r7 r8 r9 (k.toNatClampNeg) hg2) K ?_
    refine xB.run oX6_number 1 (s := (21, [some (.ref 6144), some (.int k), some (.int i)], [.int (rws k.toNatClampNeg i.toNatClampNeg)], [r0, r1, r2, r3, r4, r5, rSheets rws lan len, r7, r8, r9])) rfl ?_
    exact xB.ret oX6_number (r1 := some (.int (rws k.toNatClampNeg i.toNatClampNeg))) rfl (by simp only [fX6_number, if_neg h1]) rfl
set_option maxRecDepth 20000 in
theorem t_X7_howMany (r0 : List va_E) (r1 : List va_E) (r2 : List va_E) (r3 : List va_E) (r4 : List va_E) (sfac : Nat → Int32) (slo : Nat → Int32) (shi : Nat → Int32) (scn : Int32) (r6 : List va_E) (r7 : List va_E) (r8 : List va_E) (r9 : List va_E) : xC MX7_howMany 0 [.ref 5120] ([r0, r1, r2, r3, r4, rSights sfac slo shi scn, r6, r7, r8, r9]) (some (.int scn)) ([r0, r1, r2, r3, r4, rSights sfac slo shi scn, r6, r7, r8, r9]) := by
  refine ⟨Nat.le_of_ble_eq_true rfl, ?_⟩
  show xBody MX7_howMany 0 0 [some (.ref 5120)] [] ([r0, r1, r2, r3, r4, rSights sfac slo shi scn, r6, r7, r8, r9]) _ _
  refine xB.run oX7_howMany 2 (s := (4, [some (.ref 5120)], [.int scn], [r0, r1, r2, r3, r4, rSights sfac slo shi scn, r6, r7, r8, r9])) rfl ?_
  exact xB.ret oX7_howMany (r1 := some (.int scn)) rfl rfl rfl
def fX7_isFull (scn : Int32) : Int32 := if scn < 12 then 0 else 1
theorem fX7_isFull_01 (scn : Int32) : fX7_isFull scn = 0 ∨ fX7_isFull scn = 1 := by
  unfold fX7_isFull
  (repeat' split) <;> first | exact Or.inl rfl | exact Or.inr rfl
set_option maxRecDepth 20000 in
theorem t_X7_isFull (r0 : List va_E) (r1 : List va_E) (r2 : List va_E) (r3 : List va_E) (r4 : List va_E) (sfac : Nat → Int32) (slo : Nat → Int32) (shi : Nat → Int32) (scn : Int32) (r6 : List va_E) (r7 : List va_E) (r8 : List va_E) (r9 : List va_E) : xC MX7_isFull 0 [.ref 5120] ([r0, r1, r2, r3, r4, rSights sfac slo shi scn, r6, r7, r8, r9]) (some (.int (fX7_isFull scn))) ([r0, r1, r2, r3, r4, rSights sfac slo shi scn, r6, r7, r8, r9]) := by
  refine ⟨Nat.le_of_ble_eq_true rfl, ?_⟩
  show xBody MX7_isFull 0 0 [some (.ref 5120)] [] ([r0, r1, r2, r3, r4, rSights sfac slo shi scn, r6, r7, r8, r9]) _ _
  refine xB.run oX7_isFull 3 (s := (6, [some (.ref 5120)], [.int 12, .int scn], [r0, r1, r2, r3, r4, rSights sfac slo shi scn, r6, r7, r8, r9])) rfl ?_
  refine xB.br oX7_isFull (P := scn < 12) rfl (fun h1 => ?_) (fun h1 => ?_)
  · skip
    refine xB.run oX7_isFull 1 (s := (14, [some (.ref 5120)], [.int 0], [r0, r1, r2, r3, r4, rSights sfac slo shi scn, r6, r7, r8, r9])) rfl ?_
    exact xB.ret oX7_isFull (r1 := some (.int 0)) rfl (by simp only [fX7_isFull, if_pos h1]) rfl
  · skip
    refine xB.run oX7_isFull 2 (s := (14, [some (.ref 5120)], [.int 1], [r0, r1, r2, r3, r4, rSights sfac slo shi scn, r6, r7, r8, r9])) rfl ?_
    exact xB.ret oX7_isFull (r1 := some (.int 1)) rfl (by simp only [fX7_isFull, if_neg h1]) rfl
def fX7_isSight (scn : Int32) (a : Int32) : Int32 := if a < 0 then 0 else if scn ≤ a then 0 else 1
theorem fX7_isSight_01 (scn : Int32) (a : Int32) : fX7_isSight scn a = 0 ∨ fX7_isSight scn a = 1 := by
  unfold fX7_isSight
  (repeat' split) <;> first | exact Or.inl rfl | exact Or.inr rfl
set_option maxRecDepth 20000 in
theorem t_X7_isSight (r0 : List va_E) (r1 : List va_E) (r2 : List va_E) (r3 : List va_E) (r4 : List va_E) (sfac : Nat → Int32) (slo : Nat → Int32) (shi : Nat → Int32) (scn : Int32) (r6 : List va_E) (r7 : List va_E) (r8 : List va_E) (r9 : List va_E) (a : Int32) : xC MX7_isSight 0 [.ref 5120, .int a] ([r0, r1, r2, r3, r4, rSights sfac slo shi scn, r6, r7, r8, r9]) (some (.int (fX7_isSight scn a))) ([r0, r1, r2, r3, r4, rSights sfac slo shi scn, r6, r7, r8, r9]) := by
  refine ⟨Nat.le_of_ble_eq_true rfl, ?_⟩
  show xBody MX7_isSight 0 0 [some (.ref 5120), some (.int a)] [] ([r0, r1, r2, r3, r4, rSights sfac slo shi scn, r6, r7, r8, r9]) _ _
  refine xB.run oX7_isSight 1 (s := (1, [some (.ref 5120), some (.int a)], [.int a], [r0, r1, r2, r3, r4, rSights sfac slo shi scn, r6, r7, r8, r9])) rfl ?_
  refine xB.br oX7_isSight (P := a < 0) rfl (fun h1 => ?_) (fun h1 => ?_)
  · skip
    refine xB.run oX7_isSight 1 (s := (17, [some (.ref 5120), some (.int a)], [.int 0], [r0, r1, r2, r3, r4, rSights sfac slo shi scn, r6, r7, r8, r9])) rfl ?_
    exact xB.ret oX7_isSight (r1 := some (.int 0)) rfl (by simp only [fX7_isSight, if_pos h1]) rfl
  · skip
    refine xB.run oX7_isSight 3 (s := (9, [some (.ref 5120), some (.int a)], [.int scn, .int a], [r0, r1, r2, r3, r4, rSights sfac slo shi scn, r6, r7, r8, r9])) rfl ?_
    refine xB.br oX7_isSight (P := scn ≤ a) rfl (fun h2 => ?_) (fun h2 => ?_)
    · skip
      refine xB.run oX7_isSight 1 (s := (17, [some (.ref 5120), some (.int a)], [.int 0], [r0, r1, r2, r3, r4, rSights sfac slo shi scn, r6, r7, r8, r9])) rfl ?_
      exact xB.ret oX7_isSight (r1 := some (.int 0)) rfl (by simp only [fX7_isSight, if_neg h1, if_pos h2]) rfl
    · skip
      refine xB.run oX7_isSight 2 (s := (17, [some (.ref 5120), some (.int a)], [.int 1], [r0, r1, r2, r3, r4, rSights sfac slo shi scn, r6, r7, r8, r9])) rfl ?_
      exact xB.ret oX7_isSight (r1 := some (.int 1)) rfl (by simp only [fX7_isSight, if_neg h1, if_neg h2]) rfl
def fX7_isSet (scn : Int32) (set : Int32) : Int32 := if set ≤ 0 then 0 else if ((1 : Int32) <<< (scn &&& 31)) ≤ set then 0 else 1
theorem fX7_isSet_01 (scn : Int32) (set : Int32) : fX7_isSet scn set = 0 ∨ fX7_isSet scn set = 1 := by
  unfold fX7_isSet
  (repeat' split) <;> first | exact Or.inl rfl | exact Or.inr rfl
set_option maxRecDepth 20000 in
theorem t_X7_isSet (r0 : List va_E) (r1 : List va_E) (r2 : List va_E) (r3 : List va_E) (r4 : List va_E) (sfac : Nat → Int32) (slo : Nat → Int32) (shi : Nat → Int32) (scn : Int32) (r6 : List va_E) (r7 : List va_E) (r8 : List va_E) (r9 : List va_E) (set : Int32) : xC MX7_isSet 0 [.ref 5120, .int set] ([r0, r1, r2, r3, r4, rSights sfac slo shi scn, r6, r7, r8, r9]) (some (.int (fX7_isSet scn set))) ([r0, r1, r2, r3, r4, rSights sfac slo shi scn, r6, r7, r8, r9]) := by
  refine ⟨Nat.le_of_ble_eq_true rfl, ?_⟩
  show xBody MX7_isSet 0 0 [some (.ref 5120), some (.int set)] [] ([r0, r1, r2, r3, r4, rSights sfac slo shi scn, r6, r7, r8, r9]) _ _
  refine xB.run oX7_isSet 1 (s := (1, [some (.ref 5120), some (.int set)], [.int set], [r0, r1, r2, r3, r4, rSights sfac slo shi scn, r6, r7, r8, r9])) rfl ?_
  refine xB.br oX7_isSet (P := set ≤ 0) rfl (fun h1 => ?_) (fun h1 => ?_)
  · skip
    refine xB.run oX7_isSet 1 (s := (19, [some (.ref 5120), some (.int set)], [.int 0], [r0, r1, r2, r3, r4, rSights sfac slo shi scn, r6, r7, r8, r9])) rfl ?_
    exact xB.ret oX7_isSet (r1 := some (.int 0)) rfl (by simp only [fX7_isSet, if_pos h1]) rfl
  · skip
    refine xB.run oX7_isSet 5 (s := (11, [some (.ref 5120), some (.int set)], [.int ((1 : Int32) <<< (scn &&& 31)), .int set], [r0, r1, r2, r3, r4, rSights sfac slo shi scn, r6, r7, r8, r9])) rfl ?_
    refine xB.br oX7_isSet (P := ((1 : Int32) <<< (scn &&& 31)) ≤ set) rfl (fun h2 => ?_) (fun h2 => ?_)
    · skip
      refine xB.run oX7_isSet 1 (s := (19, [some (.ref 5120), some (.int set)], [.int 0], [r0, r1, r2, r3, r4, rSights sfac slo shi scn, r6, r7, r8, r9])) rfl ?_
      exact xB.ret oX7_isSet (r1 := some (.int 0)) rfl (by simp only [fX7_isSet, if_neg h1, if_pos h2]) rfl
    · skip
      refine xB.run oX7_isSet 2 (s := (19, [some (.ref 5120), some (.int set)], [.int 1], [r0, r1, r2, r3, r4, rSights sfac slo shi scn, r6, r7, r8, r9])) rfl ?_
      exact xB.ret oX7_isSet (r1 := some (.int 1)) rfl (by simp only [fX7_isSet, if_neg h1, if_neg h2]) rfl
def fX7_addSight (scn : Int32) : Int32 := if (fX7_isFull scn) = 0 then (scn + 1) - 1 else (-4)
def gX7_addSight_sfac (sfac : Nat → Int32) (scn : Int32) (m : Int32) : Nat → Int32 := if (fX7_isFull scn) = 0 then upd sfac scn.toNatClampNeg m else sfac
def gX7_addSight_slo (slo : Nat → Int32) (scn : Int32) (lo : Int32) : Nat → Int32 := if (fX7_isFull scn) = 0 then upd slo scn.toNatClampNeg lo else slo
def gX7_addSight_shi (shi : Nat → Int32) (scn : Int32) (hi : Int32) : Nat → Int32 := if (fX7_isFull scn) = 0 then upd shi scn.toNatClampNeg hi else shi
def gX7_addSight_scn (scn : Int32) : Int32 := if (fX7_isFull scn) = 0 then scn + 1 else scn
set_option maxRecDepth 20000 in
theorem t_X7_addSight (r0 : List va_E) (r1 : List va_E) (r2 : List va_E) (r3 : List va_E) (r4 : List va_E) (sfac : Nat → Int32) (slo : Nat → Int32) (shi : Nat → Int32) (scn : Int32) (r6 : List va_E) (r7 : List va_E) (r8 : List va_E) (r9 : List va_E) (m : Int32) (lo : Int32) (hi : Int32) (K : (((fX7_isFull scn) = 0 → (¬ (scn < 0 ∨ 12 ≤ scn.toNatClampNeg) ∧ (¬ (scn < 0 ∨ 12 ≤ scn.toNatClampNeg) ∧ (¬ (scn < 0 ∨ 12 ≤ scn.toNatClampNeg))))) ∧ (¬ ((fX7_isFull scn) = 0) → True))) : xC MX7_addSight 1 [.ref 5120, .int m, .int lo, .int hi] ([r0, r1, r2, r3, r4, rSights sfac slo shi scn, r6, r7, r8, r9]) (some (.int (fX7_addSight scn))) ([r0, r1, r2, r3, r4, rSights (gX7_addSight_sfac sfac scn m) (gX7_addSight_slo slo scn lo) (gX7_addSight_shi shi scn hi) (gX7_addSight_scn scn), r6, r7, r8, r9]) := by
  refine ⟨Nat.le_of_ble_eq_true rfl, ?_⟩
  show xBody MX7_addSight 1 0 [some (.ref 5120), some (.int m), some (.int lo), some (.int hi)] [] ([r0, r1, r2, r3, r4, rSights sfac slo shi scn, r6, r7, r8, r9]) _ _
  refine xB.run oX7_addSight 1 (s := (1, [some (.ref 5120), some (.int m), some (.int lo), some (.int hi)], [.ref 5120], [r0, r1, r2, r3, r4, rSights sfac slo shi scn, r6, r7, r8, r9])) rfl ?_
  refine xB.call oX7_addSight (M2 := MX7_isFull) rfl rfl ((t_X7_isFull r0 r1 r2 r3 r4 sfac slo shi scn r6 r7 r8 r9).deep (by decide : 0 ≤ 0)) ?_
  show xBody MX7_addSight 1 4 [some (.ref 5120), some (.int m), some (.int lo), some (.int hi)] [.int (fX7_isFull scn)] ([r0, r1, r2, r3, r4, rSights sfac slo shi scn, r6, r7, r8, r9]) _ _
  refine xB.br oX7_addSight (P := (fX7_isFull scn) = 0) rfl (fun h1 => ?_) (fun h1 => ?_)
  · have K := K.1 h1
    refine xB.run oX7_addSight 5 (s := (19, [some (.ref 5120), some (.int m), some (.int lo), some (.int hi)], [.int m, .int scn, .ref 5121], [r0, r1, r2, r3, r4, rSights sfac slo shi scn, r6, r7, r8, r9])) rfl ?_
    refine xB.iast oX7_addSight (o := 5121) (N := 12) (f := sfac) (hp1 := [r0, r1, r2, r3, r4, rSights (upd sfac scn.toNatClampNeg m) slo shi scn, r6, r7, r8, r9]) rfl rfl (by decide) K.1 rfl ?_
    have K := K.2
    refine xB.run oX7_addSight 5 (s := (29, [some (.ref 5120), some (.int m), some (.int lo), some (.int hi)], [.int lo, .int scn, .ref 5122], [r0, r1, r2, r3, r4, rSights (upd sfac scn.toNatClampNeg m) slo shi scn, r6, r7, r8, r9])) rfl ?_
    refine xB.iast oX7_addSight (o := 5122) (N := 12) (f := slo) (hp1 := [r0, r1, r2, r3, r4, rSights (upd sfac scn.toNatClampNeg m) (upd slo scn.toNatClampNeg lo) shi scn, r6, r7, r8, r9]) rfl rfl (by decide) K.1 rfl ?_
    have K := K.2
    refine xB.run oX7_addSight 5 (s := (39, [some (.ref 5120), some (.int m), some (.int lo), some (.int hi)], [.int hi, .int scn, .ref 5123], [r0, r1, r2, r3, r4, rSights (upd sfac scn.toNatClampNeg m) (upd slo scn.toNatClampNeg lo) shi scn, r6, r7, r8, r9])) rfl ?_
    refine xB.iast oX7_addSight (o := 5123) (N := 12) (f := shi) (hp1 := [r0, r1, r2, r3, r4, rSights (upd sfac scn.toNatClampNeg m) (upd slo scn.toNatClampNeg lo) (upd shi scn.toNatClampNeg hi) scn, r6, r7, r8, r9]) rfl rfl (by decide) K rfl ?_
    refine xB.run oX7_addSight 10 (s := (56, [some (.ref 5120), some (.int m), some (.int lo), some (.int hi)], [.int ((scn + 1) - 1)], [r0, r1, r2, r3, r4, rSights (upd sfac scn.toNatClampNeg m) (upd slo scn.toNatClampNeg lo) (upd shi scn.toNatClampNeg hi) (scn + 1), r6, r7, r8, r9])) rfl ?_
    exact xB.ret oX7_addSight (r1 := some (.int ((scn + 1) - 1))) rfl (by simp only [fX7_addSight, gX7_addSight_sfac, gX7_addSight_slo, gX7_addSight_shi, gX7_addSight_scn, if_pos h1]) (by simp only [fX7_addSight, gX7_addSight_sfac, gX7_addSight_slo, gX7_addSight_shi, gX7_addSight_scn, if_pos h1])
  · have K := K.2 h1
    refine xB.run oX7_addSight 1 (s := (9, [some (.ref 5120), some (.int m), some (.int lo), some (.int hi)], [.int (-4)], [r0, r1, r2, r3, r4, rSights sfac slo shi scn, r6, r7, r8, r9])) rfl ?_
    exact xB.ret oX7_addSight (r1 := some (.int (-4))) rfl (by simp only [fX7_addSight, gX7_addSight_sfac, gX7_addSight_slo, gX7_addSight_shi, gX7_addSight_scn, if_neg h1]) (by simp only [fX7_addSight, gX7_addSight_sfac, gX7_addSight_slo, gX7_addSight_shi, gX7_addSight_scn, if_neg h1])
def fX8_change (kin : Nat → Int32) (row : Int32) (col : Int32) (out : Int32) : Int32 := if out = 0 then (if (fX8_isPiece row col) = 0 then 0 else if (kin ((row * 10) + col).toNatClampNeg) ≠ 0 then 1 else 0) else if (fX8_isPiece row col) = 0 then 0 else if (kin ((row * 10) + col).toNatClampNeg) ≠ 1 then 1 else 0
def gX8_change_kin (kin : Nat → Int32) (row : Int32) (col : Int32) (out : Int32) : Nat → Int32 := if out = 0 then (if (fX8_isPiece row col) = 0 then kin else if (kin ((row * 10) + col).toNatClampNeg) ≠ 0 then upd kin ((row * 10) + col).toNatClampNeg 0 else kin) else if (fX8_isPiece row col) = 0 then kin else if (kin ((row * 10) + col).toNatClampNeg) ≠ 1 then upd kin ((row * 10) + col).toNatClampNeg 1 else kin
set_option maxRecDepth 20000 in
theorem t_X8_change (r0 : List va_E) (r1 : List va_E) (r2 : List va_E) (r3 : List va_E) (kin : Nat → Int32) (seen : Nat → Int32) (wai : Nat → Int32) (wc : Int32) (lat : Nat → Int32) (lc : Int32) (r5 : List va_E) (r6 : List va_E) (r7 : List va_E) (r8 : List va_E) (r9 : List va_E) (row : Int32) (col : Int32) (out : Int32) (K : ((out = 0 → (((fX8_isPiece row col) = 0 → True) ∧ (¬ ((fX8_isPiece row col) = 0) → (¬ (((row * 10) + col) < 0 ∨ 100 ≤ ((row * 10) + col).toNatClampNeg) ∧ (((kin ((row * 10) + col).toNatClampNeg) ≠ 0 → (¬ (((row * 10) + col) < 0 ∨ 100 ≤ ((row * 10) + col).toNatClampNeg))) ∧ (¬ ((kin ((row * 10) + col).toNatClampNeg) ≠ 0) → True)))))) ∧ (¬ (out = 0) → (((fX8_isPiece row col) = 0 → True) ∧ (¬ ((fX8_isPiece row col) = 0) → (¬ (((row * 10) + col) < 0 ∨ 100 ≤ ((row * 10) + col).toNatClampNeg) ∧ (((kin ((row * 10) + col).toNatClampNeg) ≠ 1 → (¬ (((row * 10) + col) < 0 ∨ 100 ≤ ((row * 10) + col).toNatClampNeg))) ∧ (¬ ((kin ((row * 10) + col).toNatClampNeg) ≠ 1) → True)))))))) : xC MX8_change 1 [.ref 4096, .int row, .int col, .int out] ([r0, r1, r2, r3, rSkin kin seen wai wc lat lc, r5, r6, r7, r8, r9]) (some (.int (fX8_change kin row col out))) ([r0, r1, r2, r3, rSkin (gX8_change_kin kin row col out) seen wai wc lat lc, r5, r6, r7, r8, r9]) := by
  refine ⟨Nat.le_of_ble_eq_true rfl, ?_⟩
  show xBody MX8_change 1 0 [some (.ref 4096), some (.int row), some (.int col), some (.int out), none] [] ([r0, r1, r2, r3, rSkin kin seen wai wc lat lc, r5, r6, r7, r8, r9]) _ _
  refine xB.run oX8_change 1 (s := (1, [some (.ref 4096), some (.int row), some (.int col), some (.int out), none], [.int out], [r0, r1, r2, r3, rSkin kin seen wai wc lat lc, r5, r6, r7, r8, r9])) rfl ?_
  refine xB.br oX8_change (P := out = 0) rfl (fun h1 => ?_) (fun h1 => ?_)
  · have K := K.1 h1
    refine xB.run oX8_change 4 (s := (13, [some (.ref 4096), some (.int row), some (.int col), some (.int out), some (.int 0)], [.int col, .int row], [r0, r1, r2, r3, rSkin kin seen wai wc lat lc, r5, r6, r7, r8, r9])) rfl ?_
    refine xB.call oX8_change (M2 := MX8_isPiece) rfl rfl ((t_X8_isPiece ([r0, r1, r2, r3, rSkin kin seen wai wc lat lc, r5, r6, r7, r8, r9]) row col).deep (by decide : 0 ≤ 0)) ?_
    show xBody MX8_change 1 16 [some (.ref 4096), some (.int row), some (.int col), some (.int out), some (.int 0)] [.int (fX8_isPiece row col)] ([r0, r1, r2, r3, rSkin kin seen wai wc lat lc, r5, r6, r7, r8, r9]) _ _
    refine xB.br oX8_change (P := (fX8_isPiece row col) = 0) rfl (fun h2 => ?_) (fun h2 => ?_)
    · have K := K.1 h2
      refine xB.run oX8_change 1 (s := (36, [some (.ref 4096), some (.int row), some (.int col), some (.int out), some (.int 0)], [.int 0], [r0, r1, r2, r3, rSkin kin seen wai wc lat lc, r5, r6, r7, r8, r9])) rfl ?_
      exact xB.ret oX8_change (r1 := some (.int 0)) rfl (by simp only [fX8_change, gX8_change_kin, if_pos h1, if_pos h2]) (by simp only [fX8_change, gX8_change_kin, if_pos h1, if_pos h2])
    · have K := K.2 h2
      refine xB.run oX8_change 7 (s := (29, [some (.ref 4096), some (.int row), some (.int col), some (.int out), some (.int 0)], [.int ((row * 10) + col), .ref 4097], [r0, r1, r2, r3, rSkin kin seen wai wc lat lc, r5, r6, r7, r8, r9])) rfl ?_
      refine xB.iald oX8_change (o := 4097) (N := 100) (f := kin) rfl rfl K.1 ?_
      have K := K.2
      refine xB.run oX8_change 1 (s := (32, [some (.ref 4096), some (.int row), some (.int col), some (.int out), some (.int 0)], [.int 0, .int (kin ((row * 10) + col).toNatClampNeg)], [r0, r1, r2, r3, rSkin kin seen wai wc lat lc, r5, r6, r7, r8, r9])) rfl ?_
      refine xB.br oX8_change (P := (kin ((row * 10) + col).toNatClampNeg) ≠ 0) rfl (fun h3 => ?_) (fun h3 => ?_)
      · have K := K.1 h3
        refine xB.run oX8_change 8 (s := (49, [some (.ref 4096), some (.int row), some (.int col), some (.int out), some (.int 0)], [.int 0, .int ((row * 10) + col), .ref 4097], [r0, r1, r2, r3, rSkin kin seen wai wc lat lc, r5, r6, r7, r8, r9])) rfl ?_
        refine xB.iast oX8_change (o := 4097) (N := 100) (f := kin) (hp1 := [r0, r1, r2, r3, rSkin (upd kin ((row * 10) + col).toNatClampNeg 0) seen wai wc lat lc, r5, r6, r7, r8, r9]) rfl rfl (by decide) K rfl ?_
        refine xB.run oX8_change 1 (s := (51, [some (.ref 4096), some (.int row), some (.int col), some (.int out), some (.int 0)], [.int 1], [r0, r1, r2, r3, rSkin (upd kin ((row * 10) + col).toNatClampNeg 0) seen wai wc lat lc, r5, r6, r7, r8, r9])) rfl ?_
        exact xB.ret oX8_change (r1 := some (.int 1)) rfl (by simp only [fX8_change, gX8_change_kin, if_pos h1, if_neg h2, if_pos h3]) (by simp only [fX8_change, gX8_change_kin, if_pos h1, if_neg h2, if_pos h3])
      · have K := K.2 h3
        refine xB.run oX8_change 1 (s := (36, [some (.ref 4096), some (.int row), some (.int col), some (.int out), some (.int 0)], [.int 0], [r0, r1, r2, r3, rSkin kin seen wai wc lat lc, r5, r6, r7, r8, r9])) rfl ?_
        exact xB.ret oX8_change (r1 := some (.int 0)) rfl (by simp only [fX8_change, gX8_change_kin, if_pos h1, if_neg h2, if_neg h3]) (by simp only [fX8_change, gX8_change_kin, if_pos h1, if_neg h2, if_neg h3])
  · have K := K.2 h1
    refine xB.run oX8_change 5 (s := (13, [some (.ref 4096), some (.int row), some (.int col), some (.int out), some (.int 1)], [.int col, .int row], [r0, r1, r2, r3, rSkin kin seen wai wc lat lc, r5, r6, r7, r8, r9])) rfl ?_
    refine xB.call oX8_change (M2 := MX8_isPiece) rfl rfl ((t_X8_isPiece ([r0, r1, r2, r3, rSkin kin seen wai wc lat lc, r5, r6, r7, r8, r9]) row col).deep (by decide : 0 ≤ 0)) ?_
    show xBody MX8_change 1 16 [some (.ref 4096), some (.int row), some (.int col), some (.int out), some (.int 1)] [.int (fX8_isPiece row col)] ([r0, r1, r2, r3, rSkin kin seen wai wc lat lc, r5, r6, r7, r8, r9]) _ _
    refine xB.br oX8_change (P := (fX8_isPiece row col) = 0) rfl (fun h4 => ?_) (fun h4 => ?_)
    · have K := K.1 h4
      refine xB.run oX8_change 1 (s := (36, [some (.ref 4096), some (.int row), some (.int col), some (.int out), some (.int 1)], [.int 0], [r0, r1, r2, r3, rSkin kin seen wai wc lat lc, r5, r6, r7, r8, r9])) rfl ?_
      exact xB.ret oX8_change (r1 := some (.int 0)) rfl (by simp only [fX8_change, gX8_change_kin, if_neg h1, if_pos h4]) (by simp only [fX8_change, gX8_change_kin, if_neg h1, if_pos h4])
    · have K := K.2 h4
      refine xB.run oX8_change 7 (s := (29, [some (.ref 4096), some (.int row), some (.int col), some (.int out), some (.int 1)], [.int ((row * 10) + col), .ref 4097], [r0, r1, r2, r3, rSkin kin seen wai wc lat lc, r5, r6, r7, r8, r9])) rfl ?_
      refine xB.iald oX8_change (o := 4097) (N := 100) (f := kin) rfl rfl K.1 ?_
      have K := K.2
      refine xB.run oX8_change 1 (s := (32, [some (.ref 4096), some (.int row), some (.int col), some (.int out), some (.int 1)], [.int 1, .int (kin ((row * 10) + col).toNatClampNeg)], [r0, r1, r2, r3, rSkin kin seen wai wc lat lc, r5, r6, r7, r8, r9])) rfl ?_
      refine xB.br oX8_change (P := (kin ((row * 10) + col).toNatClampNeg) ≠ 1) rfl (fun h5 => ?_) (fun h5 => ?_)
      · have K := K.1 h5
        refine xB.run oX8_change 8 (s := (49, [some (.ref 4096), some (.int row), some (.int col), some (.int out), some (.int 1)], [.int 1, .int ((row * 10) + col), .ref 4097], [r0, r1, r2, r3, rSkin kin seen wai wc lat lc, r5, r6, r7, r8, r9])) rfl ?_
        refine xB.iast oX8_change (o := 4097) (N := 100) (f := kin) (hp1 := [r0, r1, r2, r3, rSkin (upd kin ((row * 10) + col).toNatClampNeg 1) seen wai wc lat lc, r5, r6, r7, r8, r9]) rfl rfl (by decide) K rfl ?_
        refine xB.run oX8_change 1 (s := (51, [some (.ref 4096), some (.int row), some (.int col), some (.int out), some (.int 1)], [.int 1], [r0, r1, r2, r3, rSkin (upd kin ((row * 10) + col).toNatClampNeg 1) seen wai wc lat lc, r5, r6, r7, r8, r9])) rfl ?_
        exact xB.ret oX8_change (r1 := some (.int 1)) rfl (by simp only [fX8_change, gX8_change_kin, if_neg h1, if_neg h4, if_pos h5]) (by simp only [fX8_change, gX8_change_kin, if_neg h1, if_neg h4, if_pos h5])
      · have K := K.2 h5
        refine xB.run oX8_change 1 (s := (36, [some (.ref 4096), some (.int row), some (.int col), some (.int out), some (.int 1)], [.int 0], [r0, r1, r2, r3, rSkin kin seen wai wc lat lc, r5, r6, r7, r8, r9])) rfl ?_
        exact xB.ret oX8_change (r1 := some (.int 0)) rfl (by simp only [fX8_change, gX8_change_kin, if_neg h1, if_neg h4, if_neg h5]) (by simp only [fX8_change, gX8_change_kin, if_neg h1, if_neg h4, if_neg h5])
def fX8_isHold (kin : Nat → Int32) (pl : Int32) : Int32 := if (kin pl.toNatClampNeg) ≠ 0 then (if (fX8_isAtRim (pl / 10)) ≠ 0 then 1 else if (fX8_isAtRim (pl - pl / 10 * 10)) = 0 then 0 else 1) else if (pl / 10) ≠ 9 then 0 else 1
theorem fX8_isHold_01 (kin : Nat → Int32) (pl : Int32) : fX8_isHold kin pl = 0 ∨ fX8_isHold kin pl = 1 := by
  unfold fX8_isHold
  (repeat' split) <;> first | exact Or.inl rfl | exact Or.inr rfl
set_option maxRecDepth 20000 in
theorem t_X8_isHold (r0 : List va_E) (r1 : List va_E) (r2 : List va_E) (r3 : List va_E) (kin : Nat → Int32) (seen : Nat → Int32) (wai : Nat → Int32) (wc : Int32) (lat : Nat → Int32) (lc : Int32) (r5 : List va_E) (r6 : List va_E) (r7 : List va_E) (r8 : List va_E) (r9 : List va_E) (pl : Int32) (K : (¬ (pl < 0 ∨ 100 ≤ pl.toNatClampNeg))) : xC MX8_isHold 1 [.ref 4096, .int pl] ([r0, r1, r2, r3, rSkin kin seen wai wc lat lc, r5, r6, r7, r8, r9]) (some (.int (fX8_isHold kin pl))) ([r0, r1, r2, r3, rSkin kin seen wai wc lat lc, r5, r6, r7, r8, r9]) := by
  refine ⟨Nat.le_of_ble_eq_true rfl, ?_⟩
  show xBody MX8_isHold 1 0 [some (.ref 4096), some (.int pl)] [] ([r0, r1, r2, r3, rSkin kin seen wai wc lat lc, r5, r6, r7, r8, r9]) _ _
  refine xB.run oX8_isHold 3 (s := (5, [some (.ref 4096), some (.int pl)], [.int pl, .ref 4097], [r0, r1, r2, r3, rSkin kin seen wai wc lat lc, r5, r6, r7, r8, r9])) rfl ?_
  refine xB.iald oX8_isHold (o := 4097) (N := 100) (f := kin) rfl rfl K ?_
  refine xB.br oX8_isHold (P := (kin pl.toNatClampNeg) ≠ 0) rfl (fun h1 => ?_) (fun h1 => ?_)
  · skip
    refine xB.run oX8_isHold 2 (s := (27, [some (.ref 4096), some (.int pl)], [.int 10, .int pl], [r0, r1, r2, r3, rSkin kin seen wai wc lat lc, r5, r6, r7, r8, r9])) rfl ?_
    refine xB.next oX8_isHold (s := (28, [some (.ref 4096), some (.int pl)], [.int (pl / 10)], [r0, r1, r2, r3, rSkin kin seen wai wc lat lc, r5, r6, r7, r8, r9])) rfl ?_
    refine xB.call oX8_isHold (M2 := MX8_isAtRim) rfl rfl ((t_X8_isAtRim ([r0, r1, r2, r3, rSkin kin seen wai wc lat lc, r5, r6, r7, r8, r9]) (pl / 10)).deep (by decide : 0 ≤ 0)) ?_
    show xBody MX8_isHold 1 31 [some (.ref 4096), some (.int pl)] [.int (fX8_isAtRim (pl / 10))] ([r0, r1, r2, r3, rSkin kin seen wai wc lat lc, r5, r6, r7, r8, r9]) _ _
    refine xB.br oX8_isHold (P := (fX8_isAtRim (pl / 10)) ≠ 0) rfl (fun h2 => ?_) (fun h2 => ?_)
    · skip
      refine xB.run oX8_isHold 2 (s := (49, [some (.ref 4096), some (.int pl)], [.int 1], [r0, r1, r2, r3, rSkin kin seen wai wc lat lc, r5, r6, r7, r8, r9])) rfl ?_
      exact xB.ret oX8_isHold (r1 := some (.int 1)) rfl (by simp only [fX8_isHold, if_pos h1, if_pos h2]) rfl
    · skip
      refine xB.run oX8_isHold 2 (s := (37, [some (.ref 4096), some (.int pl)], [.int 10, .int pl], [r0, r1, r2, r3, rSkin kin seen wai wc lat lc, r5, r6, r7, r8, r9])) rfl ?_
      refine xB.next oX8_isHold (s := (38, [some (.ref 4096), some (.int pl)], [.int (pl - pl / 10 * 10)], [r0, r1, r2, r3, rSkin kin seen wai wc lat lc, r5, r6, r7, r8, r9])) rfl ?_
      refine xB.call oX8_isHold (M2 := MX8_isAtRim) rfl rfl ((t_X8_isAtRim ([r0, r1, r2, r3, rSkin kin seen wai wc lat lc, r5, r6, r7, r8, r9]) (pl - pl / 10 * 10)).deep (by decide : 0 ≤ 0)) ?_
      show xBody MX8_isHold 1 41 [some (.ref 4096), some (.int pl)] [.int (fX8_isAtRim (pl - pl / 10 * 10))] ([r0, r1, r2, r3, rSkin kin seen wai wc lat lc, r5, r6, r7, r8, r9]) _ _
      refine xB.br oX8_isHold (P := (fX8_isAtRim (pl - pl / 10 * 10)) = 0) rfl (fun h3 => ?_) (fun h3 => ?_)
      · skip
        refine xB.run oX8_isHold 1 (s := (49, [some (.ref 4096), some (.int pl)], [.int 0], [r0, r1, r2, r3, rSkin kin seen wai wc lat lc, r5, r6, r7, r8, r9])) rfl ?_
        exact xB.ret oX8_isHold (r1 := some (.int 0)) rfl (by simp only [fX8_isHold, if_pos h1, if_neg h2, if_pos h3]) rfl
      · skip
        refine xB.run oX8_isHold 2 (s := (49, [some (.ref 4096), some (.int pl)], [.int 1], [r0, r1, r2, r3, rSkin kin seen wai wc lat lc, r5, r6, r7, r8, r9])) rfl ?_
        exact xB.ret oX8_isHold (r1 := some (.int 1)) rfl (by simp only [fX8_isHold, if_pos h1, if_neg h2, if_neg h3]) rfl
  · skip
    refine xB.run oX8_isHold 2 (s := (12, [some (.ref 4096), some (.int pl)], [.int 10, .int pl], [r0, r1, r2, r3, rSkin kin seen wai wc lat lc, r5, r6, r7, r8, r9])) rfl ?_
    refine xB.next oX8_isHold (s := (13, [some (.ref 4096), some (.int pl)], [.int (pl / 10)], [r0, r1, r2, r3, rSkin kin seen wai wc lat lc, r5, r6, r7, r8, r9])) rfl ?_
    refine xB.run oX8_isHold 1 (s := (15, [some (.ref 4096), some (.int pl)], [.int 9, .int (pl / 10)], [r0, r1, r2, r3, rSkin kin seen wai wc lat lc, r5, r6, r7, r8, r9])) rfl ?_
    refine xB.br oX8_isHold (P := (pl / 10) ≠ 9) rfl (fun h4 => ?_) (fun h4 => ?_)
    · skip
      refine xB.run oX8_isHold 1 (s := (23, [some (.ref 4096), some (.int pl)], [.int 0], [r0, r1, r2, r3, rSkin kin seen wai wc lat lc, r5, r6, r7, r8, r9])) rfl ?_
      exact xB.ret oX8_isHold (r1 := some (.int 0)) rfl (by simp only [fX8_isHold, if_neg h1, if_pos h4]) rfl
    · skip
      refine xB.run oX8_isHold 2 (s := (23, [some (.ref 4096), some (.int pl)], [.int 1], [r0, r1, r2, r3, rSkin kin seen wai wc lat lc, r5, r6, r7, r8, r9])) rfl ?_
      exact xB.ret oX8_isHold (r1 := some (.int 1)) rfl (by simp only [fX8_isHold, if_neg h1, if_neg h4]) rfl
def gX8_lineUp_seen (seen : Nat → Int32) (wc : Int32) (pl : Int32) : Nat → Int32 := if (seen pl.toNatClampNeg) ≠ 0 then seen else if (100 : Int32) ≤ wc then seen else upd seen pl.toNatClampNeg 1
def gX8_lineUp_wai (seen : Nat → Int32) (wai : Nat → Int32) (wc : Int32) (pl : Int32) : Nat → Int32 := if (seen pl.toNatClampNeg) ≠ 0 then wai else if (100 : Int32) ≤ wc then wai else upd wai wc.toNatClampNeg pl
def gX8_lineUp_wc (seen : Nat → Int32) (wc : Int32) (pl : Int32) : Int32 := if (seen pl.toNatClampNeg) ≠ 0 then wc else if (100 : Int32) ≤ wc then wc else wc + 1
set_option maxRecDepth 20000 in
theorem t_X8_lineUp (r0 : List va_E) (r1 : List va_E) (r2 : List va_E) (r3 : List va_E) (kin : Nat → Int32) (seen : Nat → Int32) (wai : Nat → Int32) (wc : Int32) (lat : Nat → Int32) (lc : Int32) (r5 : List va_E) (r6 : List va_E) (r7 : List va_E) (r8 : List va_E) (r9 : List va_E) (pl : Int32) (K : (¬ (pl < 0 ∨ 100 ≤ pl.toNatClampNeg) ∧ (((seen pl.toNatClampNeg) ≠ 0 → True) ∧ (¬ ((seen pl.toNatClampNeg) ≠ 0) → (((100 : Int32) ≤ wc → True) ∧ (¬ ((100 : Int32) ≤ wc) → (¬ (pl < 0 ∨ 100 ≤ pl.toNatClampNeg) ∧ (¬ (wc < 0 ∨ 100 ≤ wc.toNatClampNeg))))))))) : xC MX8_lineUp 0 [.ref 4096, .int pl] ([r0, r1, r2, r3, rSkin kin seen wai wc lat lc, r5, r6, r7, r8, r9]) (none) ([r0, r1, r2, r3, rSkin kin (gX8_lineUp_seen seen wc pl) (gX8_lineUp_wai seen wai wc pl) (gX8_lineUp_wc seen wc pl) lat lc, r5, r6, r7, r8, r9]) := by
  refine ⟨Nat.le_of_ble_eq_true rfl, ?_⟩
  show xBody MX8_lineUp 0 0 [some (.ref 4096), some (.int pl)] [] ([r0, r1, r2, r3, rSkin kin seen wai wc lat lc, r5, r6, r7, r8, r9]) _ _
  refine xB.run oX8_lineUp 3 (s := (5, [some (.ref 4096), some (.int pl)], [.int pl, .ref 4098], [r0, r1, r2, r3, rSkin kin seen wai wc lat lc, r5, r6, r7, r8, r9])) rfl ?_
  refine xB.iald oX8_lineUp (o := 4098) (N := 100) (f := seen) rfl rfl K.1 ?_
  have K := K.2
  refine xB.br oX8_lineUp (P := (seen pl.toNatClampNeg) ≠ 0) rfl (fun h1 => ?_) (fun h1 => ?_)
  · have K := K.1 h1
    exact xB.ret oX8_lineUp (r1 := none) rfl rfl (by simp only [gX8_lineUp_seen, gX8_lineUp_wai, gX8_lineUp_wc, if_pos h1])
  · have K := K.2 h1
    refine xB.run oX8_lineUp 3 (s := (15, [some (.ref 4096), some (.int pl)], [.int 100, .int wc], [r0, r1, r2, r3, rSkin kin seen wai wc lat lc, r5, r6, r7, r8, r9])) rfl ?_
    refine xB.br oX8_lineUp (P := (100 : Int32) ≤ wc) rfl (fun h2 => ?_) (fun h2 => ?_)
    · have K := K.1 h2
      exact xB.ret oX8_lineUp (r1 := none) rfl rfl (by simp only [gX8_lineUp_seen, gX8_lineUp_wai, gX8_lineUp_wc, if_neg h1, if_pos h2])
    · have K := K.2 h2
      refine xB.run oX8_lineUp 4 (s := (24, [some (.ref 4096), some (.int pl)], [.int 1, .int pl, .ref 4098], [r0, r1, r2, r3, rSkin kin seen wai wc lat lc, r5, r6, r7, r8, r9])) rfl ?_
      refine xB.iast oX8_lineUp (o := 4098) (N := 100) (f := seen) (hp1 := [r0, r1, r2, r3, rSkin kin (upd seen pl.toNatClampNeg 1) wai wc lat lc, r5, r6, r7, r8, r9]) rfl rfl (by decide) K.1 rfl ?_
      have K := K.2
      refine xB.run oX8_lineUp 5 (s := (34, [some (.ref 4096), some (.int pl)], [.int pl, .int wc, .ref 4099], [r0, r1, r2, r3, rSkin kin (upd seen pl.toNatClampNeg 1) wai wc lat lc, r5, r6, r7, r8, r9])) rfl ?_
      refine xB.iast oX8_lineUp (o := 4099) (N := 100) (f := wai) (hp1 := [r0, r1, r2, r3, rSkin kin (upd seen pl.toNatClampNeg 1) (upd wai wc.toNatClampNeg pl) wc lat lc, r5, r6, r7, r8, r9]) rfl rfl (by decide) K rfl ?_
      refine xB.run oX8_lineUp 6 (s := (45, [some (.ref 4096), some (.int pl)], [], [r0, r1, r2, r3, rSkin kin (upd seen pl.toNatClampNeg 1) (upd wai wc.toNatClampNeg pl) (wc + 1) lat lc, r5, r6, r7, r8, r9])) rfl ?_
      exact xB.ret oX8_lineUp (r1 := none) rfl rfl (by simp only [gX8_lineUp_seen, gX8_lineUp_wai, gX8_lineUp_wc, if_neg h1, if_neg h2])
def gX8_lineUpForLater_seen (seen : Nat → Int32) (lc : Int32) (pl : Int32) : Nat → Int32 := if (seen pl.toNatClampNeg) ≠ 0 then seen else if (100 : Int32) ≤ lc then seen else upd seen pl.toNatClampNeg 1
def gX8_lineUpForLater_lat (seen : Nat → Int32) (lat : Nat → Int32) (lc : Int32) (pl : Int32) : Nat → Int32 := if (seen pl.toNatClampNeg) ≠ 0 then lat else if (100 : Int32) ≤ lc then lat else upd lat lc.toNatClampNeg pl
def gX8_lineUpForLater_lc (seen : Nat → Int32) (lc : Int32) (pl : Int32) : Int32 := if (seen pl.toNatClampNeg) ≠ 0 then lc else if (100 : Int32) ≤ lc then lc else lc + 1
set_option maxRecDepth 20000 in
theorem t_X8_lineUpForLater (r0 : List va_E) (r1 : List va_E) (r2 : List va_E) (r3 : List va_E) (kin : Nat → Int32) (seen : Nat → Int32) (wai : Nat → Int32) (wc : Int32) (lat : Nat → Int32) (lc : Int32) (r5 : List va_E) (r6 : List va_E) (r7 : List va_E) (r8 : List va_E) (r9 : List va_E) (pl : Int32) (K : (¬ (pl < 0 ∨ 100 ≤ pl.toNatClampNeg) ∧ (((seen pl.toNatClampNeg) ≠ 0 → True) ∧ (¬ ((seen pl.toNatClampNeg) ≠ 0) → (((100 : Int32) ≤ lc → True) ∧ (¬ ((100 : Int32) ≤ lc) → (¬ (pl < 0 ∨ 100 ≤ pl.toNatClampNeg) ∧ (¬ (lc < 0 ∨ 100 ≤ lc.toNatClampNeg))))))))) : xC MX8_lineUpForLater 0 [.ref 4096, .int pl] ([r0, r1, r2, r3, rSkin kin seen wai wc lat lc, r5, r6, r7, r8, r9]) (none) ([r0, r1, r2, r3, rSkin kin (gX8_lineUpForLater_seen seen lc pl) wai wc (gX8_lineUpForLater_lat seen lat lc pl) (gX8_lineUpForLater_lc seen lc pl), r5, r6, r7, r8, r9]) := by
  refine ⟨Nat.le_of_ble_eq_true rfl, ?_⟩
  show xBody MX8_lineUpForLater 0 0 [some (.ref 4096), some (.int pl)] [] ([r0, r1, r2, r3, rSkin kin seen wai wc lat lc, r5, r6, r7, r8, r9]) _ _
  refine xB.run oX8_lineUpForLater 3 (s := (5, [some (.ref 4096), some (.int pl)], [.int pl, .ref 4098], [r0, r1, r2, r3, rSkin kin seen wai wc lat lc, r5, r6, r7, r8, r9])) rfl ?_
  refine xB.iald oX8_lineUpForLater (o := 4098) (N := 100) (f := seen) rfl rfl K.1 ?_
  have K := K.2
  refine xB.br oX8_lineUpForLater (P := (seen pl.toNatClampNeg) ≠ 0) rfl (fun h1 => ?_) (fun h1 => ?_)
  · have K := K.1 h1
    exact xB.ret oX8_lineUpForLater (r1 := none) rfl rfl (by simp only [gX8_lineUpForLater_seen, gX8_lineUpForLater_lat, gX8_lineUpForLater_lc, if_pos h1])
  · have K := K.2 h1
    refine xB.run oX8_lineUpForLater 3 (s := (15, [some (.ref 4096), some (.int pl)], [.int 100, .int lc], [r0, r1, r2, r3, rSkin kin seen wai wc lat lc, r5, r6, r7, r8, r9])) rfl ?_
    refine xB.br oX8_lineUpForLater (P := (100 : Int32) ≤ lc) rfl (fun h2 => ?_) (fun h2 => ?_)
    · have K := K.1 h2
      exact xB.ret oX8_lineUpForLater (r1 := none) rfl rfl (by simp only [gX8_lineUpForLater_seen, gX8_lineUpForLater_lat, gX8_lineUpForLater_lc, if_neg h1, if_pos h2])
    · have K := K.2 h2
      refine xB.run oX8_lineUpForLater 4 (s := (24, [some (.ref 4096), some (.int pl)], [.int 1, .int pl, .ref 4098], [r0, r1, r2, r3, rSkin kin seen wai wc lat lc, r5, r6, r7, r8, r9])) rfl ?_
      refine xB.iast oX8_lineUpForLater (o := 4098) (N := 100) (f := seen) (hp1 := [r0, r1, r2, r3, rSkin kin (upd seen pl.toNatClampNeg 1) wai wc lat lc, r5, r6, r7, r8, r9]) rfl rfl (by decide) K.1 rfl ?_
      have K := K.2
      refine xB.run oX8_lineUpForLater 5 (s := (34, [some (.ref 4096), some (.int pl)], [.int pl, .int lc, .ref 4100], [r0, r1, r2, r3, rSkin kin (upd seen pl.toNatClampNeg 1) wai wc lat lc, r5, r6, r7, r8, r9])) rfl ?_
      refine xB.iast oX8_lineUpForLater (o := 4100) (N := 100) (f := lat) (hp1 := [r0, r1, r2, r3, rSkin kin (upd seen pl.toNatClampNeg 1) wai wc (upd lat lc.toNatClampNeg pl) lc, r5, r6, r7, r8, r9]) rfl rfl (by decide) K rfl ?_
      refine xB.run oX8_lineUpForLater 6 (s := (45, [some (.ref 4096), some (.int pl)], [], [r0, r1, r2, r3, rSkin kin (upd seen pl.toNatClampNeg 1) wai wc (upd lat lc.toNatClampNeg pl) (lc + 1), r5, r6, r7, r8, r9])) rfl ?_
      exact xB.ret oX8_lineUpForLater (r1 := none) rfl rfl (by simp only [gX8_lineUpForLater_seen, gX8_lineUpForLater_lat, gX8_lineUpForLater_lc, if_neg h1, if_neg h2])
def gX8_comeTo_seen (kin : Nat → Int32) (seen : Nat → Int32) (wc : Int32) (lc : Int32) (pl : Int32) : Nat → Int32 := if (kin pl.toNatClampNeg) ≠ 1 then gX8_lineUpForLater_seen seen lc pl else gX8_lineUp_seen seen wc pl
def gX8_comeTo_wai (kin : Nat → Int32) (seen : Nat → Int32) (wai : Nat → Int32) (wc : Int32) (pl : Int32) : Nat → Int32 := if (kin pl.toNatClampNeg) ≠ 1 then wai else gX8_lineUp_wai seen wai wc pl
def gX8_comeTo_wc (kin : Nat → Int32) (seen : Nat → Int32) (wc : Int32) (pl : Int32) : Int32 := if (kin pl.toNatClampNeg) ≠ 1 then wc else gX8_lineUp_wc seen wc pl
def gX8_comeTo_lat (kin : Nat → Int32) (seen : Nat → Int32) (lat : Nat → Int32) (lc : Int32) (pl : Int32) : Nat → Int32 := if (kin pl.toNatClampNeg) ≠ 1 then gX8_lineUpForLater_lat seen lat lc pl else lat
def gX8_comeTo_lc (kin : Nat → Int32) (seen : Nat → Int32) (lc : Int32) (pl : Int32) : Int32 := if (kin pl.toNatClampNeg) ≠ 1 then gX8_lineUpForLater_lc seen lc pl else lc
set_option maxRecDepth 20000 in
theorem t_X8_comeTo (r0 : List va_E) (r1 : List va_E) (r2 : List va_E) (r3 : List va_E) (kin : Nat → Int32) (seen : Nat → Int32) (wai : Nat → Int32) (wc : Int32) (lat : Nat → Int32) (lc : Int32) (r5 : List va_E) (r6 : List va_E) (r7 : List va_E) (r8 : List va_E) (r9 : List va_E) (pl : Int32) (K : (¬ (pl < 0 ∨ 100 ≤ pl.toNatClampNeg) ∧ (((kin pl.toNatClampNeg) ≠ 1 → ((¬ (pl < 0 ∨ 100 ≤ pl.toNatClampNeg) ∧ (((seen pl.toNatClampNeg) ≠ 0 → True) ∧ (¬ ((seen pl.toNatClampNeg) ≠ 0) → (((100 : Int32) ≤ lc → True) ∧ (¬ ((100 : Int32) ≤ lc) → (¬ (pl < 0 ∨ 100 ≤ pl.toNatClampNeg) ∧ (¬ (lc < 0 ∨ 100 ≤ lc.toNatClampNeg)))))))))) ∧ (¬ ((kin pl.toNatClampNeg) ≠ 1) → ((¬ (pl < 0 ∨ 100 ≤ pl.toNatClampNeg) ∧ (((seen pl.toNatClampNeg) ≠ 0 → True) ∧ (¬ ((seen pl.toNatClampNeg) ≠ 0) → (((100 : Int32) ≤ wc → True) ∧ (¬ ((100 : Int32) ≤ wc) → (¬ (pl < 0 ∨ 100 ≤ pl.toNatClampNeg) ∧ (¬ (wc < 0 ∨ 100 ≤ wc.toNatClampNeg))))))))))))) : xC MX8_comeTo 1 [.ref 4096, .int pl] ([r0, r1, r2, r3, rSkin kin seen wai wc lat lc, r5, r6, r7, r8, r9]) (none) ([r0, r1, r2, r3, rSkin kin (gX8_comeTo_seen kin seen wc lc pl) (gX8_comeTo_wai kin seen wai wc pl) (gX8_comeTo_wc kin seen wc pl) (gX8_comeTo_lat kin seen lat lc pl) (gX8_comeTo_lc kin seen lc pl), r5, r6, r7, r8, r9]) := by
  refine ⟨Nat.le_of_ble_eq_true rfl, ?_⟩
  show xBody MX8_comeTo 1 0 [some (.ref 4096), some (.int pl)] [] ([r0, r1, r2, r3, rSkin kin seen wai wc lat lc, r5, r6, r7, r8, r9]) _ _
  refine xB.run oX8_comeTo 3 (s := (5, [some (.ref 4096), some (.int pl)], [.int pl, .ref 4097], [r0, r1, r2, r3, rSkin kin seen wai wc lat lc, r5, r6, r7, r8, r9])) rfl ?_
  refine xB.iald oX8_comeTo (o := 4097) (N := 100) (f := kin) rfl rfl K.1 ?_
  have K := K.2
  refine xB.run oX8_comeTo 1 (s := (7, [some (.ref 4096), some (.int pl)], [.int 1, .int (kin pl.toNatClampNeg)], [r0, r1, r2, r3, rSkin kin seen wai wc lat lc, r5, r6, r7, r8, r9])) rfl ?_
  refine xB.br oX8_comeTo (P := (kin pl.toNatClampNeg) ≠ 1) rfl (fun h1 => ?_) (fun h1 => ?_)
  · have K := K.1 h1
    refine xB.run oX8_comeTo 2 (s := (20, [some (.ref 4096), some (.int pl)], [.int pl, .ref 4096], [r0, r1, r2, r3, rSkin kin seen wai wc lat lc, r5, r6, r7, r8, r9])) rfl ?_
    refine xB.call oX8_comeTo (M2 := MX8_lineUpForLater) rfl rfl ((t_X8_lineUpForLater r0 r1 r2 r3 kin seen wai wc lat lc r5 r6 r7 r8 r9 pl K).deep (by decide : 0 ≤ 0)) ?_
    show xBody MX8_comeTo 1 23 [some (.ref 4096), some (.int pl)] [] ([r0, r1, r2, r3, rSkin kin (gX8_lineUpForLater_seen seen lc pl) wai wc (gX8_lineUpForLater_lat seen lat lc pl) (gX8_lineUpForLater_lc seen lc pl), r5, r6, r7, r8, r9]) _ _
    exact xB.ret oX8_comeTo (r1 := none) rfl rfl (by simp only [gX8_comeTo_seen, gX8_comeTo_wai, gX8_comeTo_wc, gX8_comeTo_lat, gX8_comeTo_lc, if_pos h1])
  · have K := K.2 h1
    refine xB.run oX8_comeTo 2 (s := (12, [some (.ref 4096), some (.int pl)], [.int pl, .ref 4096], [r0, r1, r2, r3, rSkin kin seen wai wc lat lc, r5, r6, r7, r8, r9])) rfl ?_
    refine xB.call oX8_comeTo (M2 := MX8_lineUp) rfl rfl ((t_X8_lineUp r0 r1 r2 r3 kin seen wai wc lat lc r5 r6 r7 r8 r9 pl K).deep (by decide : 0 ≤ 0)) ?_
    show xBody MX8_comeTo 1 15 [some (.ref 4096), some (.int pl)] [] ([r0, r1, r2, r3, rSkin kin (gX8_lineUp_seen seen wc pl) (gX8_lineUp_wai seen wai wc pl) (gX8_lineUp_wc seen wc pl) lat lc, r5, r6, r7, r8, r9]) _ _
    refine xB.run oX8_comeTo 1 (s := (23, [some (.ref 4096), some (.int pl)], [], [r0, r1, r2, r3, rSkin kin (gX8_lineUp_seen seen wc pl) (gX8_lineUp_wai seen wai wc pl) (gX8_lineUp_wc seen wc pl) lat lc, r5, r6, r7, r8, r9])) rfl ?_
    exact xB.ret oX8_comeTo (r1 := none) rfl rfl (by simp only [gX8_comeTo_seen, gX8_comeTo_wai, gX8_comeTo_wc, gX8_comeTo_lat, gX8_comeTo_lc, if_neg h1])
set_option maxRecDepth 20000 in
theorem t_X2_howMany (r0 : List va_E) (outs : Nat → Int32) (downs : Nat → Int32) (wts : Nat → Int32) (pn : Int32) (codes : Nat → Int32) (ro : Nat → Int32) (rd : Nat → Int32) (rw : Nat → Int32) (cn : Int32) (at_ : Int32) (fw : Int32) (sums : Nat → Nat → Int32) (r2 : List va_E) (r3 : List va_E) (r4 : List va_E) (r5 : List va_E) (r6 : List va_E) (r7 : List va_E) (r8 : List va_E) (r9 : List va_E) : xC MX2_howMany 0 [.ref 1024] ([r0, rDome outs downs wts pn codes ro rd rw cn at_ fw sums, r2, r3, r4, r5, r6, r7, r8, r9]) (some (.int pn)) ([r0, rDome outs downs wts pn codes ro rd rw cn at_ fw sums, r2, r3, r4, r5, r6, r7, r8, r9]) := by
  refine ⟨Nat.le_of_ble_eq_true rfl, ?_⟩
  show xBody MX2_howMany 0 0 [some (.ref 1024)] [] ([r0, rDome outs downs wts pn codes ro rd rw cn at_ fw sums, r2, r3, r4, r5, r6, r7, r8, r9]) _ _
  refine xB.run oX2_howMany 2 (s := (4, [some (.ref 1024)], [.int pn], [r0, rDome outs downs wts pn codes ro rd rw cn at_ fw sums, r2, r3, r4, r5, r6, r7, r8, r9])) rfl ?_
  exact xB.ret oX2_howMany (r1 := some (.int pn)) rfl rfl rfl
def fX2_isPanel (pn : Int32) (p : Int32) : Int32 := if p < 0 then 0 else if pn ≤ p then 0 else 1
theorem fX2_isPanel_01 (pn : Int32) (p : Int32) : fX2_isPanel pn p = 0 ∨ fX2_isPanel pn p = 1 := by
  unfold fX2_isPanel
  (repeat' split) <;> first | exact Or.inl rfl | exact Or.inr rfl
set_option maxRecDepth 20000 in
theorem t_X2_isPanel (r0 : List va_E) (outs : Nat → Int32) (downs : Nat → Int32) (wts : Nat → Int32) (pn : Int32) (codes : Nat → Int32) (ro : Nat → Int32) (rd : Nat → Int32) (rw : Nat → Int32) (cn : Int32) (at_ : Int32) (fw : Int32) (sums : Nat → Nat → Int32) (r2 : List va_E) (r3 : List va_E) (r4 : List va_E) (r5 : List va_E) (r6 : List va_E) (r7 : List va_E) (r8 : List va_E) (r9 : List va_E) (p : Int32) : xC MX2_isPanel 0 [.ref 1024, .int p] ([r0, rDome outs downs wts pn codes ro rd rw cn at_ fw sums, r2, r3, r4, r5, r6, r7, r8, r9]) (some (.int (fX2_isPanel pn p))) ([r0, rDome outs downs wts pn codes ro rd rw cn at_ fw sums, r2, r3, r4, r5, r6, r7, r8, r9]) := by
  refine ⟨Nat.le_of_ble_eq_true rfl, ?_⟩
  show xBody MX2_isPanel 0 0 [some (.ref 1024), some (.int p)] [] ([r0, rDome outs downs wts pn codes ro rd rw cn at_ fw sums, r2, r3, r4, r5, r6, r7, r8, r9]) _ _
  refine xB.run oX2_isPanel 1 (s := (1, [some (.ref 1024), some (.int p)], [.int p], [r0, rDome outs downs wts pn codes ro rd rw cn at_ fw sums, r2, r3, r4, r5, r6, r7, r8, r9])) rfl ?_
  refine xB.br oX2_isPanel (P := p < 0) rfl (fun h1 => ?_) (fun h1 => ?_)
  · skip
    refine xB.run oX2_isPanel 1 (s := (17, [some (.ref 1024), some (.int p)], [.int 0], [r0, rDome outs downs wts pn codes ro rd rw cn at_ fw sums, r2, r3, r4, r5, r6, r7, r8, r9])) rfl ?_
    exact xB.ret oX2_isPanel (r1 := some (.int 0)) rfl (by simp only [fX2_isPanel, if_pos h1]) rfl
  · skip
    refine xB.run oX2_isPanel 3 (s := (9, [some (.ref 1024), some (.int p)], [.int pn, .int p], [r0, rDome outs downs wts pn codes ro rd rw cn at_ fw sums, r2, r3, r4, r5, r6, r7, r8, r9])) rfl ?_
    refine xB.br oX2_isPanel (P := pn ≤ p) rfl (fun h2 => ?_) (fun h2 => ?_)
    · skip
      refine xB.run oX2_isPanel 1 (s := (17, [some (.ref 1024), some (.int p)], [.int 0], [r0, rDome outs downs wts pn codes ro rd rw cn at_ fw sums, r2, r3, r4, r5, r6, r7, r8, r9])) rfl ?_
      exact xB.ret oX2_isPanel (r1 := some (.int 0)) rfl (by simp only [fX2_isPanel, if_neg h1, if_pos h2]) rfl
    · skip
      refine xB.run oX2_isPanel 2 (s := (17, [some (.ref 1024), some (.int p)], [.int 1], [r0, rDome outs downs wts pn codes ro rd rw cn at_ fw sums, r2, r3, r4, r5, r6, r7, r8, r9])) rfl ?_
      exact xB.ret oX2_isPanel (r1 := some (.int 1)) rfl (by simp only [fX2_isPanel, if_neg h1, if_neg h2]) rfl
def gX2_takeCode_codes (codes : Nat → Int32) (pl : Int32) (code : Int32) : Nat → Int32 := if pl < 0 then codes else if (60 : Int32) ≤ pl then codes else upd codes pl.toNatClampNeg code
set_option maxRecDepth 20000 in
theorem t_X2_takeCode (r0 : List va_E) (outs : Nat → Int32) (downs : Nat → Int32) (wts : Nat → Int32) (pn : Int32) (codes : Nat → Int32) (ro : Nat → Int32) (rd : Nat → Int32) (rw : Nat → Int32) (cn : Int32) (at_ : Int32) (fw : Int32) (sums : Nat → Nat → Int32) (r2 : List va_E) (r3 : List va_E) (r4 : List va_E) (r5 : List va_E) (r6 : List va_E) (r7 : List va_E) (r8 : List va_E) (r9 : List va_E) (pl : Int32) (code : Int32) (K : ((pl < 0 → True) ∧ (¬ (pl < 0) → (((60 : Int32) ≤ pl → True) ∧ (¬ ((60 : Int32) ≤ pl) → (¬ (pl < 0 ∨ 60 ≤ pl.toNatClampNeg))))))) : xC MX2_takeCode 0 [.ref 1024, .int pl, .int code] ([r0, rDome outs downs wts pn codes ro rd rw cn at_ fw sums, r2, r3, r4, r5, r6, r7, r8, r9]) (none) ([r0, rDome outs downs wts pn (gX2_takeCode_codes codes pl code) ro rd rw cn at_ fw sums, r2, r3, r4, r5, r6, r7, r8, r9]) := by
  refine ⟨Nat.le_of_ble_eq_true rfl, ?_⟩
  show xBody MX2_takeCode 0 0 [some (.ref 1024), some (.int pl), some (.int code)] [] ([r0, rDome outs downs wts pn codes ro rd rw cn at_ fw sums, r2, r3, r4, r5, r6, r7, r8, r9]) _ _
  refine xB.run oX2_takeCode 1 (s := (1, [some (.ref 1024), some (.int pl), some (.int code)], [.int pl], [r0, rDome outs downs wts pn codes ro rd rw cn at_ fw sums, r2, r3, r4, r5, r6, r7, r8, r9])) rfl ?_
  refine xB.br oX2_takeCode (P := pl < 0) rfl (fun h1 => ?_) (fun h1 => ?_)
  · have K := K.1 h1
    exact xB.ret oX2_takeCode (r1 := none) rfl rfl (by simp only [gX2_takeCode_codes, if_pos h1])
  · have K := K.2 h1
    refine xB.run oX2_takeCode 2 (s := (7, [some (.ref 1024), some (.int pl), some (.int code)], [.int 60, .int pl], [r0, rDome outs downs wts pn codes ro rd rw cn at_ fw sums, r2, r3, r4, r5, r6, r7, r8, r9])) rfl ?_
    refine xB.br oX2_takeCode (P := (60 : Int32) ≤ pl) rfl (fun h2 => ?_) (fun h2 => ?_)
    · have K := K.1 h2
      exact xB.ret oX2_takeCode (r1 := none) rfl rfl (by simp only [gX2_takeCode_codes, if_neg h1, if_pos h2])
    · have K := K.2 h2
      refine xB.run oX2_takeCode 4 (s := (16, [some (.ref 1024), some (.int pl), some (.int code)], [.int code, .int pl, .ref 1028], [r0, rDome outs downs wts pn codes ro rd rw cn at_ fw sums, r2, r3, r4, r5, r6, r7, r8, r9])) rfl ?_
      refine xB.iast oX2_takeCode (o := 1028) (N := 60) (f := codes) (hp1 := [r0, rDome outs downs wts pn (upd codes pl.toNatClampNeg code) ro rd rw cn at_ fw sums, r2, r3, r4, r5, r6, r7, r8, r9]) rfl rfl (by decide) K rfl ?_
      exact xB.ret oX2_takeCode (r1 := none) rfl rfl (by simp only [gX2_takeCode_codes, if_neg h1, if_neg h2])
def gX2_wrongAt_fw (fw : Int32) (pl : Int32) : Int32 := if fw ≠ (-1) then fw else pl
set_option maxRecDepth 20000 in
theorem t_X2_wrongAt (r0 : List va_E) (outs : Nat → Int32) (downs : Nat → Int32) (wts : Nat → Int32) (pn : Int32) (codes : Nat → Int32) (ro : Nat → Int32) (rd : Nat → Int32) (rw : Nat → Int32) (cn : Int32) (at_ : Int32) (fw : Int32) (sums : Nat → Nat → Int32) (r2 : List va_E) (r3 : List va_E) (r4 : List va_E) (r5 : List va_E) (r6 : List va_E) (r7 : List va_E) (r8 : List va_E) (r9 : List va_E) (pl : Int32) : xC MX2_wrongAt 0 [.ref 1024, .int pl] ([r0, rDome outs downs wts pn codes ro rd rw cn at_ fw sums, r2, r3, r4, r5, r6, r7, r8, r9]) (none) ([r0, rDome outs downs wts pn codes ro rd rw cn at_ (gX2_wrongAt_fw fw pl) sums, r2, r3, r4, r5, r6, r7, r8, r9]) := by
  refine ⟨Nat.le_of_ble_eq_true rfl, ?_⟩
  show xBody MX2_wrongAt 0 0 [some (.ref 1024), some (.int pl)] [] ([r0, rDome outs downs wts pn codes ro rd rw cn at_ fw sums, r2, r3, r4, r5, r6, r7, r8, r9]) _ _
  refine xB.run oX2_wrongAt 3 (s := (5, [some (.ref 1024), some (.int pl)], [.int (-1), .int fw], [r0, rDome outs downs wts pn codes ro rd rw cn at_ fw sums, r2, r3, r4, r5, r6, r7, r8, r9])) rfl ?_
  refine xB.br oX2_wrongAt (P := fw ≠ (-1)) rfl (fun h1 => ?_) (fun h1 => ?_)
  · skip
    exact xB.ret oX2_wrongAt (r1 := none) rfl rfl (by simp only [gX2_wrongAt_fw, if_pos h1])
  · skip
    refine xB.run oX2_wrongAt 3 (s := (13, [some (.ref 1024), some (.int pl)], [], [r0, rDome outs downs wts pn codes ro rd rw cn at_ pl sums, r2, r3, r4, r5, r6, r7, r8, r9])) rfl ?_
    exact xB.ret oX2_wrongAt (r1 := none) rfl rfl (by simp only [gX2_wrongAt_fw, if_neg h1])
def fX2_stepOver (codes : Nat → Int32) (cn : Int32) (at_ : Int32) (code : Int32) : Int32 := if at_ < 0 then 0 else if cn ≤ at_ then 0 else if (codes at_.toNatClampNeg) = code then 1 else 0
theorem fX2_stepOver_01 (codes : Nat → Int32) (cn : Int32) (at_ : Int32) (code : Int32) : fX2_stepOver codes cn at_ code = 0 ∨ fX2_stepOver codes cn at_ code = 1 := by
  unfold fX2_stepOver
  (repeat' split) <;> first | exact Or.inl rfl | exact Or.inr rfl
def gX2_stepOver_at_ (codes : Nat → Int32) (cn : Int32) (at_ : Int32) (code : Int32) : Int32 := if at_ < 0 then at_ else if cn ≤ at_ then at_ else if (codes at_.toNatClampNeg) = code then at_ + 1 else at_
set_option maxRecDepth 20000 in
theorem t_X2_stepOver (r0 : List va_E) (outs : Nat → Int32) (downs : Nat → Int32) (wts : Nat → Int32) (pn : Int32) (codes : Nat → Int32) (ro : Nat → Int32) (rd : Nat → Int32) (rw : Nat → Int32) (cn : Int32) (at_ : Int32) (fw : Int32) (sums : Nat → Nat → Int32) (r2 : List va_E) (r3 : List va_E) (r4 : List va_E) (r5 : List va_E) (r6 : List va_E) (r7 : List va_E) (r8 : List va_E) (r9 : List va_E) (code : Int32) (K : ((at_ < 0 → True) ∧ (¬ (at_ < 0) → ((cn ≤ at_ → True) ∧ (¬ (cn ≤ at_) → (¬ (at_ < 0 ∨ 60 ≤ at_.toNatClampNeg))))))) : xC MX2_stepOver 0 [.ref 1024, .int code] ([r0, rDome outs downs wts pn codes ro rd rw cn at_ fw sums, r2, r3, r4, r5, r6, r7, r8, r9]) (some (.int (fX2_stepOver codes cn at_ code))) ([r0, rDome outs downs wts pn codes ro rd rw cn (gX2_stepOver_at_ codes cn at_ code) fw sums, r2, r3, r4, r5, r6, r7, r8, r9]) := by
  refine ⟨Nat.le_of_ble_eq_true rfl, ?_⟩
  show xBody MX2_stepOver 0 0 [some (.ref 1024), some (.int code)] [] ([r0, rDome outs downs wts pn codes ro rd rw cn at_ fw sums, r2, r3, r4, r5, r6, r7, r8, r9]) _ _
  refine xB.run oX2_stepOver 2 (s := (4, [some (.ref 1024), some (.int code)], [.int at_], [r0, rDome outs downs wts pn codes ro rd rw cn at_ fw sums, r2, r3, r4, r5, r6, r7, r8, r9])) rfl ?_
  refine xB.br oX2_stepOver (P := at_ < 0) rfl (fun h1 => ?_) (fun h1 => ?_)
  · have K := K.1 h1
    refine xB.run oX2_stepOver 1 (s := (32, [some (.ref 1024), some (.int code)], [.int 0], [r0, rDome outs downs wts pn codes ro rd rw cn at_ fw sums, r2, r3, r4, r5, r6, r7, r8, r9])) rfl ?_
    exact xB.ret oX2_stepOver (r1 := some (.int 0)) rfl (by simp only [fX2_stepOver, gX2_stepOver_at_, if_pos h1]) (by simp only [fX2_stepOver, gX2_stepOver_at_, if_pos h1])
  · have K := K.2 h1
    refine xB.run oX2_stepOver 4 (s := (15, [some (.ref 1024), some (.int code)], [.int cn, .int at_], [r0, rDome outs downs wts pn codes ro rd rw cn at_ fw sums, r2, r3, r4, r5, r6, r7, r8, r9])) rfl ?_
    refine xB.br oX2_stepOver (P := cn ≤ at_) rfl (fun h2 => ?_) (fun h2 => ?_)
    · have K := K.1 h2
      refine xB.run oX2_stepOver 1 (s := (32, [some (.ref 1024), some (.int code)], [.int 0], [r0, rDome outs downs wts pn codes ro rd rw cn at_ fw sums, r2, r3, r4, r5, r6, r7, r8, r9])) rfl ?_
      exact xB.ret oX2_stepOver (r1 := some (.int 0)) rfl (by simp only [fX2_stepOver, gX2_stepOver_at_, if_neg h1, if_pos h2]) (by simp only [fX2_stepOver, gX2_stepOver_at_, if_neg h1, if_pos h2])
    · have K := K.2 h2
      refine xB.run oX2_stepOver 4 (s := (26, [some (.ref 1024), some (.int code)], [.int at_, .ref 1028], [r0, rDome outs downs wts pn codes ro rd rw cn at_ fw sums, r2, r3, r4, r5, r6, r7, r8, r9])) rfl ?_
      refine xB.iald oX2_stepOver (o := 1028) (N := 60) (f := codes) rfl rfl K ?_
      refine xB.run oX2_stepOver 1 (s := (28, [some (.ref 1024), some (.int code)], [.int code, .int (codes at_.toNatClampNeg)], [r0, rDome outs downs wts pn codes ro rd rw cn at_ fw sums, r2, r3, r4, r5, r6, r7, r8, r9])) rfl ?_
      refine xB.br oX2_stepOver (P := (codes at_.toNatClampNeg) = code) rfl (fun h3 => ?_) (fun h3 => ?_)
      · skip
        refine xB.run oX2_stepOver 7 (s := (44, [some (.ref 1024), some (.int code)], [.int 1], [r0, rDome outs downs wts pn codes ro rd rw cn (at_ + 1) fw sums, r2, r3, r4, r5, r6, r7, r8, r9])) rfl ?_
        exact xB.ret oX2_stepOver (r1 := some (.int 1)) rfl (by simp only [fX2_stepOver, gX2_stepOver_at_, if_neg h1, if_neg h2, if_pos h3]) (by simp only [fX2_stepOver, gX2_stepOver_at_, if_neg h1, if_neg h2, if_pos h3])
      · skip
        refine xB.run oX2_stepOver 1 (s := (32, [some (.ref 1024), some (.int code)], [.int 0], [r0, rDome outs downs wts pn codes ro rd rw cn at_ fw sums, r2, r3, r4, r5, r6, r7, r8, r9])) rfl ?_
        exact xB.ret oX2_stepOver (r1 := some (.int 0)) rfl (by simp only [fX2_stepOver, gX2_stepOver_at_, if_neg h1, if_neg h2, if_neg h3]) (by simp only [fX2_stepOver, gX2_stepOver_at_, if_neg h1, if_neg h2, if_neg h3])
def gX2_need_at_ (codes : Nat → Int32) (cn : Int32) (at_ : Int32) (fw : Int32) (code : Int32) : Int32 := if fw ≠ (-1) then at_ else gX2_stepOver_at_ codes cn at_ code
def gX2_need_fw (codes : Nat → Int32) (cn : Int32) (at_ : Int32) (fw : Int32) (code : Int32) : Int32 := if fw ≠ (-1) then fw else if (fX2_stepOver codes cn at_ code) ≠ 0 then fw else gX2_wrongAt_fw fw (gX2_stepOver_at_ codes cn at_ code)
set_option maxRecDepth 20000 in
theorem t_X2_need (r0 : List va_E) (outs : Nat → Int32) (downs : Nat → Int32) (wts : Nat → Int32) (pn : Int32) (codes : Nat → Int32) (ro : Nat → Int32) (rd : Nat → Int32) (rw : Nat → Int32) (cn : Int32) (at_ : Int32) (fw : Int32) (sums : Nat → Nat → Int32) (r2 : List va_E) (r3 : List va_E) (r4 : List va_E) (r5 : List va_E) (r6 : List va_E) (r7 : List va_E) (r8 : List va_E) (r9 : List va_E) (code : Int32) (K : ((fw ≠ (-1) → True) ∧ (¬ (fw ≠ (-1)) → (((at_ < 0 → True) ∧ (¬ (at_ < 0) → ((cn ≤ at_ → True) ∧ (¬ (cn ≤ at_) → (¬ (at_ < 0 ∨ 60 ≤ at_.toNatClampNeg)))))))))) : xC MX2_need 1 [.ref 1024, .int code] ([r0, rDome outs downs wts pn codes ro rd rw cn at_ fw sums, r2, r3, r4, r5, r6, r7, r8, r9]) (none) ([r0, rDome outs downs wts pn codes ro rd rw cn (gX2_need_at_ codes cn at_ fw code) (gX2_need_fw codes cn at_ fw code) sums, r2, r3, r4, r5, r6, r7, r8, r9]) := by
  refine ⟨Nat.le_of_ble_eq_true rfl, ?_⟩
  show xBody MX2_need 1 0 [some (.ref 1024), some (.int code)] [] ([r0, rDome outs downs wts pn codes ro rd rw cn at_ fw sums, r2, r3, r4, r5, r6, r7, r8, r9]) _ _
  refine xB.run oX2_need 3 (s := (5, [some (.ref 1024), some (.int code)], [.int (-1), .int fw], [r0, rDome outs downs wts pn codes ro rd rw cn at_ fw sums, r2, r3, r4, r5, r6, r7, r8, r9])) rfl ?_
  refine xB.br oX2_need (P := fw ≠ (-1)) rfl (fun h1 => ?_) (fun h1 => ?_)
  · have K := K.1 h1
    exact xB.ret oX2_need (r1 := none) rfl rfl (by simp only [gX2_need_at_, gX2_need_fw, if_pos h1])
  · have K := K.2 h1
    refine xB.run oX2_need 2 (s := (10, [some (.ref 1024), some (.int code)], [.int code, .ref 1024], [r0, rDome outs downs wts pn codes ro rd rw cn at_ fw sums, r2, r3, r4, r5, r6, r7, r8, r9])) rfl ?_
    refine xB.call oX2_need (M2 := MX2_stepOver) rfl rfl ((t_X2_stepOver r0 outs downs wts pn codes ro rd rw cn at_ fw sums r2 r3 r4 r5 r6 r7 r8 r9 code K).deep (by decide : 0 ≤ 0)) ?_
    show xBody MX2_need 1 13 [some (.ref 1024), some (.int code)] [.int (fX2_stepOver codes cn at_ code)] ([r0, rDome outs downs wts pn codes ro rd rw cn (gX2_stepOver_at_ codes cn at_ code) fw sums, r2, r3, r4, r5, r6, r7, r8, r9]) _ _
    refine xB.br oX2_need (P := (fX2_stepOver codes cn at_ code) ≠ 0) rfl (fun h2 => ?_) (fun h2 => ?_)
    · skip
      exact xB.ret oX2_need (r1 := none) rfl rfl (by simp only [gX2_need_at_, gX2_need_fw, if_neg h1, if_pos h2])
    · skip
      refine xB.run oX2_need 3 (s := (21, [some (.ref 1024), some (.int code)], [.int (gX2_stepOver_at_ codes cn at_ code), .ref 1024], [r0, rDome outs downs wts pn codes ro rd rw cn (gX2_stepOver_at_ codes cn at_ code) fw sums, r2, r3, r4, r5, r6, r7, r8, r9])) rfl ?_
      refine xB.call oX2_need (M2 := MX2_wrongAt) rfl rfl ((t_X2_wrongAt r0 outs downs wts pn codes ro rd rw cn (gX2_stepOver_at_ codes cn at_ code) fw sums r2 r3 r4 r5 r6 r7 r8 r9 (gX2_stepOver_at_ codes cn at_ code)).deep (by decide : 0 ≤ 0)) ?_
      show xBody MX2_need 1 24 [some (.ref 1024), some (.int code)] [] ([r0, rDome outs downs wts pn codes ro rd rw cn (gX2_stepOver_at_ codes cn at_ code) (gX2_wrongAt_fw fw (gX2_stepOver_at_ codes cn at_ code)) sums, r2, r3, r4, r5, r6, r7, r8, r9]) _ _
      exact xB.ret oX2_need (r1 := none) rfl rfl (by simp only [gX2_need_at_, gX2_need_fw, if_neg h1, if_neg h2])
def fX2_squareOf (outs : Nat → Int32) (downs : Nat → Int32) (p : Int32) : Int64 := (((outs p.toNatClampNeg).toInt64) * ((outs p.toNatClampNeg).toInt64)) + (((downs p.toNatClampNeg).toInt64) * ((downs p.toNatClampNeg).toInt64))
set_option maxRecDepth 20000 in
theorem t_X2_squareOf (r0 : List va_E) (outs : Nat → Int32) (downs : Nat → Int32) (wts : Nat → Int32) (pn : Int32) (codes : Nat → Int32) (ro : Nat → Int32) (rd : Nat → Int32) (rw : Nat → Int32) (cn : Int32) (at_ : Int32) (fw : Int32) (sums : Nat → Nat → Int32) (r2 : List va_E) (r3 : List va_E) (r4 : List va_E) (r5 : List va_E) (r6 : List va_E) (r7 : List va_E) (r8 : List va_E) (r9 : List va_E) (p : Int32) (K : (¬ (p < 0 ∨ 8 ≤ p.toNatClampNeg) ∧ (¬ (p < 0 ∨ 8 ≤ p.toNatClampNeg) ∧ (¬ (p < 0 ∨ 8 ≤ p.toNatClampNeg) ∧ (¬ (p < 0 ∨ 8 ≤ p.toNatClampNeg)))))) : xC MX2_squareOf 0 [.ref 1024, .int p] ([r0, rDome outs downs wts pn codes ro rd rw cn at_ fw sums, r2, r3, r4, r5, r6, r7, r8, r9]) (some (.long (fX2_squareOf outs downs p))) ([r0, rDome outs downs wts pn codes ro rd rw cn at_ fw sums, r2, r3, r4, r5, r6, r7, r8, r9]) := by
  refine ⟨Nat.le_of_ble_eq_true rfl, ?_⟩
  show xBody MX2_squareOf 0 0 [some (.ref 1024), some (.int p)] [] ([r0, rDome outs downs wts pn codes ro rd rw cn at_ fw sums, r2, r3, r4, r5, r6, r7, r8, r9]) _ _
  refine xB.run oX2_squareOf 3 (s := (5, [some (.ref 1024), some (.int p)], [.int p, .ref 1025], [r0, rDome outs downs wts pn codes ro rd rw cn at_ fw sums, r2, r3, r4, r5, r6, r7, r8, r9])) rfl ?_
  refine xB.iald oX2_squareOf (o := 1025) (N := 8) (f := outs) rfl rfl K.1 ?_
  have K := K.2
  refine xB.run oX2_squareOf 4 (s := (12, [some (.ref 1024), some (.int p)], [.int p, .ref 1025, .long ((outs p.toNatClampNeg).toInt64)], [r0, rDome outs downs wts pn codes ro rd rw cn at_ fw sums, r2, r3, r4, r5, r6, r7, r8, r9])) rfl ?_
  refine xB.iald oX2_squareOf (o := 1025) (N := 8) (f := outs) rfl rfl K.1 ?_
  have K := K.2
  refine xB.run oX2_squareOf 5 (s := (20, [some (.ref 1024), some (.int p)], [.int p, .ref 1026, .long (((outs p.toNatClampNeg).toInt64) * ((outs p.toNatClampNeg).toInt64))], [r0, rDome outs downs wts pn codes ro rd rw cn at_ fw sums, r2, r3, r4, r5, r6, r7, r8, r9])) rfl ?_
  refine xB.iald oX2_squareOf (o := 1026) (N := 8) (f := downs) rfl rfl K.1 ?_
  have K := K.2
  refine xB.run oX2_squareOf 4 (s := (27, [some (.ref 1024), some (.int p)], [.int p, .ref 1026, .long ((downs p.toNatClampNeg).toInt64), .long (((outs p.toNatClampNeg).toInt64) * ((outs p.toNatClampNeg).toInt64))], [r0, rDome outs downs wts pn codes ro rd rw cn at_ fw sums, r2, r3, r4, r5, r6, r7, r8, r9])) rfl ?_
  refine xB.iald oX2_squareOf (o := 1026) (N := 8) (f := downs) rfl rfl K ?_
  refine xB.run oX2_squareOf 3 (s := (31, [some (.ref 1024), some (.int p)], [.long ((((outs p.toNatClampNeg).toInt64) * ((outs p.toNatClampNeg).toInt64)) + (((downs p.toNatClampNeg).toInt64) * ((downs p.toNatClampNeg).toInt64)))], [r0, rDome outs downs wts pn codes ro rd rw cn at_ fw sums, r2, r3, r4, r5, r6, r7, r8, r9])) rfl ?_
  exact xB.ret oX2_squareOf (r1 := some (.long ((((outs p.toNatClampNeg).toInt64) * ((outs p.toNatClampNeg).toInt64)) + (((downs p.toNatClampNeg).toInt64) * ((downs p.toNatClampNeg).toInt64))))) rfl (by simp only [fX2_squareOf]) rfl
set_option maxRecDepth 20000 in
theorem t_X5_howManyLinks (r0 : List va_E) (r1 : List va_E) (lk : Int32) (spr : Nat → Int32) (bend : Nat → Nat → Int64) (shrt : Nat → Nat → Int64) (mins : Nat → Nat → Int64) (pol : Nat → Int64) (shf : Nat → Int64) (fac : Nat → Int32) (r3 : List va_E) (r4 : List va_E) (r5 : List va_E) (r6 : List va_E) (r7 : List va_E) (r8 : List va_E) (r9 : List va_E) : xC MX5_howManyLinks 0 [.ref 2048] ([r0, r1, rRib lk spr bend shrt mins pol shf fac, r3, r4, r5, r6, r7, r8, r9]) (some (.int lk)) ([r0, r1, rRib lk spr bend shrt mins pol shf fac, r3, r4, r5, r6, r7, r8, r9]) := by
  refine ⟨Nat.le_of_ble_eq_true rfl, ?_⟩
  show xBody MX5_howManyLinks 0 0 [some (.ref 2048)] [] ([r0, r1, rRib lk spr bend shrt mins pol shf fac, r3, r4, r5, r6, r7, r8, r9]) _ _
  refine xB.run oX5_howManyLinks 2 (s := (4, [some (.ref 2048)], [.int lk], [r0, r1, rRib lk spr bend shrt mins pol shf fac, r3, r4, r5, r6, r7, r8, r9])) rfl ?_
  exact xB.ret oX5_howManyLinks (r1 := some (.int lk)) rfl rfl rfl
def fX5_isJoint (lk : Int32) (j : Int32) : Int32 := if j < 1 then 0 else if lk ≤ j then 0 else 1
theorem fX5_isJoint_01 (lk : Int32) (j : Int32) : fX5_isJoint lk j = 0 ∨ fX5_isJoint lk j = 1 := by
  unfold fX5_isJoint
  (repeat' split) <;> first | exact Or.inl rfl | exact Or.inr rfl
set_option maxRecDepth 20000 in
theorem t_X5_isJoint (r0 : List va_E) (r1 : List va_E) (lk : Int32) (spr : Nat → Int32) (bend : Nat → Nat → Int64) (shrt : Nat → Nat → Int64) (mins : Nat → Nat → Int64) (pol : Nat → Int64) (shf : Nat → Int64) (fac : Nat → Int32) (r3 : List va_E) (r4 : List va_E) (r5 : List va_E) (r6 : List va_E) (r7 : List va_E) (r8 : List va_E) (r9 : List va_E) (j : Int32) : xC MX5_isJoint 0 [.ref 2048, .int j] ([r0, r1, rRib lk spr bend shrt mins pol shf fac, r3, r4, r5, r6, r7, r8, r9]) (some (.int (fX5_isJoint lk j))) ([r0, r1, rRib lk spr bend shrt mins pol shf fac, r3, r4, r5, r6, r7, r8, r9]) := by
  refine ⟨Nat.le_of_ble_eq_true rfl, ?_⟩
  show xBody MX5_isJoint 0 0 [some (.ref 2048), some (.int j)] [] ([r0, r1, rRib lk spr bend shrt mins pol shf fac, r3, r4, r5, r6, r7, r8, r9]) _ _
  refine xB.run oX5_isJoint 2 (s := (2, [some (.ref 2048), some (.int j)], [.int 1, .int j], [r0, r1, rRib lk spr bend shrt mins pol shf fac, r3, r4, r5, r6, r7, r8, r9])) rfl ?_
  refine xB.br oX5_isJoint (P := j < 1) rfl (fun h1 => ?_) (fun h1 => ?_)
  · skip
    refine xB.run oX5_isJoint 1 (s := (18, [some (.ref 2048), some (.int j)], [.int 0], [r0, r1, rRib lk spr bend shrt mins pol shf fac, r3, r4, r5, r6, r7, r8, r9])) rfl ?_
    exact xB.ret oX5_isJoint (r1 := some (.int 0)) rfl (by simp only [fX5_isJoint, if_pos h1]) rfl
  · skip
    refine xB.run oX5_isJoint 3 (s := (10, [some (.ref 2048), some (.int j)], [.int lk, .int j], [r0, r1, rRib lk spr bend shrt mins pol shf fac, r3, r4, r5, r6, r7, r8, r9])) rfl ?_
    refine xB.br oX5_isJoint (P := lk ≤ j) rfl (fun h2 => ?_) (fun h2 => ?_)
    · skip
      refine xB.run oX5_isJoint 1 (s := (18, [some (.ref 2048), some (.int j)], [.int 0], [r0, r1, rRib lk spr bend shrt mins pol shf fac, r3, r4, r5, r6, r7, r8, r9])) rfl ?_
      exact xB.ret oX5_isJoint (r1 := some (.int 0)) rfl (by simp only [fX5_isJoint, if_neg h1, if_pos h2]) rfl
    · skip
      refine xB.run oX5_isJoint 2 (s := (18, [some (.ref 2048), some (.int j)], [.int 1], [r0, r1, rRib lk spr bend shrt mins pol shf fac, r3, r4, r5, r6, r7, r8, r9])) rfl ?_
      exact xB.ret oX5_isJoint (r1 := some (.int 1)) rfl (by simp only [fX5_isJoint, if_neg h1, if_neg h2]) rfl
def fX5_isPower (lk : Int32) (k : Int32) : Int32 := if k < 0 then 0 else if lk ≤ k then 0 else 1
theorem fX5_isPower_01 (lk : Int32) (k : Int32) : fX5_isPower lk k = 0 ∨ fX5_isPower lk k = 1 := by
  unfold fX5_isPower
  (repeat' split) <;> first | exact Or.inl rfl | exact Or.inr rfl
set_option maxRecDepth 20000 in
theorem t_X5_isPower (r0 : List va_E) (r1 : List va_E) (lk : Int32) (spr : Nat → Int32) (bend : Nat → Nat → Int64) (shrt : Nat → Nat → Int64) (mins : Nat → Nat → Int64) (pol : Nat → Int64) (shf : Nat → Int64) (fac : Nat → Int32) (r3 : List va_E) (r4 : List va_E) (r5 : List va_E) (r6 : List va_E) (r7 : List va_E) (r8 : List va_E) (r9 : List va_E) (k : Int32) : xC MX5_isPower 0 [.ref 2048, .int k] ([r0, r1, rRib lk spr bend shrt mins pol shf fac, r3, r4, r5, r6, r7, r8, r9]) (some (.int (fX5_isPower lk k))) ([r0, r1, rRib lk spr bend shrt mins pol shf fac, r3, r4, r5, r6, r7, r8, r9]) := by
  refine ⟨Nat.le_of_ble_eq_true rfl, ?_⟩
  show xBody MX5_isPower 0 0 [some (.ref 2048), some (.int k)] [] ([r0, r1, rRib lk spr bend shrt mins pol shf fac, r3, r4, r5, r6, r7, r8, r9]) _ _
  refine xB.run oX5_isPower 1 (s := (1, [some (.ref 2048), some (.int k)], [.int k], [r0, r1, rRib lk spr bend shrt mins pol shf fac, r3, r4, r5, r6, r7, r8, r9])) rfl ?_
  refine xB.br oX5_isPower (P := k < 0) rfl (fun h1 => ?_) (fun h1 => ?_)
  · skip
    refine xB.run oX5_isPower 1 (s := (17, [some (.ref 2048), some (.int k)], [.int 0], [r0, r1, rRib lk spr bend shrt mins pol shf fac, r3, r4, r5, r6, r7, r8, r9])) rfl ?_
    exact xB.ret oX5_isPower (r1 := some (.int 0)) rfl (by simp only [fX5_isPower, if_pos h1]) rfl
  · skip
    refine xB.run oX5_isPower 3 (s := (9, [some (.ref 2048), some (.int k)], [.int lk, .int k], [r0, r1, rRib lk spr bend shrt mins pol shf fac, r3, r4, r5, r6, r7, r8, r9])) rfl ?_
    refine xB.br oX5_isPower (P := lk ≤ k) rfl (fun h2 => ?_) (fun h2 => ?_)
    · skip
      refine xB.run oX5_isPower 1 (s := (17, [some (.ref 2048), some (.int k)], [.int 0], [r0, r1, rRib lk spr bend shrt mins pol shf fac, r3, r4, r5, r6, r7, r8, r9])) rfl ?_
      exact xB.ret oX5_isPower (r1 := some (.int 0)) rfl (by simp only [fX5_isPower, if_neg h1, if_pos h2]) rfl
    · skip
      refine xB.run oX5_isPower 2 (s := (17, [some (.ref 2048), some (.int k)], [.int 1], [r0, r1, rRib lk spr bend shrt mins pol shf fac, r3, r4, r5, r6, r7, r8, r9])) rfl ?_
      exact xB.ret oX5_isPower (r1 := some (.int 1)) rfl (by simp only [fX5_isPower, if_neg h1, if_neg h2]) rfl
def fX5_numberByPower (lk : Int32) (pol : Nat → Int64) (k : Int32) : Int64 := if (fX5_isPower lk k) = 0 then (-9223372036854775808) else pol k.toNatClampNeg
set_option maxRecDepth 20000 in
theorem t_X5_numberByPower (r0 : List va_E) (r1 : List va_E) (lk : Int32) (spr : Nat → Int32) (bend : Nat → Nat → Int64) (shrt : Nat → Nat → Int64) (mins : Nat → Nat → Int64) (pol : Nat → Int64) (shf : Nat → Int64) (fac : Nat → Int32) (r3 : List va_E) (r4 : List va_E) (r5 : List va_E) (r6 : List va_E) (r7 : List va_E) (r8 : List va_E) (r9 : List va_E) (k : Int32) (K : (((fX5_isPower lk k) = 0 → True) ∧ (¬ ((fX5_isPower lk k) = 0) → (¬ (k < 0 ∨ 5 ≤ k.toNatClampNeg))))) : xC MX5_numberByPower 1 [.ref 2048, .int k] ([r0, r1, rRib lk spr bend shrt mins pol shf fac, r3, r4, r5, r6, r7, r8, r9]) (some (.long (fX5_numberByPower lk pol k))) ([r0, r1, rRib lk spr bend shrt mins pol shf fac, r3, r4, r5, r6, r7, r8, r9]) := by
  refine ⟨Nat.le_of_ble_eq_true rfl, ?_⟩
  show xBody MX5_numberByPower 1 0 [some (.ref 2048), some (.int k)] [] ([r0, r1, rRib lk spr bend shrt mins pol shf fac, r3, r4, r5, r6, r7, r8, r9]) _ _
  refine xB.run oX5_numberByPower 2 (s := (2, [some (.ref 2048), some (.int k)], [.int k, .ref 2048], [r0, r1, rRib lk spr bend shrt mins pol shf fac, r3, r4, r5, r6, r7, r8, r9])) rfl ?_
  refine xB.call oX5_numberByPower (M2 := MX5_isPower) rfl rfl ((t_X5_isPower r0 r1 lk spr bend shrt mins pol shf fac r3 r4 r5 r6 r7 r8 r9 k).deep (by decide : 0 ≤ 0)) ?_
  show xBody MX5_numberByPower 1 5 [some (.ref 2048), some (.int k)] [.int (fX5_isPower lk k)] ([r0, r1, rRib lk spr bend shrt mins pol shf fac, r3, r4, r5, r6, r7, r8, r9]) _ _
  refine xB.br oX5_numberByPower (P := (fX5_isPower lk k) = 0) rfl (fun h1 => ?_) (fun h1 => ?_)
  · have K := K.1 h1
    refine xB.run oX5_numberByPower 1 (s := (20, [some (.ref 2048), some (.int k)], [.long (-9223372036854775808)], [r0, r1, rRib lk spr bend shrt mins pol shf fac, r3, r4, r5, r6, r7, r8, r9])) rfl ?_
    exact xB.ret oX5_numberByPower (r1 := some (.long (-9223372036854775808))) rfl (by simp only [fX5_numberByPower, if_pos h1]) rfl
  · have K := K.2 h1
    refine xB.run oX5_numberByPower 3 (s := (13, [some (.ref 2048), some (.int k)], [.int k, .ref 2077], [r0, r1, rRib lk spr bend shrt mins pol shf fac, r3, r4, r5, r6, r7, r8, r9])) rfl ?_
    refine xB.lald oX5_numberByPower (o := 2077) (N := 5) (f := pol) rfl rfl K ?_
    refine xB.run oX5_numberByPower 1 (s := (20, [some (.ref 2048), some (.int k)], [.long (pol k.toNatClampNeg)], [r0, r1, rRib lk spr bend shrt mins pol shf fac, r3, r4, r5, r6, r7, r8, r9])) rfl ?_
    exact xB.ret oX5_numberByPower (r1 := some (.long (pol k.toNatClampNeg))) rfl (by simp only [fX5_numberByPower, if_neg h1]) rfl
set_option maxRecDepth 20000 in
theorem t_X10_leave (r0 : List va_E) (r1 : List va_E) (r2 : List va_E) (trv : Int32) (xs : Nat → Int32) (ys : Nat → Int32) (fn : Nat → Int32) (jn : Int32) (fj : Int32) (bq : Nat → Option Nat) (bc : Int32) (lds : Nat → Nat → Int32) (fR : Int32) (fC : Int32) (fk : Int32) (fs : Int64) (fq : Nat → Option Nat) (fr : Nat → Nat → Int64) (frc : Nat → Int32) (chg : Int32) (car : Int32) (gR : Int32) (gC : Int32) (gk : Int32) (gs : Int64) (gq : Nat → Option Nat) (gr : Nat → Nat → Int64) (grc : Nat → Int32) (mv : Nat → Int64) (cta : Nat → Int32) (r4 : List va_E) (r5 : List va_E) (r6 : List va_E) (r7 : List va_E) (r8 : List va_E) (r9 : List va_E) (n : Int32) : xC MX10_leave 0 [.ref 3073, .int n] ([r0, r1, r2, rNet trv xs ys fn jn fj bq bc lds fR fC fk fs fq fr frc chg car gR gC gk gs gq gr grc mv cta, r4, r5, r6, r7, r8, r9]) (none) ([r0, r1, r2, rNet ((31 * trv) + n) xs ys fn jn fj bq bc lds fR fC fk fs fq fr frc chg car gR gC gk gs gq gr grc mv cta, r4, r5, r6, r7, r8, r9]) := by
  refine ⟨Nat.le_of_ble_eq_true rfl, ?_⟩
  show xBody MX10_leave 0 0 [some (.ref 3073), some (.int n)] [] ([r0, r1, r2, rNet trv xs ys fn jn fj bq bc lds fR fC fk fs fq fr frc chg car gR gC gk gs gq gr grc mv cta, r4, r5, r6, r7, r8, r9]) _ _
  refine xB.run oX10_leave 8 (s := (13, [some (.ref 3073), some (.int n)], [], [r0, r1, r2, rNet ((31 * trv) + n) xs ys fn jn fj bq bc lds fR fC fk fs fq fr frc chg car gR gC gk gs gq gr grc mv cta, r4, r5, r6, r7, r8, r9])) rfl ?_
  exact xB.ret oX10_leave (r1 := none) rfl rfl rfl
set_option maxRecDepth 20000 in
theorem t_X11_faultAnswer (lf : Int32) (r1 : List va_E) (r2 : List va_E) (r3 : List va_E) (r4 : List va_E) (r5 : List va_E) (r6 : List va_E) (r7 : List va_E) (r8 : List va_E) (r9 : List va_E) (f : Int32) : xC MX11_faultAnswer 0 [.ref 0, .int f] ([rMain lf, r1, r2, r3, r4, r5, r6, r7, r8, r9]) (some (.int ((-10) - f))) ([rMain f, r1, r2, r3, r4, r5, r6, r7, r8, r9]) := by
  refine ⟨Nat.le_of_ble_eq_true rfl, ?_⟩
  show xBody MX11_faultAnswer 0 0 [some (.ref 0), some (.int f)] [] ([rMain lf, r1, r2, r3, r4, r5, r6, r7, r8, r9]) _ _
  refine xB.run oX11_faultAnswer 6 (s := (9, [some (.ref 0), some (.int f)], [.int ((-10) - f)], [rMain f, r1, r2, r3, r4, r5, r6, r7, r8, r9])) rfl ?_
  exact xB.ret oX11_faultAnswer (r1 := some (.int ((-10) - f))) rfl rfl rfl
