/-! small methods without loops -/
def fX12_within (v : Int64) (lo : Int64) (hi : Int64) : Int32 := if v < lo then 0 else if hi < v then 0 else 1
theorem fX12_within_01 (v : Int64) (lo : Int64) (hi : Int64) : fX12_within v lo hi = 0 ∨ fX12_within v lo hi = 1 := by
  unfold fX12_within
  (repeat' split) <;> first | exact Or.inl rfl | exact Or.inr rfl
set_option maxRecDepth 20000 in
theorem t_X12_within (hp : xH) (v : Int64) (lo : Int64) (hi : Int64) : xC MX12_within 0 [.long v, .long lo, .long hi] hp (some (.int (fX12_within v lo hi))) hp := by
  refine ⟨Nat.le_of_ble_eq_true rfl, ?_⟩
  show xBody MX12_within 0 0 [some (.long v), none, some (.long lo), none, some (.long hi), none] [] hp _ _
  refine xB.run oX12_within 3 (s := (3, [some (.long v), none, some (.long lo), none, some (.long hi), none], [.int (lg_cmp v lo)], hp)) rfl ?_
  refine xB.brE oX12_within (P := v < lo) rfl (xlc_lt v lo) (fun h1 => ?_) (fun h1 => ?_)
  · skip
    refine xB.run oX12_within 1 (s := (18, [some (.long v), none, some (.long lo), none, some (.long hi), none], [.int 0], hp)) rfl ?_
    exact xB.ret oX12_within (r1 := some (.int 0)) rfl (by simp only [fX12_within, if_pos h1]) rfl
  · skip
    refine xB.run oX12_within 3 (s := (10, [some (.long v), none, some (.long lo), none, some (.long hi), none], [.int (lg_cmp v hi)], hp)) rfl ?_
    refine xB.brE oX12_within (P := hi < v) rfl (xlc_gt v hi) (fun h2 => ?_) (fun h2 => ?_)
    · skip
      refine xB.run oX12_within 1 (s := (18, [some (.long v), none, some (.long lo), none, some (.long hi), none], [.int 0], hp)) rfl ?_
      exact xB.ret oX12_within (r1 := some (.int 0)) rfl (by simp only [fX12_within, if_neg h1, if_pos h2]) rfl
    · skip
      refine xB.run oX12_within 2 (s := (18, [some (.long v), none, some (.long lo), none, some (.long hi), none], [.int 1], hp)) rfl ?_
      exact xB.ret oX12_within (r1 := some (.int 1)) rfl (by simp only [fX12_within, if_neg h1, if_neg h2]) rfl
def fX12_size (v : Int64) : Int64 := if (0 : Int64) ≤ v then v else -v
set_option maxRecDepth 20000 in
theorem t_X12_size (hp : xH) (v : Int64) : xC MX12_size 0 [.long v] hp (some (.long (fX12_size v))) hp := by
  refine ⟨Nat.le_of_ble_eq_true rfl, ?_⟩
  show xBody MX12_size 0 0 [some (.long v), none] [] hp _ _
  refine xB.run oX12_size 3 (s := (3, [some (.long v), none], [.int (lg_cmp v 0)], hp)) rfl ?_
  refine xB.brE oX12_size (P := (0 : Int64) ≤ v) rfl (xlc_ge v (0 : Int64)) (fun h1 => ?_) (fun h1 => ?_)
  · skip
    refine xB.run oX12_size 1 (s := (12, [some (.long v), none], [.long v], hp)) rfl ?_
    exact xB.ret oX12_size (r1 := some (.long v)) rfl (by simp only [fX12_size, if_pos h1]) rfl
  · skip
    refine xB.run oX12_size 3 (s := (12, [some (.long v), none], [.long (-v)], hp)) rfl ?_
    exact xB.ret oX12_size (r1 := some (.long (-v))) rfl (by simp only [fX12_size, if_neg h1]) rfl
set_option maxRecDepth 20000 in
theorem t_X12_isSheet (hp : xH) (k : Int32) : xC MX12_isSheet 1 [.int k] hp (some (.int (fX12_within k.toInt64 0 3))) hp := by
  refine ⟨Nat.le_of_ble_eq_true rfl, ?_⟩
  show xBody MX12_isSheet 1 0 [some (.int k)] [] hp _ _
  refine xB.run oX12_isSheet 4 (s := (6, [some (.int k)], [.long 3, .long 0, .long k.toInt64], hp)) rfl ?_
  refine xB.call oX12_isSheet (M2 := MX12_within) rfl rfl ((t_X12_within hp k.toInt64 0 3).deep (by decide : 0 ≤ 0)) ?_
  show xBody MX12_isSheet 1 9 [some (.int k)] [.int (fX12_within k.toInt64 0 3)] hp _ _
  refine xB.ret oX12_isSheet (r1 := some (.int (fX12_within k.toInt64 0 3))) ?_ rfl rfl
  show (if 1 = 1 ∧ ¬ ((fX12_within k.toInt64 0 3) = 0 ∨ (fX12_within k.toInt64 0 3) = 1) then none else (some (.inr (.inl (some (.int (fX12_within k.toInt64 0 3))))) : Option xO)) = _
  rw [if_neg (fun q => q.2 (fX12_within_01 k.toInt64 0 3))]
set_option maxRecDepth 20000 in
theorem t_X12_isLane (hp : xH) (k : Int32) : xC MX12_isLane 1 [.int k] hp (some (.int (fX12_within k.toInt64 0 2))) hp := by
  refine ⟨Nat.le_of_ble_eq_true rfl, ?_⟩
  show xBody MX12_isLane 1 0 [some (.int k)] [] hp _ _
  refine xB.run oX12_isLane 4 (s := (6, [some (.int k)], [.long 2, .long 0, .long k.toInt64], hp)) rfl ?_
  refine xB.call oX12_isLane (M2 := MX12_within) rfl rfl ((t_X12_within hp k.toInt64 0 2).deep (by decide : 0 ≤ 0)) ?_
  show xBody MX12_isLane 1 9 [some (.int k)] [.int (fX12_within k.toInt64 0 2)] hp _ _
  refine xB.ret oX12_isLane (r1 := some (.int (fX12_within k.toInt64 0 2))) ?_ rfl rfl
  show (if 1 = 1 ∧ ¬ ((fX12_within k.toInt64 0 2) = 0 ∨ (fX12_within k.toInt64 0 2) = 1) then none else (some (.inr (.inl (some (.int (fX12_within k.toInt64 0 2))))) : Option xO)) = _
  rw [if_neg (fun q => q.2 (fX12_within_01 k.toInt64 0 2))]
def fX12_isShare (a : Int32) (b : Int32) : Int32 := if (fX12_within a.toInt64 0 999) = 0 then 0 else if (fX12_within b.toInt64 1 99) = 0 then 0 else 1
theorem fX12_isShare_01 (a : Int32) (b : Int32) : fX12_isShare a b = 0 ∨ fX12_isShare a b = 1 := by
  unfold fX12_isShare
  (repeat' split) <;> first | exact Or.inl rfl | exact Or.inr rfl
set_option maxRecDepth 20000 in
theorem t_X12_isShare (hp : xH) (a : Int32) (b : Int32) : xC MX12_isShare 1 [.int a, .int b] hp (some (.int (fX12_isShare a b))) hp := by
  refine ⟨Nat.le_of_ble_eq_true rfl, ?_⟩
  show xBody MX12_isShare 1 0 [some (.int a), some (.int b)] [] hp _ _
  refine xB.run oX12_isShare 4 (s := (6, [some (.int a), some (.int b)], [.long 999, .long 0, .long a.toInt64], hp)) rfl ?_
  refine xB.call oX12_isShare (M2 := MX12_within) rfl rfl ((t_X12_within hp a.toInt64 0 999).deep (by decide : 0 ≤ 0)) ?_
  show xBody MX12_isShare 1 9 [some (.int a), some (.int b)] [.int (fX12_within a.toInt64 0 999)] hp _ _
  refine xB.br oX12_isShare (P := (fX12_within a.toInt64 0 999) = 0) rfl (fun h1 => ?_) (fun h1 => ?_)
  · skip
    refine xB.run oX12_isShare 1 (s := (29, [some (.int a), some (.int b)], [.int 0], hp)) rfl ?_
    exact xB.ret oX12_isShare (r1 := some (.int 0)) rfl (by simp only [fX12_isShare, if_pos h1]) rfl
  · skip
    refine xB.run oX12_isShare 4 (s := (18, [some (.int a), some (.int b)], [.long 99, .long 1, .long b.toInt64], hp)) rfl ?_
    refine xB.call oX12_isShare (M2 := MX12_within) rfl rfl ((t_X12_within hp b.toInt64 1 99).deep (by decide : 0 ≤ 0)) ?_
    show xBody MX12_isShare 1 21 [some (.int a), some (.int b)] [.int (fX12_within b.toInt64 1 99)] hp _ _
    refine xB.br oX12_isShare (P := (fX12_within b.toInt64 1 99) = 0) rfl (fun h2 => ?_) (fun h2 => ?_)
    · skip
      refine xB.run oX12_isShare 1 (s := (29, [some (.int a), some (.int b)], [.int 0], hp)) rfl ?_
      exact xB.ret oX12_isShare (r1 := some (.int 0)) rfl (by simp only [fX12_isShare, if_neg h1, if_pos h2]) rfl
    · skip
      refine xB.run oX12_isShare 2 (s := (29, [some (.int a), some (.int b)], [.int 1], hp)) rfl ?_
      exact xB.ret oX12_isShare (r1 := some (.int 1)) rfl (by simp only [fX12_isShare, if_neg h1, if_neg h2]) rfl
set_option maxRecDepth 20000 in
theorem t_X12_isCase (hp : xH) (c : Int32) : xC MX12_isCase 1 [.int c] hp (some (.int (fX12_within c.toInt64 0 5))) hp := by
  refine ⟨Nat.le_of_ble_eq_true rfl, ?_⟩
  show xBody MX12_isCase 1 0 [some (.int c)] [] hp _ _
  refine xB.run oX12_isCase 4 (s := (6, [some (.int c)], [.long 5, .long 0, .long c.toInt64], hp)) rfl ?_
  refine xB.call oX12_isCase (M2 := MX12_within) rfl rfl ((t_X12_within hp c.toInt64 0 5).deep (by decide : 0 ≤ 0)) ?_
  show xBody MX12_isCase 1 9 [some (.int c)] [.int (fX12_within c.toInt64 0 5)] hp _ _
  refine xB.ret oX12_isCase (r1 := some (.int (fX12_within c.toInt64 0 5))) ?_ rfl rfl
  show (if 1 = 1 ∧ ¬ ((fX12_within c.toInt64 0 5) = 0 ∨ (fX12_within c.toInt64 0 5) = 1) then none else (some (.inr (.inl (some (.int (fX12_within c.toInt64 0 5))))) : Option xO)) = _
  rw [if_neg (fun q => q.2 (fX12_within_01 c.toInt64 0 5))]
def fX12_bend (j : Int32) (y : Int32) : Int64 := if y ≠ j then (if y = (j - 1) then 1 else if y ≠ (j + 1) then 0 else 1) else (-2)
set_option maxRecDepth 20000 in
theorem t_X12_bend (hp : xH) (j : Int32) (y : Int32) : xC MX12_bend 0 [.int j, .int y] hp (some (.long (fX12_bend j y))) hp := by
  refine ⟨Nat.le_of_ble_eq_true rfl, ?_⟩
  show xBody MX12_bend 0 0 [some (.int j), some (.int y)] [] hp _ _
  refine xB.run oX12_bend 2 (s := (2, [some (.int j), some (.int y)], [.int j, .int y], hp)) rfl ?_
  refine xB.br oX12_bend (P := y ≠ j) rfl (fun h1 => ?_) (fun h1 => ?_)
  · skip
    refine xB.run oX12_bend 4 (s := (15, [some (.int j), some (.int y)], [.int (j - 1), .int y], hp)) rfl ?_
    refine xB.br oX12_bend (P := y = (j - 1)) rfl (fun h2 => ?_) (fun h2 => ?_)
    · skip
      refine xB.run oX12_bend 2 (s := (30, [some (.int j), some (.int y)], [.long 1], hp)) rfl ?_
      exact xB.ret oX12_bend (r1 := some (.long 1)) rfl (by simp only [fX12_bend, if_pos h1, if_pos h2]) rfl
    · skip
      refine xB.run oX12_bend 4 (s := (22, [some (.int j), some (.int y)], [.int (j + 1), .int y], hp)) rfl ?_
      refine xB.br oX12_bend (P := y ≠ (j + 1)) rfl (fun h3 => ?_) (fun h3 => ?_)
      · skip
        refine xB.run oX12_bend 1 (s := (30, [some (.int j), some (.int y)], [.long 0], hp)) rfl ?_
        exact xB.ret oX12_bend (r1 := some (.long 0)) rfl (by simp only [fX12_bend, if_pos h1, if_neg h2, if_pos h3]) rfl
      · skip
        refine xB.run oX12_bend 2 (s := (30, [some (.int j), some (.int y)], [.long 1], hp)) rfl ?_
        exact xB.ret oX12_bend (r1 := some (.long 1)) rfl (by simp only [fX12_bend, if_pos h1, if_neg h2, if_neg h3]) rfl
  · skip
    refine xB.run oX12_bend 2 (s := (30, [some (.int j), some (.int y)], [.long (-2)], hp)) rfl ?_
    exact xB.ret oX12_bend (r1 := some (.long (-2))) rfl (by simp only [fX12_bend, if_neg h1]) rfl
def fX12_isRim (a : Int32) : Int32 := if (a / 10) = 0 then 1 else if (a / 10) = 9 then 1 else if (a - a / 10 * 10) = 0 then 1 else if (a - a / 10 * 10) ≠ 9 then 0 else 1
theorem fX12_isRim_01 (a : Int32) : fX12_isRim a = 0 ∨ fX12_isRim a = 1 := by
  unfold fX12_isRim
  (repeat' split) <;> first | exact Or.inl rfl | exact Or.inr rfl
set_option maxRecDepth 20000 in
theorem t_X12_isRim (hp : xH) (a : Int32) : xC MX12_isRim 0 [.int a] hp (some (.int (fX12_isRim a))) hp := by
  refine ⟨Nat.le_of_ble_eq_true rfl, ?_⟩
  show xBody MX12_isRim 0 0 [some (.int a)] [] hp _ _
  refine xB.run oX12_isRim 2 (s := (3, [some (.int a)], [.int 10, .int a], hp)) rfl ?_
  refine xB.next oX12_isRim (s := (4, [some (.int a)], [.int (a / 10)], hp)) rfl ?_
  refine xB.br oX12_isRim (P := (a / 10) = 0) rfl (fun h1 => ?_) (fun h1 => ?_)
  · skip
    refine xB.run oX12_isRim 2 (s := (37, [some (.int a)], [.int 1], hp)) rfl ?_
    exact xB.ret oX12_isRim (r1 := some (.int 1)) rfl (by simp only [fX12_isRim, if_pos h1]) rfl
  · skip
    refine xB.run oX12_isRim 2 (s := (10, [some (.int a)], [.int 10, .int a], hp)) rfl ?_
    refine xB.next oX12_isRim (s := (11, [some (.int a)], [.int (a / 10)], hp)) rfl ?_
    refine xB.run oX12_isRim 1 (s := (13, [some (.int a)], [.int 9, .int (a / 10)], hp)) rfl ?_
    refine xB.br oX12_isRim (P := (a / 10) = 9) rfl (fun h2 => ?_) (fun h2 => ?_)
    · skip
      refine xB.run oX12_isRim 2 (s := (37, [some (.int a)], [.int 1], hp)) rfl ?_
      exact xB.ret oX12_isRim (r1 := some (.int 1)) rfl (by simp only [fX12_isRim, if_neg h1, if_pos h2]) rfl
    · skip
      refine xB.run oX12_isRim 2 (s := (19, [some (.int a)], [.int 10, .int a], hp)) rfl ?_
      refine xB.next oX12_isRim (s := (20, [some (.int a)], [.int (a - a / 10 * 10)], hp)) rfl ?_
      refine xB.br oX12_isRim (P := (a - a / 10 * 10) = 0) rfl (fun h3 => ?_) (fun h3 => ?_)
      · skip
        refine xB.run oX12_isRim 2 (s := (37, [some (.int a)], [.int 1], hp)) rfl ?_
        exact xB.ret oX12_isRim (r1 := some (.int 1)) rfl (by simp only [fX12_isRim, if_neg h1, if_neg h2, if_pos h3]) rfl
      · skip
        refine xB.run oX12_isRim 2 (s := (26, [some (.int a)], [.int 10, .int a], hp)) rfl ?_
        refine xB.next oX12_isRim (s := (27, [some (.int a)], [.int (a - a / 10 * 10)], hp)) rfl ?_
        refine xB.run oX12_isRim 1 (s := (29, [some (.int a)], [.int 9, .int (a - a / 10 * 10)], hp)) rfl ?_
        refine xB.br oX12_isRim (P := (a - a / 10 * 10) ≠ 9) rfl (fun h4 => ?_) (fun h4 => ?_)
        · skip
          refine xB.run oX12_isRim 1 (s := (37, [some (.int a)], [.int 0], hp)) rfl ?_
          exact xB.ret oX12_isRim (r1 := some (.int 0)) rfl (by simp only [fX12_isRim, if_neg h1, if_neg h2, if_neg h3, if_pos h4]) rfl
        · skip
          refine xB.run oX12_isRim 2 (s := (37, [some (.int a)], [.int 1], hp)) rfl ?_
          exact xB.ret oX12_isRim (r1 := some (.int 1)) rfl (by simp only [fX12_isRim, if_neg h1, if_neg h2, if_neg h3, if_neg h4]) rfl
def fX11_isHalf (w : Int32) : Int32 := if w = 0 then 1 else if w ≠ 1 then 0 else 1
theorem fX11_isHalf_01 (w : Int32) : fX11_isHalf w = 0 ∨ fX11_isHalf w = 1 := by
  unfold fX11_isHalf
  (repeat' split) <;> first | exact Or.inl rfl | exact Or.inr rfl
set_option maxRecDepth 20000 in
theorem t_X11_isHalf (hp : xH) (w : Int32) : xC MX11_isHalf 0 [.int w] hp (some (.int (fX11_isHalf w))) hp := by
  refine ⟨Nat.le_of_ble_eq_true rfl, ?_⟩
  show xBody MX11_isHalf 0 0 [some (.int w)] [] hp _ _
  refine xB.run oX11_isHalf 1 (s := (1, [some (.int w)], [.int w], hp)) rfl ?_
  refine xB.br oX11_isHalf (P := w = 0) rfl (fun h1 => ?_) (fun h1 => ?_)
  · skip
    refine xB.run oX11_isHalf 2 (s := (14, [some (.int w)], [.int 1], hp)) rfl ?_
    exact xB.ret oX11_isHalf (r1 := some (.int 1)) rfl (by simp only [fX11_isHalf, if_pos h1]) rfl
  · skip
    refine xB.run oX11_isHalf 2 (s := (6, [some (.int w)], [.int 1, .int w], hp)) rfl ?_
    refine xB.br oX11_isHalf (P := w ≠ 1) rfl (fun h2 => ?_) (fun h2 => ?_)
    · skip
      refine xB.run oX11_isHalf 1 (s := (14, [some (.int w)], [.int 0], hp)) rfl ?_
      exact xB.ret oX11_isHalf (r1 := some (.int 0)) rfl (by simp only [fX11_isHalf, if_neg h1, if_pos h2]) rfl
    · skip
      refine xB.run oX11_isHalf 2 (s := (14, [some (.int w)], [.int 1], hp)) rfl ?_
      exact xB.ret oX11_isHalf (r1 := some (.int 1)) rfl (by simp only [fX11_isHalf, if_neg h1, if_neg h2]) rfl
def fX4_isPlace (x : Int32) : Int32 := if x < 0 then 0 else if (5 : Int32) < x then 0 else 1
theorem fX4_isPlace_01 (x : Int32) : fX4_isPlace x = 0 ∨ fX4_isPlace x = 1 := by
  unfold fX4_isPlace
  (repeat' split) <;> first | exact Or.inl rfl | exact Or.inr rfl
set_option maxRecDepth 20000 in
theorem t_X4_isPlace (hp : xH) (x : Int32) : xC MX4_isPlace 0 [.int x] hp (some (.int (fX4_isPlace x))) hp := by
  refine ⟨Nat.le_of_ble_eq_true rfl, ?_⟩
  show xBody MX4_isPlace 0 0 [some (.int x)] [] hp _ _
  refine xB.run oX4_isPlace 1 (s := (1, [some (.int x)], [.int x], hp)) rfl ?_
  refine xB.br oX4_isPlace (P := x < 0) rfl (fun h1 => ?_) (fun h1 => ?_)
  · skip
    refine xB.run oX4_isPlace 1 (s := (14, [some (.int x)], [.int 0], hp)) rfl ?_
    exact xB.ret oX4_isPlace (r1 := some (.int 0)) rfl (by simp only [fX4_isPlace, if_pos h1]) rfl
  · skip
    refine xB.run oX4_isPlace 2 (s := (6, [some (.int x)], [.int 5, .int x], hp)) rfl ?_
    refine xB.br oX4_isPlace (P := (5 : Int32) < x) rfl (fun h2 => ?_) (fun h2 => ?_)
    · skip
      refine xB.run oX4_isPlace 1 (s := (14, [some (.int x)], [.int 0], hp)) rfl ?_
      exact xB.ret oX4_isPlace (r1 := some (.int 0)) rfl (by simp only [fX4_isPlace, if_neg h1, if_pos h2]) rfl
    · skip
      refine xB.run oX4_isPlace 2 (s := (14, [some (.int x)], [.int 1], hp)) rfl ?_
      exact xB.ret oX4_isPlace (r1 := some (.int 1)) rfl (by simp only [fX4_isPlace, if_neg h1, if_neg h2]) rfl
def fX4_isKind (x : Int32) : Int32 := if x < 0 then 0 else if (2 : Int32) < x then 0 else 1
theorem fX4_isKind_01 (x : Int32) : fX4_isKind x = 0 ∨ fX4_isKind x = 1 := by
  unfold fX4_isKind
  (repeat' split) <;> first | exact Or.inl rfl | exact Or.inr rfl
set_option maxRecDepth 20000 in
theorem t_X4_isKind (hp : xH) (x : Int32) : xC MX4_isKind 0 [.int x] hp (some (.int (fX4_isKind x))) hp := by
  refine ⟨Nat.le_of_ble_eq_true rfl, ?_⟩
  show xBody MX4_isKind 0 0 [some (.int x)] [] hp _ _
  refine xB.run oX4_isKind 1 (s := (1, [some (.int x)], [.int x], hp)) rfl ?_
  refine xB.br oX4_isKind (P := x < 0) rfl (fun h1 => ?_) (fun h1 => ?_)
  · skip
    refine xB.run oX4_isKind 1 (s := (14, [some (.int x)], [.int 0], hp)) rfl ?_
    exact xB.ret oX4_isKind (r1 := some (.int 0)) rfl (by simp only [fX4_isKind, if_pos h1]) rfl
  · skip
    refine xB.run oX4_isKind 2 (s := (6, [some (.int x)], [.int 2, .int x], hp)) rfl ?_
    refine xB.br oX4_isKind (P := (2 : Int32) < x) rfl (fun h2 => ?_) (fun h2 => ?_)
    · skip
      refine xB.run oX4_isKind 1 (s := (14, [some (.int x)], [.int 0], hp)) rfl ?_
      exact xB.ret oX4_isKind (r1 := some (.int 0)) rfl (by simp only [fX4_isKind, if_neg h1, if_pos h2]) rfl
    · skip
      refine xB.run oX4_isKind 2 (s := (14, [some (.int x)], [.int 1], hp)) rfl ?_
      exact xB.ret oX4_isKind (r1 := some (.int 1)) rfl (by simp only [fX4_isKind, if_neg h1, if_neg h2]) rfl
def fX4_isCase (x : Int32) : Int32 := if x < 0 then 0 else if (6 : Int32) ≤ x then 0 else 1
theorem fX4_isCase_01 (x : Int32) : fX4_isCase x = 0 ∨ fX4_isCase x = 1 := by
  unfold fX4_isCase
  (repeat' split) <;> first | exact Or.inl rfl | exact Or.inr rfl
set_option maxRecDepth 20000 in
theorem t_X4_isCase (hp : xH) (x : Int32) : xC MX4_isCase 0 [.int x] hp (some (.int (fX4_isCase x))) hp := by
  refine ⟨Nat.le_of_ble_eq_true rfl, ?_⟩
  show xBody MX4_isCase 0 0 [some (.int x)] [] hp _ _
  refine xB.run oX4_isCase 1 (s := (1, [some (.int x)], [.int x], hp)) rfl ?_
  refine xB.br oX4_isCase (P := x < 0) rfl (fun h1 => ?_) (fun h1 => ?_)
  · skip
    refine xB.run oX4_isCase 1 (s := (15, [some (.int x)], [.int 0], hp)) rfl ?_
    exact xB.ret oX4_isCase (r1 := some (.int 0)) rfl (by simp only [fX4_isCase, if_pos h1]) rfl
  · skip
    refine xB.run oX4_isCase 2 (s := (7, [some (.int x)], [.int 6, .int x], hp)) rfl ?_
    refine xB.br oX4_isCase (P := (6 : Int32) ≤ x) rfl (fun h2 => ?_) (fun h2 => ?_)
    · skip
      refine xB.run oX4_isCase 1 (s := (15, [some (.int x)], [.int 0], hp)) rfl ?_
      exact xB.ret oX4_isCase (r1 := some (.int 0)) rfl (by simp only [fX4_isCase, if_neg h1, if_pos h2]) rfl
    · skip
      refine xB.run oX4_isCase 2 (s := (15, [some (.int x)], [.int 1], hp)) rfl ?_
      exact xB.ret oX4_isCase (r1 := some (.int 1)) rfl (by simp only [fX4_isCase, if_neg h1, if_neg h2]) rfl
def fX4_isLoad (x : Int32) : Int32 := if x < (-30) then 0 else if (30 : Int32) < x then 0 else 1
theorem fX4_isLoad_01 (x : Int32) : fX4_isLoad x = 0 ∨ fX4_isLoad x = 1 := by
  unfold fX4_isLoad
  (repeat' split) <;> first | exact Or.inl rfl | exact Or.inr rfl
set_option maxRecDepth 20000 in
theorem t_X4_isLoad (hp : xH) (x : Int32) : xC MX4_isLoad 0 [.int x] hp (some (.int (fX4_isLoad x))) hp := by
  refine ⟨Nat.le_of_ble_eq_true rfl, ?_⟩
  show xBody MX4_isLoad 0 0 [some (.int x)] [] hp _ _
  refine xB.run oX4_isLoad 2 (s := (3, [some (.int x)], [.int (-30), .int x], hp)) rfl ?_
  refine xB.br oX4_isLoad (P := x < (-30)) rfl (fun h1 => ?_) (fun h1 => ?_)
  · skip
    refine xB.run oX4_isLoad 1 (s := (17, [some (.int x)], [.int 0], hp)) rfl ?_
    exact xB.ret oX4_isLoad (r1 := some (.int 0)) rfl (by simp only [fX4_isLoad, if_pos h1]) rfl
  · skip
    refine xB.run oX4_isLoad 2 (s := (9, [some (.int x)], [.int 30, .int x], hp)) rfl ?_
    refine xB.br oX4_isLoad (P := (30 : Int32) < x) rfl (fun h2 => ?_) (fun h2 => ?_)
    · skip
      refine xB.run oX4_isLoad 1 (s := (17, [some (.int x)], [.int 0], hp)) rfl ?_
      exact xB.ret oX4_isLoad (r1 := some (.int 0)) rfl (by simp only [fX4_isLoad, if_neg h1, if_pos h2]) rfl
    · skip
      refine xB.run oX4_isLoad 2 (s := (17, [some (.int x)], [.int 1], hp)) rfl ?_
      exact xB.ret oX4_isLoad (r1 := some (.int 1)) rfl (by simp only [fX4_isLoad, if_neg h1, if_neg h2]) rfl
def fX5_isShare (a : Int32) (b : Int32) : Int32 := if a < 0 then 0 else if (999 : Int32) < a then 0 else if b < 1 then 0 else if (99 : Int32) < b then 0 else 1
theorem fX5_isShare_01 (a : Int32) (b : Int32) : fX5_isShare a b = 0 ∨ fX5_isShare a b = 1 := by
  unfold fX5_isShare
  (repeat' split) <;> first | exact Or.inl rfl | exact Or.inr rfl
set_option maxRecDepth 20000 in
theorem t_X5_isShare (hp : xH) (a : Int32) (b : Int32) : xC MX5_isShare 0 [.int a, .int b] hp (some (.int (fX5_isShare a b))) hp := by
  refine ⟨Nat.le_of_ble_eq_true rfl, ?_⟩
  show xBody MX5_isShare 0 0 [some (.int a), some (.int b)] [] hp _ _
  refine xB.run oX5_isShare 1 (s := (1, [some (.int a), some (.int b)], [.int a], hp)) rfl ?_
  refine xB.br oX5_isShare (P := a < 0) rfl (fun h1 => ?_) (fun h1 => ?_)
  · skip
    refine xB.run oX5_isShare 1 (s := (27, [some (.int a), some (.int b)], [.int 0], hp)) rfl ?_
    exact xB.ret oX5_isShare (r1 := some (.int 0)) rfl (by simp only [fX5_isShare, if_pos h1]) rfl
  · skip
    refine xB.run oX5_isShare 2 (s := (8, [some (.int a), some (.int b)], [.int 999, .int a], hp)) rfl ?_
    refine xB.br oX5_isShare (P := (999 : Int32) < a) rfl (fun h2 => ?_) (fun h2 => ?_)
    · skip
      refine xB.run oX5_isShare 1 (s := (27, [some (.int a), some (.int b)], [.int 0], hp)) rfl ?_
      exact xB.ret oX5_isShare (r1 := some (.int 0)) rfl (by simp only [fX5_isShare, if_neg h1, if_pos h2]) rfl
    · skip
      refine xB.run oX5_isShare 2 (s := (13, [some (.int a), some (.int b)], [.int 1, .int b], hp)) rfl ?_
      refine xB.br oX5_isShare (P := b < 1) rfl (fun h3 => ?_) (fun h3 => ?_)
      · skip
        refine xB.run oX5_isShare 1 (s := (27, [some (.int a), some (.int b)], [.int 0], hp)) rfl ?_
        exact xB.ret oX5_isShare (r1 := some (.int 0)) rfl (by simp only [fX5_isShare, if_neg h1, if_neg h2, if_pos h3]) rfl
      · skip
        refine xB.run oX5_isShare 2 (s := (19, [some (.int a), some (.int b)], [.int 99, .int b], hp)) rfl ?_
        refine xB.br oX5_isShare (P := (99 : Int32) < b) rfl (fun h4 => ?_) (fun h4 => ?_)
        · skip
          refine xB.run oX5_isShare 1 (s := (27, [some (.int a), some (.int b)], [.int 0], hp)) rfl ?_
          exact xB.ret oX5_isShare (r1 := some (.int 0)) rfl (by simp only [fX5_isShare, if_neg h1, if_neg h2, if_neg h3, if_pos h4]) rfl
        · skip
          refine xB.run oX5_isShare 2 (s := (27, [some (.int a), some (.int b)], [.int 1], hp)) rfl ?_
          exact xB.ret oX5_isShare (r1 := some (.int 1)) rfl (by simp only [fX5_isShare, if_neg h1, if_neg h2, if_neg h3, if_neg h4]) rfl
def fX8_isPiece (x : Int32) (y : Int32) : Int32 := if x < 0 then 0 else if (10 : Int32) ≤ x then 0 else if y < 0 then 0 else if (10 : Int32) ≤ y then 0 else 1
theorem fX8_isPiece_01 (x : Int32) (y : Int32) : fX8_isPiece x y = 0 ∨ fX8_isPiece x y = 1 := by
  unfold fX8_isPiece
  (repeat' split) <;> first | exact Or.inl rfl | exact Or.inr rfl
set_option maxRecDepth 20000 in
theorem t_X8_isPiece (hp : xH) (x : Int32) (y : Int32) : xC MX8_isPiece 0 [.int x, .int y] hp (some (.int (fX8_isPiece x y))) hp := by
  refine ⟨Nat.le_of_ble_eq_true rfl, ?_⟩
  show xBody MX8_isPiece 0 0 [some (.int x), some (.int y)] [] hp _ _
  refine xB.run oX8_isPiece 1 (s := (1, [some (.int x), some (.int y)], [.int x], hp)) rfl ?_
  refine xB.br oX8_isPiece (P := x < 0) rfl (fun h1 => ?_) (fun h1 => ?_)
  · skip
    refine xB.run oX8_isPiece 1 (s := (25, [some (.int x), some (.int y)], [.int 0], hp)) rfl ?_
    exact xB.ret oX8_isPiece (r1 := some (.int 0)) rfl (by simp only [fX8_isPiece, if_pos h1]) rfl
  · skip
    refine xB.run oX8_isPiece 2 (s := (7, [some (.int x), some (.int y)], [.int 10, .int x], hp)) rfl ?_
    refine xB.br oX8_isPiece (P := (10 : Int32) ≤ x) rfl (fun h2 => ?_) (fun h2 => ?_)
    · skip
      refine xB.run oX8_isPiece 1 (s := (25, [some (.int x), some (.int y)], [.int 0], hp)) rfl ?_
      exact xB.ret oX8_isPiece (r1 := some (.int 0)) rfl (by simp only [fX8_isPiece, if_neg h1, if_pos h2]) rfl
    · skip
      refine xB.run oX8_isPiece 1 (s := (11, [some (.int x), some (.int y)], [.int y], hp)) rfl ?_
      refine xB.br oX8_isPiece (P := y < 0) rfl (fun h3 => ?_) (fun h3 => ?_)
      · skip
        refine xB.run oX8_isPiece 1 (s := (25, [some (.int x), some (.int y)], [.int 0], hp)) rfl ?_
        exact xB.ret oX8_isPiece (r1 := some (.int 0)) rfl (by simp only [fX8_isPiece, if_neg h1, if_neg h2, if_pos h3]) rfl
      · skip
        refine xB.run oX8_isPiece 2 (s := (17, [some (.int x), some (.int y)], [.int 10, .int y], hp)) rfl ?_
        refine xB.br oX8_isPiece (P := (10 : Int32) ≤ y) rfl (fun h4 => ?_) (fun h4 => ?_)
        · skip
          refine xB.run oX8_isPiece 1 (s := (25, [some (.int x), some (.int y)], [.int 0], hp)) rfl ?_
          exact xB.ret oX8_isPiece (r1 := some (.int 0)) rfl (by simp only [fX8_isPiece, if_neg h1, if_neg h2, if_neg h3, if_pos h4]) rfl
        · skip
          refine xB.run oX8_isPiece 2 (s := (25, [some (.int x), some (.int y)], [.int 1], hp)) rfl ?_
          exact xB.ret oX8_isPiece (r1 := some (.int 1)) rfl (by simp only [fX8_isPiece, if_neg h1, if_neg h2, if_neg h3, if_neg h4]) rfl
def fX8_isAtRim (x : Int32) : Int32 := if x = 0 then 1 else if x ≠ 9 then 0 else 1
theorem fX8_isAtRim_01 (x : Int32) : fX8_isAtRim x = 0 ∨ fX8_isAtRim x = 1 := by
  unfold fX8_isAtRim
  (repeat' split) <;> first | exact Or.inl rfl | exact Or.inr rfl
set_option maxRecDepth 20000 in
theorem t_X8_isAtRim (hp : xH) (x : Int32) : xC MX8_isAtRim 0 [.int x] hp (some (.int (fX8_isAtRim x))) hp := by
  refine ⟨Nat.le_of_ble_eq_true rfl, ?_⟩
  show xBody MX8_isAtRim 0 0 [some (.int x)] [] hp _ _
  refine xB.run oX8_isAtRim 1 (s := (1, [some (.int x)], [.int x], hp)) rfl ?_
  refine xB.br oX8_isAtRim (P := x = 0) rfl (fun h1 => ?_) (fun h1 => ?_)
  · skip
    refine xB.run oX8_isAtRim 2 (s := (15, [some (.int x)], [.int 1], hp)) rfl ?_
    exact xB.ret oX8_isAtRim (r1 := some (.int 1)) rfl (by simp only [fX8_isAtRim, if_pos h1]) rfl
  · skip
    refine xB.run oX8_isAtRim 2 (s := (7, [some (.int x)], [.int 9, .int x], hp)) rfl ?_
    refine xB.br oX8_isAtRim (P := x ≠ 9) rfl (fun h2 => ?_) (fun h2 => ?_)
    · skip
      refine xB.run oX8_isAtRim 1 (s := (15, [some (.int x)], [.int 0], hp)) rfl ?_
      exact xB.ret oX8_isAtRim (r1 := some (.int 0)) rfl (by simp only [fX8_isAtRim, if_neg h1, if_pos h2]) rfl
    · skip
      refine xB.run oX8_isAtRim 2 (s := (15, [some (.int x)], [.int 1], hp)) rfl ?_
      exact xB.ret oX8_isAtRim (r1 := some (.int 1)) rfl (by simp only [fX8_isAtRim, if_neg h1, if_neg h2]) rfl
def fX6_isSheet (k : Int32) : Int32 := if k < 0 then 0 else if (4 : Int32) ≤ k then 0 else 1
theorem fX6_isSheet_01 (k : Int32) : fX6_isSheet k = 0 ∨ fX6_isSheet k = 1 := by
  unfold fX6_isSheet
  (repeat' split) <;> first | exact Or.inl rfl | exact Or.inr rfl
set_option maxRecDepth 20000 in
theorem t_X6_isSheet (hp : xH) (k : Int32) : xC MX6_isSheet 0 [.int k] hp (some (.int (fX6_isSheet k))) hp := by
  refine ⟨Nat.le_of_ble_eq_true rfl, ?_⟩
  show xBody MX6_isSheet 0 0 [some (.int k)] [] hp _ _
  refine xB.run oX6_isSheet 1 (s := (1, [some (.int k)], [.int k], hp)) rfl ?_
  refine xB.br oX6_isSheet (P := k < 0) rfl (fun h1 => ?_) (fun h1 => ?_)
  · skip
    refine xB.run oX6_isSheet 1 (s := (14, [some (.int k)], [.int 0], hp)) rfl ?_
    exact xB.ret oX6_isSheet (r1 := some (.int 0)) rfl (by simp only [fX6_isSheet, if_pos h1]) rfl
  · skip
    refine xB.run oX6_isSheet 2 (s := (6, [some (.int k)], [.int 4, .int k], hp)) rfl ?_
    refine xB.br oX6_isSheet (P := (4 : Int32) ≤ k) rfl (fun h2 => ?_) (fun h2 => ?_)
    · skip
      refine xB.run oX6_isSheet 1 (s := (14, [some (.int k)], [.int 0], hp)) rfl ?_
      exact xB.ret oX6_isSheet (r1 := some (.int 0)) rfl (by simp only [fX6_isSheet, if_neg h1, if_pos h2]) rfl
    · skip
      refine xB.run oX6_isSheet 2 (s := (14, [some (.int k)], [.int 1], hp)) rfl ?_
      exact xB.ret oX6_isSheet (r1 := some (.int 1)) rfl (by simp only [fX6_isSheet, if_neg h1, if_neg h2]) rfl
def fX6_isLane (k : Int32) : Int32 := if k < 0 then 0 else if (2 : Int32) < k then 0 else 1
theorem fX6_isLane_01 (k : Int32) : fX6_isLane k = 0 ∨ fX6_isLane k = 1 := by
  unfold fX6_isLane
  (repeat' split) <;> first | exact Or.inl rfl | exact Or.inr rfl
set_option maxRecDepth 20000 in
theorem t_X6_isLane (hp : xH) (k : Int32) : xC MX6_isLane 0 [.int k] hp (some (.int (fX6_isLane k))) hp := by
  refine ⟨Nat.le_of_ble_eq_true rfl, ?_⟩
  show xBody MX6_isLane 0 0 [some (.int k)] [] hp _ _
  refine xB.run oX6_isLane 1 (s := (1, [some (.int k)], [.int k], hp)) rfl ?_
  refine xB.br oX6_isLane (P := k < 0) rfl (fun h1 => ?_) (fun h1 => ?_)
  · skip
    refine xB.run oX6_isLane 1 (s := (14, [some (.int k)], [.int 0], hp)) rfl ?_
    exact xB.ret oX6_isLane (r1 := some (.int 0)) rfl (by simp only [fX6_isLane, if_pos h1]) rfl
  · skip
    refine xB.run oX6_isLane 2 (s := (6, [some (.int k)], [.int 2, .int k], hp)) rfl ?_
    refine xB.br oX6_isLane (P := (2 : Int32) < k) rfl (fun h2 => ?_) (fun h2 => ?_)
    · skip
      refine xB.run oX6_isLane 1 (s := (14, [some (.int k)], [.int 0], hp)) rfl ?_
      exact xB.ret oX6_isLane (r1 := some (.int 0)) rfl (by simp only [fX6_isLane, if_neg h1, if_pos h2]) rfl
    · skip
      refine xB.run oX6_isLane 2 (s := (14, [some (.int k)], [.int 1], hp)) rfl ?_
      exact xB.ret oX6_isLane (r1 := some (.int 1)) rfl (by simp only [fX6_isLane, if_neg h1, if_neg h2]) rfl
def fX6_cutToLane (k : Int32) (v : Int32) : Int32 := if k = 0 then v.toInt8.toInt32 else if k = 1 then v.toInt16.toInt32 else v
set_option maxRecDepth 20000 in
theorem t_X6_cutToLane (hp : xH) (k : Int32) (v : Int32) : xC MX6_cutToLane 0 [.int k, .int v] hp (some (.int (fX6_cutToLane k v))) hp := by
  refine ⟨Nat.le_of_ble_eq_true rfl, ?_⟩
  show xBody MX6_cutToLane 0 0 [some (.int k), some (.int v)] [] hp _ _
  refine xB.run oX6_cutToLane 1 (s := (1, [some (.int k), some (.int v)], [.int k], hp)) rfl ?_
  by_cases h1 : k = 0
  · skip
    refine xB.next oX6_cutToLane (s := (28, [some (.int k), some (.int v)], [], hp)) (xsw_at rfl (by unfold xsw; rw [if_pos (show k = Int32.ofNat 0 from h1)])) ?_
    refine xB.run oX6_cutToLane 2 (s := (30, [some (.int k), some (.int v)], [.int v.toInt8.toInt32], hp)) rfl ?_
    exact xB.ret oX6_cutToLane (r1 := some (.int v.toInt8.toInt32)) rfl (by simp only [fX6_cutToLane, if_pos h1]) rfl
  · skip
    by_cases h2 : k = 1
    · skip
      refine xB.next oX6_cutToLane (s := (31, [some (.int k), some (.int v)], [], hp)) (xsw_at rfl (by unfold xsw; rw [if_neg (show ¬ k = Int32.ofNat 0 from h1)]; unfold xsw; rw [if_pos (show k = Int32.ofNat 1 from h2)])) ?_
      refine xB.run oX6_cutToLane 2 (s := (33, [some (.int k), some (.int v)], [.int v.toInt16.toInt32], hp)) rfl ?_
      exact xB.ret oX6_cutToLane (r1 := some (.int v.toInt16.toInt32)) rfl (by simp only [fX6_cutToLane, if_neg h1, if_pos h2]) rfl
    · skip
      refine xB.next oX6_cutToLane (s := (34, [some (.int k), some (.int v)], [], hp)) (xsw_at rfl (by unfold xsw; rw [if_neg (show ¬ k = Int32.ofNat 0 from h1)]; unfold xsw; rw [if_neg (show ¬ k = Int32.ofNat 1 from h2)]; rfl)) ?_
      refine xB.run oX6_cutToLane 1 (s := (35, [some (.int k), some (.int v)], [.int v], hp)) rfl ?_
      exact xB.ret oX6_cutToLane (r1 := some (.int v)) rfl (by simp only [fX6_cutToLane, if_neg h1, if_neg h2]) rfl
def fJ9_max_7cf53 (x : Int32) (y : Int32) : Int32 := if x < y then y else x
set_option maxRecDepth 20000 in
theorem t_J9_max_7cf53 (hp : xH) (x : Int32) (y : Int32) : xC MJ9_max_7cf53 0 [.int x, .int y] hp (some (.int (fJ9_max_7cf53 x y))) hp := by
  refine ⟨Nat.le_of_ble_eq_true rfl, ?_⟩
  show xBody MJ9_max_7cf53 0 0 [some (.int x), some (.int y)] [] hp _ _
  refine xB.run oJ9_max_7cf53 2 (s := (2, [some (.int x), some (.int y)], [.int y, .int x], hp)) rfl ?_
  refine xB.br oJ9_max_7cf53 (P := x < y) rfl (fun h1 => ?_) (fun h1 => ?_)
  · skip
    refine xB.run oJ9_max_7cf53 1 (s := (10, [some (.int x), some (.int y)], [.int y], hp)) rfl ?_
    exact xB.ret oJ9_max_7cf53 (r1 := some (.int y)) rfl (by simp only [fJ9_max_7cf53, if_pos h1]) rfl
  · skip
    refine xB.run oJ9_max_7cf53 2 (s := (10, [some (.int x), some (.int y)], [.int x], hp)) rfl ?_
    exact xB.ret oJ9_max_7cf53 (r1 := some (.int x)) rfl (by simp only [fJ9_max_7cf53, if_neg h1]) rfl
def fJ9_min_7cf53 (x : Int32) (y : Int32) : Int32 := if y < x then y else x
set_option maxRecDepth 20000 in
theorem t_J9_min_7cf53 (hp : xH) (x : Int32) (y : Int32) : xC MJ9_min_7cf53 0 [.int x, .int y] hp (some (.int (fJ9_min_7cf53 x y))) hp := by
  refine ⟨Nat.le_of_ble_eq_true rfl, ?_⟩
  show xBody MJ9_min_7cf53 0 0 [some (.int x), some (.int y)] [] hp _ _
  refine xB.run oJ9_min_7cf53 2 (s := (2, [some (.int x), some (.int y)], [.int y, .int x], hp)) rfl ?_
  refine xB.br oJ9_min_7cf53 (P := y < x) rfl (fun h1 => ?_) (fun h1 => ?_)
  · skip
    refine xB.run oJ9_min_7cf53 1 (s := (10, [some (.int x), some (.int y)], [.int y], hp)) rfl ?_
    exact xB.ret oJ9_min_7cf53 (r1 := some (.int y)) rfl (by simp only [fJ9_min_7cf53, if_pos h1]) rfl
  · skip
    refine xB.run oJ9_min_7cf53 2 (s := (10, [some (.int x), some (.int y)], [.int x], hp)) rfl ?_
    exact xB.ret oJ9_min_7cf53 (r1 := some (.int x)) rfl (by simp only [fJ9_min_7cf53, if_neg h1]) rfl
def fJ9_abs_067f4 (x : Int64) : Int64 := if (0 : Int64) ≤ x then x else -x
set_option maxRecDepth 20000 in
theorem t_J9_abs_067f4 (hp : xH) (x : Int64) : xC MJ9_abs_067f4 0 [.long x] hp (some (.long (fJ9_abs_067f4 x))) hp := by
  refine ⟨Nat.le_of_ble_eq_true rfl, ?_⟩
  show xBody MJ9_abs_067f4 0 0 [some (.long x), none] [] hp _ _
  refine xB.run oJ9_abs_067f4 3 (s := (3, [some (.long x), none], [.int (lg_cmp x 0)], hp)) rfl ?_
  refine xB.brE oJ9_abs_067f4 (P := (0 : Int64) ≤ x) rfl (xlc_ge x (0 : Int64)) (fun h1 => ?_) (fun h1 => ?_)
  · skip
    refine xB.run oJ9_abs_067f4 1 (s := (12, [some (.long x), none], [.long x], hp)) rfl ?_
    exact xB.ret oJ9_abs_067f4 (r1 := some (.long x)) rfl (by simp only [fJ9_abs_067f4, if_pos h1]) rfl
  · skip
    refine xB.run oJ9_abs_067f4 3 (s := (12, [some (.long x), none], [.long (-x)], hp)) rfl ?_
    exact xB.ret oJ9_abs_067f4 (r1 := some (.long (-x))) rfl (by simp only [fJ9_abs_067f4, if_neg h1]) rfl
def fJ13_compare_74951 (x : Int64) (y : Int64) : Int32 := if y ≤ x then (if x ≠ y then 1 else 0) else (-1)
set_option maxRecDepth 20000 in
theorem t_J13_compare_74951 (hp : xH) (x : Int64) (y : Int64) : xC MJ13_compare_74951 0 [.long x, .long y] hp (some (.int (fJ13_compare_74951 x y))) hp := by
  refine ⟨Nat.le_of_ble_eq_true rfl, ?_⟩
  show xBody MJ13_compare_74951 0 0 [some (.long x), none, some (.long y), none] [] hp _ _
  refine xB.run oJ13_compare_74951 3 (s := (3, [some (.long x), none, some (.long y), none], [.int (lg_cmp x y)], hp)) rfl ?_
  refine xB.brE oJ13_compare_74951 (P := y ≤ x) rfl (xlc_ge x y) (fun h1 => ?_) (fun h1 => ?_)
  · skip
    refine xB.run oJ13_compare_74951 3 (s := (13, [some (.long x), none, some (.long y), none], [.int (lg_cmp x y)], hp)) rfl ?_
    refine xB.brE oJ13_compare_74951 (P := x ≠ y) rfl (xlc_ne x y) (fun h2 => ?_) (fun h2 => ?_)
    · skip
      refine xB.run oJ13_compare_74951 1 (s := (21, [some (.long x), none, some (.long y), none], [.int 1], hp)) rfl ?_
      exact xB.ret oJ13_compare_74951 (r1 := some (.int 1)) rfl (by simp only [fJ13_compare_74951, if_pos h1, if_pos h2]) rfl
    · skip
      refine xB.run oJ13_compare_74951 2 (s := (21, [some (.long x), none, some (.long y), none], [.int 0], hp)) rfl ?_
      exact xB.ret oJ13_compare_74951 (r1 := some (.int 0)) rfl (by simp only [fJ13_compare_74951, if_pos h1, if_neg h2]) rfl
  · skip
    refine xB.run oJ13_compare_74951 2 (s := (21, [some (.long x), none, some (.long y), none], [.int (-1)], hp)) rfl ?_
    exact xB.ret oJ13_compare_74951 (r1 := some (.int (-1))) rfl (by simp only [fJ13_compare_74951, if_neg h1]) rfl
def fJ6_bitCount_0f7a4 (x : Int32) : Int32 := (((((((x - (((x.toUInt32 >>> ((1 : Int32).toUInt32 &&& Int32.toUInt32 31)).toInt32) &&& 1431655765)) &&& 858993459) + ((((x - (((x.toUInt32 >>> ((1 : Int32).toUInt32 &&& Int32.toUInt32 31)).toInt32) &&& 1431655765)).toUInt32 >>> ((2 : Int32).toUInt32 &&& Int32.toUInt32 31)).toInt32) &&& 858993459)) + (((((x - (((x.toUInt32 >>> ((1 : Int32).toUInt32 &&& Int32.toUInt32 31)).toInt32) &&& 1431655765)) &&& 858993459) + ((((x - (((x.toUInt32 >>> ((1 : Int32).toUInt32 &&& Int32.toUInt32 31)).toInt32) &&& 1431655765)).toUInt32 >>> ((2 : Int32).toUInt32 &&& Int32.toUInt32 31)).toInt32) &&& 858993459)).toUInt32 >>> ((4 : Int32).toUInt32 &&& Int32.toUInt32 31)).toInt32)) &&& 252645135) + (((((((x - (((x.toUInt32 >>> ((1 : Int32).toUInt32 &&& Int32.toUInt32 31)).toInt32) &&& 1431655765)) &&& 858993459) + ((((x - (((x.toUInt32 >>> ((1 : Int32).toUInt32 &&& Int32.toUInt32 31)).toInt32) &&& 1431655765)).toUInt32 >>> ((2 : Int32).toUInt32 &&& Int32.toUInt32 31)).toInt32) &&& 858993459)) + (((((x - (((x.toUInt32 >>> ((1 : Int32).toUInt32 &&& Int32.toUInt32 31)).toInt32) &&& 1431655765)) &&& 858993459) + ((((x - (((x.toUInt32 >>> ((1 : Int32).toUInt32 &&& Int32.toUInt32 31)).toInt32) &&& 1431655765)).toUInt32 >>> ((2 : Int32).toUInt32 &&& Int32.toUInt32 31)).toInt32) &&& 858993459)).toUInt32 >>> ((4 : Int32).toUInt32 &&& Int32.toUInt32 31)).toInt32)) &&& 252645135).toUInt32 >>> ((8 : Int32).toUInt32 &&& Int32.toUInt32 31)).toInt32)) + ((((((((x - (((x.toUInt32 >>> ((1 : Int32).toUInt32 &&& Int32.toUInt32 31)).toInt32) &&& 1431655765)) &&& 858993459) + ((((x - (((x.toUInt32 >>> ((1 : Int32).toUInt32 &&& Int32.toUInt32 31)).toInt32) &&& 1431655765)).toUInt32 >>> ((2 : Int32).toUInt32 &&& Int32.toUInt32 31)).toInt32) &&& 858993459)) + (((((x - (((x.toUInt32 >>> ((1 : Int32).toUInt32 &&& Int32.toUInt32 31)).toInt32) &&& 1431655765)) &&& 858993459) + ((((x - (((x.toUInt32 >>> ((1 : Int32).toUInt32 &&& Int32.toUInt32 31)).toInt32) &&& 1431655765)).toUInt32 >>> ((2 : Int32).toUInt32 &&& Int32.toUInt32 31)).toInt32) &&& 858993459)).toUInt32 >>> ((4 : Int32).toUInt32 &&& Int32.toUInt32 31)).toInt32)) &&& 252645135) + (((((((x - (((x.toUInt32 >>> ((1 : Int32).toUInt32 &&& Int32.toUInt32 31)).toInt32) &&& 1431655765)) &&& 858993459) + ((((x - (((x.toUInt32 >>> ((1 : Int32).toUInt32 &&& Int32.toUInt32 31)).toInt32) &&& 1431655765)).toUInt32 >>> ((2 : Int32).toUInt32 &&& Int32.toUInt32 31)).toInt32) &&& 858993459)) + (((((x - (((x.toUInt32 >>> ((1 : Int32).toUInt32 &&& Int32.toUInt32 31)).toInt32) &&& 1431655765)) &&& 858993459) + ((((x - (((x.toUInt32 >>> ((1 : Int32).toUInt32 &&& Int32.toUInt32 31)).toInt32) &&& 1431655765)).toUInt32 >>> ((2 : Int32).toUInt32 &&& Int32.toUInt32 31)).toInt32) &&& 858993459)).toUInt32 >>> ((4 : Int32).toUInt32 &&& Int32.toUInt32 31)).toInt32)) &&& 252645135).toUInt32 >>> ((8 : Int32).toUInt32 &&& Int32.toUInt32 31)).toInt32)).toUInt32 >>> ((16 : Int32).toUInt32 &&& Int32.toUInt32 31)).toInt32)) &&& 63
set_option maxRecDepth 20000 in
theorem t_J6_bitCount_0f7a4 (hp : xH) (x : Int32) : xC MJ6_bitCount_0f7a4 0 [.int x] hp (some (.int (fJ6_bitCount_0f7a4 x))) hp := by
  refine ⟨Nat.le_of_ble_eq_true rfl, ?_⟩
  show xBody MJ6_bitCount_0f7a4 0 0 [some (.int x)] [] hp _ _
  refine xB.run oJ6_bitCount_0f7a4 41 (s := (52, [some (.int (((((((x - (((x.toUInt32 >>> ((1 : Int32).toUInt32 &&& Int32.toUInt32 31)).toInt32) &&& 1431655765)) &&& 858993459) + ((((x - (((x.toUInt32 >>> ((1 : Int32).toUInt32 &&& Int32.toUInt32 31)).toInt32) &&& 1431655765)).toUInt32 >>> ((2 : Int32).toUInt32 &&& Int32.toUInt32 31)).toInt32) &&& 858993459)) + (((((x - (((x.toUInt32 >>> ((1 : Int32).toUInt32 &&& Int32.toUInt32 31)).toInt32) &&& 1431655765)) &&& 858993459) + ((((x - (((x.toUInt32 >>> ((1 : Int32).toUInt32 &&& Int32.toUInt32 31)).toInt32) &&& 1431655765)).toUInt32 >>> ((2 : Int32).toUInt32 &&& Int32.toUInt32 31)).toInt32) &&& 858993459)).toUInt32 >>> ((4 : Int32).toUInt32 &&& Int32.toUInt32 31)).toInt32)) &&& 252645135) + (((((((x - (((x.toUInt32 >>> ((1 : Int32).toUInt32 &&& Int32.toUInt32 31)).toInt32) &&& 1431655765)) &&& 858993459) + ((((x - (((x.toUInt32 >>> ((1 : Int32).toUInt32 &&& Int32.toUInt32 31)).toInt32) &&& 1431655765)).toUInt32 >>> ((2 : Int32).toUInt32 &&& Int32.toUInt32 31)).toInt32) &&& 858993459)) + (((((x - (((x.toUInt32 >>> ((1 : Int32).toUInt32 &&& Int32.toUInt32 31)).toInt32) &&& 1431655765)) &&& 858993459) + ((((x - (((x.toUInt32 >>> ((1 : Int32).toUInt32 &&& Int32.toUInt32 31)).toInt32) &&& 1431655765)).toUInt32 >>> ((2 : Int32).toUInt32 &&& Int32.toUInt32 31)).toInt32) &&& 858993459)).toUInt32 >>> ((4 : Int32).toUInt32 &&& Int32.toUInt32 31)).toInt32)) &&& 252645135).toUInt32 >>> ((8 : Int32).toUInt32 &&& Int32.toUInt32 31)).toInt32)) + ((((((((x - (((x.toUInt32 >>> ((1 : Int32).toUInt32 &&& Int32.toUInt32 31)).toInt32) &&& 1431655765)) &&& 858993459) + ((((x - (((x.toUInt32 >>> ((1 : Int32).toUInt32 &&& Int32.toUInt32 31)).toInt32) &&& 1431655765)).toUInt32 >>> ((2 : Int32).toUInt32 &&& Int32.toUInt32 31)).toInt32) &&& 858993459)) + (((((x - (((x.toUInt32 >>> ((1 : Int32).toUInt32 &&& Int32.toUInt32 31)).toInt32) &&& 1431655765)) &&& 858993459) + ((((x - (((x.toUInt32 >>> ((1 : Int32).toUInt32 &&& Int32.toUInt32 31)).toInt32) &&& 1431655765)).toUInt32 >>> ((2 : Int32).toUInt32 &&& Int32.toUInt32 31)).toInt32) &&& 858993459)).toUInt32 >>> ((4 : Int32).toUInt32 &&& Int32.toUInt32 31)).toInt32)) &&& 252645135) + (((((((x - (((x.toUInt32 >>> ((1 : Int32).toUInt32 &&& Int32.toUInt32 31)).toInt32) &&& 1431655765)) &&& 858993459) + ((((x - (((x.toUInt32 >>> ((1 : Int32).toUInt32 &&& Int32.toUInt32 31)).toInt32) &&& 1431655765)).toUInt32 >>> ((2 : Int32).toUInt32 &&& Int32.toUInt32 31)).toInt32) &&& 858993459)) + (((((x - (((x.toUInt32 >>> ((1 : Int32).toUInt32 &&& Int32.toUInt32 31)).toInt32) &&& 1431655765)) &&& 858993459) + ((((x - (((x.toUInt32 >>> ((1 : Int32).toUInt32 &&& Int32.toUInt32 31)).toInt32) &&& 1431655765)).toUInt32 >>> ((2 : Int32).toUInt32 &&& Int32.toUInt32 31)).toInt32) &&& 858993459)).toUInt32 >>> ((4 : Int32).toUInt32 &&& Int32.toUInt32 31)).toInt32)) &&& 252645135).toUInt32 >>> ((8 : Int32).toUInt32 &&& Int32.toUInt32 31)).toInt32)).toUInt32 >>> ((16 : Int32).toUInt32 &&& Int32.toUInt32 31)).toInt32)))], [.int ((((((((x - (((x.toUInt32 >>> ((1 : Int32).toUInt32 &&& Int32.toUInt32 31)).toInt32) &&& 1431655765)) &&& 858993459) + ((((x - (((x.toUInt32 >>> ((1 : Int32).toUInt32 &&& Int32.toUInt32 31)).toInt32) &&& 1431655765)).toUInt32 >>> ((2 : Int32).toUInt32 &&& Int32.toUInt32 31)).toInt32) &&& 858993459)) + (((((x - (((x.toUInt32 >>> ((1 : Int32).toUInt32 &&& Int32.toUInt32 31)).toInt32) &&& 1431655765)) &&& 858993459) + ((((x - (((x.toUInt32 >>> ((1 : Int32).toUInt32 &&& Int32.toUInt32 31)).toInt32) &&& 1431655765)).toUInt32 >>> ((2 : Int32).toUInt32 &&& Int32.toUInt32 31)).toInt32) &&& 858993459)).toUInt32 >>> ((4 : Int32).toUInt32 &&& Int32.toUInt32 31)).toInt32)) &&& 252645135) + (((((((x - (((x.toUInt32 >>> ((1 : Int32).toUInt32 &&& Int32.toUInt32 31)).toInt32) &&& 1431655765)) &&& 858993459) + ((((x - (((x.toUInt32 >>> ((1 : Int32).toUInt32 &&& Int32.toUInt32 31)).toInt32) &&& 1431655765)).toUInt32 >>> ((2 : Int32).toUInt32 &&& Int32.toUInt32 31)).toInt32) &&& 858993459)) + (((((x - (((x.toUInt32 >>> ((1 : Int32).toUInt32 &&& Int32.toUInt32 31)).toInt32) &&& 1431655765)) &&& 858993459) + ((((x - (((x.toUInt32 >>> ((1 : Int32).toUInt32 &&& Int32.toUInt32 31)).toInt32) &&& 1431655765)).toUInt32 >>> ((2 : Int32).toUInt32 &&& Int32.toUInt32 31)).toInt32) &&& 858993459)).toUInt32 >>> ((4 : Int32).toUInt32 &&& Int32.toUInt32 31)).toInt32)) &&& 252645135).toUInt32 >>> ((8 : Int32).toUInt32 &&& Int32.toUInt32 31)).toInt32)) + ((((((((x - (((x.toUInt32 >>> ((1 : Int32).toUInt32 &&& Int32.toUInt32 31)).toInt32) &&& 1431655765)) &&& 858993459) + ((((x - (((x.toUInt32 >>> ((1 : Int32).toUInt32 &&& Int32.toUInt32 31)).toInt32) &&& 1431655765)).toUInt32 >>> ((2 : Int32).toUInt32 &&& Int32.toUInt32 31)).toInt32) &&& 858993459)) + (((((x - (((x.toUInt32 >>> ((1 : Int32).toUInt32 &&& Int32.toUInt32 31)).toInt32) &&& 1431655765)) &&& 858993459) + ((((x - (((x.toUInt32 >>> ((1 : Int32).toUInt32 &&& Int32.toUInt32 31)).toInt32) &&& 1431655765)).toUInt32 >>> ((2 : Int32).toUInt32 &&& Int32.toUInt32 31)).toInt32) &&& 858993459)).toUInt32 >>> ((4 : Int32).toUInt32 &&& Int32.toUInt32 31)).toInt32)) &&& 252645135) + (((((((x - (((x.toUInt32 >>> ((1 : Int32).toUInt32 &&& Int32.toUInt32 31)).toInt32) &&& 1431655765)) &&& 858993459) + ((((x - (((x.toUInt32 >>> ((1 : Int32).toUInt32 &&& Int32.toUInt32 31)).toInt32) &&& 1431655765)).toUInt32 >>> ((2 : Int32).toUInt32 &&& Int32.toUInt32 31)).toInt32) &&& 858993459)) + (((((x - (((x.toUInt32 >>> ((1 : Int32).toUInt32 &&& Int32.toUInt32 31)).toInt32) &&& 1431655765)) &&& 858993459) + ((((x - (((x.toUInt32 >>> ((1 : Int32).toUInt32 &&& Int32.toUInt32 31)).toInt32) &&& 1431655765)).toUInt32 >>> ((2 : Int32).toUInt32 &&& Int32.toUInt32 31)).toInt32) &&& 858993459)).toUInt32 >>> ((4 : Int32).toUInt32 &&& Int32.toUInt32 31)).toInt32)) &&& 252645135).toUInt32 >>> ((8 : Int32).toUInt32 &&& Int32.toUInt32 31)).toInt32)).toUInt32 >>> ((16 : Int32).toUInt32 &&& Int32.toUInt32 31)).toInt32)) &&& 63)], hp)) rfl ?_
  exact xB.ret oJ6_bitCount_0f7a4 (r1 := some (.int ((((((((x - (((x.toUInt32 >>> ((1 : Int32).toUInt32 &&& Int32.toUInt32 31)).toInt32) &&& 1431655765)) &&& 858993459) + ((((x - (((x.toUInt32 >>> ((1 : Int32).toUInt32 &&& Int32.toUInt32 31)).toInt32) &&& 1431655765)).toUInt32 >>> ((2 : Int32).toUInt32 &&& Int32.toUInt32 31)).toInt32) &&& 858993459)) + (((((x - (((x.toUInt32 >>> ((1 : Int32).toUInt32 &&& Int32.toUInt32 31)).toInt32) &&& 1431655765)) &&& 858993459) + ((((x - (((x.toUInt32 >>> ((1 : Int32).toUInt32 &&& Int32.toUInt32 31)).toInt32) &&& 1431655765)).toUInt32 >>> ((2 : Int32).toUInt32 &&& Int32.toUInt32 31)).toInt32) &&& 858993459)).toUInt32 >>> ((4 : Int32).toUInt32 &&& Int32.toUInt32 31)).toInt32)) &&& 252645135) + (((((((x - (((x.toUInt32 >>> ((1 : Int32).toUInt32 &&& Int32.toUInt32 31)).toInt32) &&& 1431655765)) &&& 858993459) + ((((x - (((x.toUInt32 >>> ((1 : Int32).toUInt32 &&& Int32.toUInt32 31)).toInt32) &&& 1431655765)).toUInt32 >>> ((2 : Int32).toUInt32 &&& Int32.toUInt32 31)).toInt32) &&& 858993459)) + (((((x - (((x.toUInt32 >>> ((1 : Int32).toUInt32 &&& Int32.toUInt32 31)).toInt32) &&& 1431655765)) &&& 858993459) + ((((x - (((x.toUInt32 >>> ((1 : Int32).toUInt32 &&& Int32.toUInt32 31)).toInt32) &&& 1431655765)).toUInt32 >>> ((2 : Int32).toUInt32 &&& Int32.toUInt32 31)).toInt32) &&& 858993459)).toUInt32 >>> ((4 : Int32).toUInt32 &&& Int32.toUInt32 31)).toInt32)) &&& 252645135).toUInt32 >>> ((8 : Int32).toUInt32 &&& Int32.toUInt32 31)).toInt32)) + ((((((((x - (((x.toUInt32 >>> ((1 : Int32).toUInt32 &&& Int32.toUInt32 31)).toInt32) &&& 1431655765)) &&& 858993459) + ((((x - (((x.toUInt32 >>> ((1 : Int32).toUInt32 &&& Int32.toUInt32 31)).toInt32) &&& 1431655765)).toUInt32 >>> ((2 : Int32).toUInt32 &&& Int32.toUInt32 31)).toInt32) &&& 858993459)) + (((((x - (((x.toUInt32 >>> ((1 : Int32).toUInt32 &&& Int32.toUInt32 31)).toInt32) &&& 1431655765)) &&& 858993459) + ((((x - (((x.toUInt32 >>> ((1 : Int32).toUInt32 &&& Int32.toUInt32 31)).toInt32) &&& 1431655765)).toUInt32 >>> ((2 : Int32).toUInt32 &&& Int32.toUInt32 31)).toInt32) &&& 858993459)).toUInt32 >>> ((4 : Int32).toUInt32 &&& Int32.toUInt32 31)).toInt32)) &&& 252645135) + (((((((x - (((x.toUInt32 >>> ((1 : Int32).toUInt32 &&& Int32.toUInt32 31)).toInt32) &&& 1431655765)) &&& 858993459) + ((((x - (((x.toUInt32 >>> ((1 : Int32).toUInt32 &&& Int32.toUInt32 31)).toInt32) &&& 1431655765)).toUInt32 >>> ((2 : Int32).toUInt32 &&& Int32.toUInt32 31)).toInt32) &&& 858993459)) + (((((x - (((x.toUInt32 >>> ((1 : Int32).toUInt32 &&& Int32.toUInt32 31)).toInt32) &&& 1431655765)) &&& 858993459) + ((((x - (((x.toUInt32 >>> ((1 : Int32).toUInt32 &&& Int32.toUInt32 31)).toInt32) &&& 1431655765)).toUInt32 >>> ((2 : Int32).toUInt32 &&& Int32.toUInt32 31)).toInt32) &&& 858993459)).toUInt32 >>> ((4 : Int32).toUInt32 &&& Int32.toUInt32 31)).toInt32)) &&& 252645135).toUInt32 >>> ((8 : Int32).toUInt32 &&& Int32.toUInt32 31)).toInt32)).toUInt32 >>> ((16 : Int32).toUInt32 &&& Int32.toUInt32 31)).toInt32)) &&& 63))) rfl (by simp only [fJ6_bitCount_0f7a4]) rfl
