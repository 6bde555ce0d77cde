/-! sights: quarrel, span, most -/
theorem e_X7_isSight {s5 : zZ} {a : Int} (ha : zr a) (h : 0 ≤ s5 0 3 ∧ s5 0 3 ≤ 12) : d_X7_isSight s5 a = some (if 0 ≤ a ∧ a < s5 0 3 then 1 else 0) := by
  unfold d_X7_isSight
  repeat' split
  all_goals first | rfl | (exfalso; omega)
theorem e_X12_isSight {s7 : zZ} {a : Int} (ha : zr a) (h : 0 ≤ s7 0 39 ∧ s7 0 39 ≤ 12) : d_X12_isSight s7 a = some (if 0 ≤ a ∧ a < s7 0 39 then 1 else 0) := by
  unfold d_X12_isSight
  repeat' split
  all_goals first | rfl | (exfalso; omega)
theorem two_pow_rng {a : Nat} (h : a ≤ 12) : (1 : Int) ≤ 2 ^ a ∧ (2 : Int) ^ a ≤ 4096 := by
  have h1 : (2 : Nat) ^ a ≤ 2 ^ 12 := Nat.pow_le_pow_right (by decide) h
  have h2 : 1 ≤ (2 : Nat) ^ a := Nat.one_le_two_pow
  have e : ((2 : Int) ^ a) = ((2 ^ a : Nat) : Int) := by simp
  rw [e]
  omega
theorem two_pow_toNat (a : Nat) : ((2 : Int) ^ a).toNat = 2 ^ a := by
  have e : ((2 : Int) ^ a) = ((2 ^ a : Nat) : Int) := by simp
  rw [e, Int.toNat_natCast]
theorem zbt_pair (a b c : Nat) : zbt (((2 ^ a ||| 2 ^ b : Nat) : Int)) c ↔ (c = a ∨ c = b) := by
  rw [zbt_nat, Nat.testBit_or, Nat.testBit_two_pow, Nat.testBit_two_pow]
  simp
  constructor
  · rintro (h | h) <;> omega
  · rintro (h | h) <;> omega
theorem or_lt {x y n : Nat} (hx : x < 2 ^ n) (hy : y < 2 ^ n) : x ||| y < 2 ^ n := Nat.or_lt_two_pow hx hy
theorem m_quarrel {s0 s5 s7 : zZ} {a b : Int} (ha : zr a) (hb : zr b) (R : RSi s5 (s7 0 39) (s7 29) (s7 30) (s7 31)) : ∃ r, d_X11_quarrel s0 s5 a b = some r ∧ d_X12_quarrel s7 a b = some r := by
  obtain ⟨R1, R2, R3, R4⟩ := R
  have R : RSi s5 (s7 0 39) (s7 29) (s7 30) (s7 31) := ⟨R1, R2, R3, R4⟩
  have S := Sok_of R
  unfold d_X11_quarrel d_X12_quarrel
  rw [e_X7_isSight ha (by omega), e_X12_isSight ha (by omega), e_X7_isSight hb (by omega), e_X12_isSight hb (by omega), R1]
  simp only [Option.bind_some]
  by_cases h1 : 0 ≤ a ∧ a < s7 0 39
  · by_cases h2 : 0 ≤ b ∧ b < s7 0 39
    · obtain ⟨x, rfl⟩ := Int.eq_ofNat_of_zero_le h1.1
      obtain ⟨y, rfl⟩ := Int.eq_ofNat_of_zero_le h2.1
      have X := R4 x (by omega)
      have Y := R4 y (by omega)
      have p1 := two_pow_rng (a := x) (by omega)
      have p2 := two_pow_rng (a := y) (by omega)
      rw [Int.toNat_natCast, Int.toNat_natCast, two_pow_toNat, two_pow_toNat]
      have hlt : 2 ^ x ||| 2 ^ y < 2 ^ 13 := or_lt (Nat.pow_lt_pow_right (by decide) (by omega)) (Nat.pow_lt_pow_right (by decide) (by omega))
      obtain ⟨v, v1, v2, v3⟩ := e_agree S (set := ((2 ^ x ||| 2 ^ y : Nat) : Int)) (by omega)
      rw [v1, e_isAbove R (by omega) (by omega), e_isAbove R (by omega) (by omega)]
      simp only [Option.bind_some, if_pos h1, if_pos h2]
      have key : Agr s5 (s7 0 39) ((2 ^ x ||| 2 ^ y : Nat) : Int) ↔ (s5 2 x * s5 1 y ≤ s5 3 y * s5 1 x ∧ s5 2 y * s5 1 x ≤ s5 3 x * s5 1 y) := by
        constructor
        · intro h
          exact ⟨h x y (by omega) (by omega) ((zbt_pair x y x).mpr (Or.inl rfl)) ((zbt_pair x y y).mpr (Or.inr rfl)), h y x (by omega) (by omega) ((zbt_pair x y y).mpr (Or.inr rfl)) ((zbt_pair x y x).mpr (Or.inl rfl))⟩
        · intro h c d hc hd h3 h4
          have self : ∀ e : Nat, (e : Int) < s7 0 39 → s5 2 e * s5 1 e ≤ s5 3 e * s5 1 e := fun e he => by
            have E := R4 e he
            exact Int.mul_le_mul_of_nonneg_right (by omega) (by omega)
          rcases (zbt_pair x y c).mp h3 with rfl | rfl <;> rcases (zbt_pair _ _ d).mp h4 with rfl | rfl
          · exact self _ hc
          · exact h.1
          · exact h.2
          · exact self _ hc
      by_cases q1 : s5 2 x * s5 1 y ≤ s5 3 y * s5 1 x
      · by_cases q2 : s5 2 y * s5 1 x ≤ s5 3 x * s5 1 y
        · have : v = 1 := v3.mpr (key.mpr ⟨q1, q2⟩)
          subst this
          simp (disch := omega) only [↓if_pos, ↓if_neg, ↓Option.bind_some, ite_self]
          exact ⟨_, rfl, rfl⟩
        · have : v = 0 := by
            rcases v2 with v2 | v2
            · exact v2
            · exact absurd (key.mp (v3.mp v2)).2 q2
          subst this
          simp (disch := omega) only [↓if_pos, ↓if_neg, ↓Option.bind_some, ite_self]
          exact ⟨_, rfl, rfl⟩
      · have : v = 0 := by
          rcases v2 with v2 | v2
          · exact v2
          · exact absurd (key.mp (v3.mp v2)).1 q1
        subst this
        simp (disch := omega) only [↓if_pos, ↓if_neg, ↓Option.bind_some, ite_self]
        exact ⟨_, rfl, rfl⟩
    · simp (disch := omega) only [↓if_pos, ↓if_neg, ↓Option.bind_some, ite_self]
      exact ⟨_, rfl, rfl⟩
  · simp (disch := omega) only [↓if_pos, ↓if_neg, ↓Option.bind_some, ite_self]
    exact ⟨_, rfl, rfl⟩
/-- both walks along the sights keep step -/
theorem e_span_low {s5 s7 : zZ} (R : RSi s5 (s7 0 39) (s7 29) (s7 30) (s7 31)) {set wh : Int} (hs : zr set) : ∀ (n a : Nat) (best up dn : Int) (f g : Nat), (a : Int) + n = s7 0 39 → n + 1 ≤ f → n + 1 ≤ g → ((best = -1 ∧ dn = 0) ∨ (0 ≤ best ∧ best < a ∧ up = s5 2 best.toNat ∧ dn = s5 1 best.toNat)) → ∃ B z U D w, d_X7_greatestLow_4 s5 set f best a = some (B, z) ∧ d_X12_span_58 s7 set 0 wh g up dn a = some (U, D, w) ∧ ((B = -1 ∧ D = 0) ∨ (0 ≤ B ∧ B < s7 0 39 ∧ U = s5 2 B.toNat ∧ D = s5 1 B.toNat)) := by
  obtain ⟨R1, R2, R3, R4⟩ := R
  intro n
  induction n with
  | zero =>
    intro a best up dn f g ha hf hg h
    obtain ⟨f, rfl⟩ : ∃ k, f = k + 1 := ⟨f - 1, by omega⟩
    obtain ⟨g, rfl⟩ : ∃ k, g = k + 1 := ⟨g - 1, by omega⟩
    unfold d_X7_greatestLow_4 d_X12_span_58
    rw [if_pos (by omega), if_pos (by omega), if_pos (by omega), if_pos (by omega)]
    exact ⟨_, _, _, _, _, rfl, rfl, by omega⟩
  | succ n ih =>
    intro a best up dn f g ha hf hg h
    obtain ⟨f, rfl⟩ : ∃ k, f = k + 1 := ⟨f - 1, by omega⟩
    obtain ⟨g, rfl⟩ : ∃ k, g = k + 1 := ⟨g - 1, by omega⟩
    unfold d_X7_greatestLow_4 d_X12_span_58
    have A := R4 a (by omega)
    rw [show ((a : Int) + 1) = ((a + 1 : Nat) : Int) by omega, Int.toNat_natCast, A.1, A.2.1, A.2.2.1]
    by_cases hb : zbt set a
    · rcases h with ⟨h1, h2⟩ | ⟨h1, h2, h3, h4⟩
      · simp (disch := omega) only [↓if_pos, ↓if_neg, ↓Option.bind_some, ite_self]
        exact ih (a + 1) _ _ _ f g (by omega) (by omega) (by omega) (Or.inr ⟨by omega, by omega, by rw [Int.toNat_natCast], by rw [Int.toNat_natCast]⟩)
      · have B := R4 best.toNat (by omega)
        have p1 := prod_rng (x := s5 2 a) (y := s5 1 best.toNat) (by omega) (by omega)
        have p2 := prod_rng (x := s5 2 best.toNat) (y := s5 1 a) (by omega) (by omega)
        rw [h3, h4]
        by_cases q : s5 2 a * s5 1 best.toNat ≤ s5 2 best.toNat * s5 1 a
        · simp (disch := omega) only [↓if_pos, ↓if_neg, ↓Option.bind_some, ite_self]
          exact ih (a + 1) _ _ _ f g (by omega) (by omega) (by omega) (Or.inr ⟨h1, by omega, rfl, rfl⟩)
        · simp (disch := omega) only [↓if_pos, ↓if_neg, ↓Option.bind_some, ite_self]
          exact ih (a + 1) _ _ _ f g (by omega) (by omega) (by omega) (Or.inr ⟨by omega, by omega, by rw [Int.toNat_natCast], by rw [Int.toNat_natCast]⟩)
    · have hz := zmod2 (set / 2 ^ a)
      simp (disch := omega) only [↓if_pos, ↓if_neg, ↓Option.bind_some, ite_self]
      exact ih (a + 1) _ _ _ f g (by omega) (by omega) (by omega) (by omega)
/-- both walks along the sights keep step -/
theorem e_span_high {s5 s7 : zZ} (R : RSi s5 (s7 0 39) (s7 29) (s7 30) (s7 31)) {set wh : Int} (hs : zr set) : ∀ (n a : Nat) (best up dn : Int) (f g : Nat), (a : Int) + n = s7 0 39 → n + 1 ≤ f → n + 1 ≤ g → ((best = -1 ∧ dn = 0) ∨ (0 ≤ best ∧ best < a ∧ up = s5 3 best.toNat ∧ dn = s5 1 best.toNat)) → ∃ B z U D w, d_X7_leastHigh_4 s5 set f best a = some (B, z) ∧ d_X12_span_58 s7 set 1 wh g up dn a = some (U, D, w) ∧ ((B = -1 ∧ D = 0) ∨ (0 ≤ B ∧ B < s7 0 39 ∧ U = s5 3 B.toNat ∧ D = s5 1 B.toNat)) := by
  obtain ⟨R1, R2, R3, R4⟩ := R
  intro n
  induction n with
  | zero =>
    intro a best up dn f g ha hf hg h
    obtain ⟨f, rfl⟩ : ∃ k, f = k + 1 := ⟨f - 1, by omega⟩
    obtain ⟨g, rfl⟩ : ∃ k, g = k + 1 := ⟨g - 1, by omega⟩
    unfold d_X7_leastHigh_4 d_X12_span_58
    rw [if_pos (by omega), if_pos (by omega), if_pos (by omega), if_pos (by omega)]
    exact ⟨_, _, _, _, _, rfl, rfl, by omega⟩
  | succ n ih =>
    intro a best up dn f g ha hf hg h
    obtain ⟨f, rfl⟩ : ∃ k, f = k + 1 := ⟨f - 1, by omega⟩
    obtain ⟨g, rfl⟩ : ∃ k, g = k + 1 := ⟨g - 1, by omega⟩
    unfold d_X7_leastHigh_4 d_X12_span_58
    have A := R4 a (by omega)
    rw [show ((a : Int) + 1) = ((a + 1 : Nat) : Int) by omega, Int.toNat_natCast, A.1, A.2.1, A.2.2.1]
    by_cases hb : zbt set a
    · rcases h with ⟨h1, h2⟩ | ⟨h1, h2, h3, h4⟩
      · simp (disch := omega) only [↓if_pos, ↓if_neg, ↓Option.bind_some, ite_self]
        exact ih (a + 1) _ _ _ f g (by omega) (by omega) (by omega) (Or.inr ⟨by omega, by omega, by rw [Int.toNat_natCast], by rw [Int.toNat_natCast]⟩)
      · have B := R4 best.toNat (by omega)
        have p1 := prod_rng (x := s5 3 a) (y := s5 1 best.toNat) (by omega) (by omega)
        have p2 := prod_rng (x := s5 3 best.toNat) (y := s5 1 a) (by omega) (by omega)
        rw [h3, h4]
        by_cases q : s5 3 best.toNat * s5 1 a ≤ s5 3 a * s5 1 best.toNat
        · simp (disch := omega) only [↓if_pos, ↓if_neg, ↓Option.bind_some, ite_self]
          exact ih (a + 1) _ _ _ f g (by omega) (by omega) (by omega) (Or.inr ⟨h1, by omega, rfl, rfl⟩)
        · simp (disch := omega) only [↓if_pos, ↓if_neg, ↓Option.bind_some, ite_self]
          exact ih (a + 1) _ _ _ f g (by omega) (by omega) (by omega) (Or.inr ⟨by omega, by omega, by rw [Int.toNat_natCast], by rw [Int.toNat_natCast]⟩)
    · have hz := zmod2 (set / 2 ^ a)
      simp (disch := omega) only [↓if_pos, ↓if_neg, ↓Option.bind_some, ite_self]
      exact ih (a + 1) _ _ _ f g (by omega) (by omega) (by omega) (by omega)
theorem e_isHalf {w : Int} (h : zr w) : d_X11_isHalf w = some (if 0 ≤ w ∧ w ≤ 1 then 1 else 0) := by
  unfold d_X11_isHalf
  repeat' split
  all_goals first | rfl | (exfalso; omega)
theorem m_span {s0 s5 s7 : zZ} {set en wh : Int} (hs : zr set) (he : zr en) (hw : zr wh) (R : RSi s5 (s7 0 39) (s7 29) (s7 30) (s7 31)) : ∃ r, d_X11_span s0 s5 set en wh = some r ∧ d_X12_span s7 set en wh = some r := by
  obtain ⟨R1, R2, R3, R4⟩ := R
  have R : RSi s5 (s7 0 39) (s7 29) (s7 30) (s7 31) := ⟨R1, R2, R3, R4⟩
  have S := Sok_of R
  have p1 := two_pow_rng (a := (s7 0 39).toNat) (by omega)
  unfold d_X11_span d_X12_span d_X7_isSet
  rw [e_X12_within (by omega), R1]
  by_cases h1 : 1 ≤ set ∧ set ≤ 2 ^ (s7 0 39).toNat - 1
  · rw [e_X12_within (by omega)]
    by_cases h2 : 0 ≤ en ∧ en ≤ 1
    · rw [e_X12_within (by omega), e_isHalf hw]
      by_cases h3 : 0 ≤ wh ∧ wh ≤ 1
      · obtain ⟨u, u1, u2, u3⟩ := e_agree S hs
        obtain ⟨v, v1, v2, v3⟩ := e_doAgree R (set := set) (by omega)
        have huv := bit_eq u2 v2 u3 v3
        subst huv
        rw [u1, v1]
        by_cases h4 : u = 0
        · simp (disch := omega) only [↓if_pos, ↓if_neg, ↓Option.bind_some, ite_self]
          exact ⟨_, rfl, rfl⟩
        · unfold d_X7_endOf d_X7_greatestLow d_X7_leastHigh
          by_cases h5 : en = 0
          · subst h5
            obtain ⟨B, z, U, D, w, g1, g2, g3⟩ := e_span_low R (wh := wh) hs (s7 0 39).toNat 0 (-1) 0 0 zF zF (by omega) (by unfold zF; omega) (by unfold zF; omega) (Or.inl ⟨rfl, rfl⟩)
            obtain ⟨B', b1, b2⟩ := e_gl S hs
            unfold d_X7_greatestLow at b1
            rw [show ((0 : Nat) : Int) = 0 from rfl] at g1 g2
            rw [g1] at b1 ⊢
            rw [g2]
            simp only [Option.bind_some, Option.some.injEq] at b1
            subst b1
            rcases b2 with ⟨b3, b4⟩ | ⟨b3, b4, b5, b6⟩
            · exfalso
              have key : ∀ n : Nat, ∀ x : Nat, x < 2 ^ n → x ≠ 0 → ∃ i, i < n ∧ x.testBit i = true := by
                intro n x hx h0
                obtain ⟨i, hi⟩ := Nat.exists_testBit_of_ne_zero h0
                refine ⟨i, ?_, hi⟩
                rcases Nat.lt_or_ge i n with q | q
                · exact q
                · rw [Nat.testBit_lt_two_pow (Nat.lt_of_lt_of_le hx (Nat.pow_le_pow_right (by decide) q))] at hi
                  cases hi
              have hx : set.toNat < 2 ^ (s7 0 39).toNat := by
                have := two_pow_toNat (s7 0 39).toNat
                omega
              obtain ⟨i, hi, hb⟩ := key _ set.toNat hx (by omega)
              refine b4 i (by omega) ?_
              have e := (zbt_nat set.toNat i).mpr hb
              rwa [Int.toNat_of_nonneg (by omega)] at e
            · rcases g3 with ⟨g4, g5⟩ | ⟨g4, g5, g6, g7⟩
              · omega
              · have F := R4 B.toNat (by omega)
                subst g6 g7
                simp (disch := omega) only [↓if_pos, ↓if_neg, ↓Option.bind_some, ite_self]
                rw [e_least (by omega) (by omega) (by omega) hw, e_part (by omega) (by omega) (by omega) hw]
                simp (disch := omega) only [↓if_pos, ↓if_neg, ↓Option.bind_some, ite_self]
                exact ⟨_, rfl, rfl⟩
          · have h6 : en = 1 := by omega
            subst h6
            obtain ⟨B, z, U, D, w, g1, g2, g3⟩ := e_span_high R (wh := wh) hs (s7 0 39).toNat 0 (-1) 0 0 zF zF (by omega) (by unfold zF; omega) (by unfold zF; omega) (Or.inl ⟨rfl, rfl⟩)
            obtain ⟨B', b1, b2⟩ := e_lh S hs
            unfold d_X7_leastHigh at b1
            rw [show ((0 : Nat) : Int) = 0 from rfl] at g1 g2
            rw [g1] at b1 ⊢
            rw [g2]
            simp only [Option.bind_some, Option.some.injEq] at b1
            subst b1
            rcases b2 with ⟨b3, b4⟩ | ⟨b3, b4, b5, b6⟩
            · exfalso
              have hx : set.toNat < 2 ^ (s7 0 39).toNat := by
                have := two_pow_toNat (s7 0 39).toNat
                omega
              obtain ⟨i, hb⟩ := Nat.exists_testBit_of_ne_zero (show set.toNat ≠ 0 by omega)
              have hi : i < (s7 0 39).toNat := by
                rcases Nat.lt_or_ge i (s7 0 39).toNat with q | q
                · exact q
                · rw [Nat.testBit_lt_two_pow (Nat.lt_of_lt_of_le hx (Nat.pow_le_pow_right (by decide) q))] at hb
                  cases hb
              refine b4 i (by omega) ?_
              have e := (zbt_nat set.toNat i).mpr hb
              rwa [Int.toNat_of_nonneg (by omega)] at e
            · rcases g3 with ⟨g4, g5⟩ | ⟨g4, g5, g6, g7⟩
              · omega
              · have F := R4 B.toNat (by omega)
                subst g6 g7
                simp (disch := omega) only [↓if_pos, ↓if_neg, ↓Option.bind_some, ite_self]
                rw [e_least (by omega) (by omega) (by omega) hw, e_part (by omega) (by omega) (by omega) hw]
                simp (disch := omega) only [↓if_pos, ↓if_neg, ↓Option.bind_some, ite_self]
                exact ⟨_, rfl, rfl⟩
      · simp (disch := omega) only [↓if_pos, ↓if_neg, ↓Option.bind_some, ite_self]
        exact ⟨_, rfl, rfl⟩
    · simp (disch := omega) only [↓if_pos, ↓if_neg, ↓Option.bind_some, ite_self]
      exact ⟨_, rfl, rfl⟩
  · simp (disch := omega) only [↓if_pos, ↓if_neg, ↓Option.bind_some, ite_self]
    exact ⟨_, rfl, rfl⟩
