/-! sights -/
def RSi (s5 : zZ) (cn : Int) (fa lo hi : Nat → Int) : Prop := s5 0 3 = cn ∧ 0 ≤ cn ∧ cn ≤ 12 ∧ ∀ a : Nat, (a : Int) < cn → fa a = s5 1 a ∧ lo a = s5 2 a ∧ hi a = s5 3 a ∧ 1 ≤ s5 1 a ∧ s5 1 a ≤ 99 ∧ 0 ≤ s5 2 a ∧ s5 2 a ≤ s5 3 a ∧ s5 3 a ≤ 99999
theorem m_sight {s0 s5 s7 : zZ} {m lo hi : Int} (hm : zr m) (hl : zr lo) (hh : zr hi) (R : RSi s5 (s7 0 39) (s7 29) (s7 30) (s7 31)) : ∃ r s5' s7', d_X11_sight s0 s5 m lo hi = some (r, s5') ∧ d_X12_sight s7 m lo hi = some (r, s7') ∧ RSi s5' (s7' 0 39) (s7' 29) (s7' 30) (s7' 31) ∧ Fr [29, 30, 31] [39] s7 s7' := by
  obtain ⟨R1, R2, R3, R4⟩ := R
  have R : RSi s5 (s7 0 39) (s7 29) (s7 30) (s7 31) := ⟨R1, R2, R3, R4⟩
  unfold d_X11_sight d_X12_sight
  rw [e_X12_within (by omega)]
  by_cases h1 : 1 ≤ m ∧ m ≤ 99
  · rw [e_X12_within (by omega)]
    by_cases h2 : 0 ≤ lo ∧ lo ≤ 99999
    · rw [e_X12_within (by omega)]
      by_cases h3 : lo ≤ hi ∧ hi ≤ 99999
      · unfold d_X7_addSight d_X7_isFull
        simp only [upz_ne _ _ _ _ (show 0 ≠ 1 by decide), upz_ne _ _ _ _ (show 0 ≠ 2 by decide), upz_ne _ _ _ _ (show 0 ≠ 3 by decide), upz_ne _ _ _ _ (show 0 ≠ 29 by decide), upz_ne _ _ _ _ (show 0 ≠ 30 by decide), upz_ne _ _ _ _ (show 0 ≠ 31 by decide)]
        by_cases h4 : s7 0 39 = 12
        · simp (disch := omega) only [↓if_pos, ↓if_neg, ↓Option.bind_some, ite_self]
          exact ⟨_, _, _, rfl, rfl, R, Fr_refl _ _ _⟩
        · simp (disch := omega) only [↓if_pos, ↓if_neg, ↓Option.bind_some, ite_self]
          rw [R1]
          refine ⟨_, _, _, rfl, rfl, ?_, ?_⟩
          · refine ⟨by simp only [upz_at]; grind, by simp only [upz_at]; grind, by simp only [upz_at]; grind, fun a ha => ?_⟩
            have := R4 a
            simp only [upz_at] at ha ⊢
            grind
          · repeat first | exact Fr_refl _ _ _ | refine Fr_upz0 (by decide) ?_ | refine Fr_upz (by decide) (by decide) ?_
      · simp (disch := omega) only [↓if_pos, ↓if_neg, ↓Option.bind_some, ite_self]
        exact ⟨_, _, _, rfl, rfl, R, Fr_refl _ _ _⟩
    · simp (disch := omega) only [↓if_pos, ↓if_neg, ↓Option.bind_some, ite_self]
      exact ⟨_, _, _, rfl, rfl, R, Fr_refl _ _ _⟩
  · simp (disch := omega) only [↓if_pos, ↓if_neg, ↓Option.bind_some, ite_self]
    exact ⟨_, _, _, rfl, rfl, R, Fr_refl _ _ _⟩
/-! bits -/
abbrev zbt (set : Int) (a : Nat) : Prop := set / 2 ^ a % 2 = 1
theorem zbt_nat (m a : Nat) : zbt (m : Int) a ↔ m.testBit a = true := by
  unfold zbt
  rw [Nat.testBit_eq_decide_div_mod_eq, decide_eq_true_eq]
  have e : ((m : Int) / 2 ^ a % 2) = ((m / 2 ^ a % 2 : Nat) : Int) := by simp
  rw [e]
  omega
theorem zmod2 (x : Int) : x % 2 = 0 ∨ x % 2 = 1 := by omega
theorem ratio_trans {lb fb lx fx la fa : Int} (h1 : lb * fx ≤ lx * fb) (h2 : lx * fa ≤ la * fx) (hx : 0 < fx) (hb : 0 < fb) (ha : 0 < fa) : lb * fa ≤ la * fb := by
  have e1 : lb * fx * fa ≤ lx * fb * fa := Int.mul_le_mul_of_nonneg_right h1 (by omega)
  have e2 : lx * fa * fb ≤ la * fx * fb := Int.mul_le_mul_of_nonneg_right h2 (by omega)
  have e3 : lb * fa * fx ≤ la * fb * fx := by
    have a1 : lb * fa * fx = lb * fx * fa := by grind
    have a2 : la * fb * fx = la * fx * fb := by grind
    have a3 : lx * fb * fa = lx * fa * fb := by grind
    omega
  exact Int.le_of_mul_le_mul_right e3 hx
theorem prod_rng {x y : Int} (hx : 0 ≤ x ∧ x ≤ 99999) (hy : 1 ≤ y ∧ y ≤ 99) : 0 ≤ x * y ∧ x * y ≤ 9899901 := by
  have h1 := Int.mul_nonneg hx.1 (show 0 ≤ y by omega)
  have h2 : x * y ≤ 99999 * 99 := Int.mul_le_mul hx.2 hy.2 (by omega) (by omega)
  omega
/-- sights hold -/
def Sok (s5 : zZ) (cn : Int) : Prop := s5 0 3 = cn ∧ 0 ≤ cn ∧ cn ≤ 12 ∧ ∀ a : Nat, (a : Int) < cn → 1 ≤ s5 1 a ∧ s5 1 a ≤ 99 ∧ 0 ≤ s5 2 a ∧ s5 2 a ≤ s5 3 a ∧ s5 3 a ≤ 99999
theorem e_gl_loop {s5 : zZ} {cn : Int} (S : Sok s5 cn) (set : Int) (hs : zr set) : ∀ (n a : Nat) (best : Int) (f : Nat), (a : Int) + n = cn → n + 1 ≤ f → ((best = -1 ∧ ∀ b : Nat, b < a → ¬ zbt set b) ∨ (0 ≤ best ∧ best < a ∧ zbt set best.toNat ∧ ∀ b : Nat, b < a → zbt set b → s5 2 b * s5 1 best.toNat ≤ s5 2 best.toNat * s5 1 b)) → ∃ B z, d_X7_greatestLow_4 s5 set f best a = some (B, z) ∧ ((B = -1 ∧ ∀ b : Nat, (b : Int) < cn → ¬ zbt set b) ∨ (0 ≤ B ∧ B < cn ∧ zbt set B.toNat ∧ ∀ b : Nat, (b : Int) < cn → zbt set b → s5 2 b * s5 1 B.toNat ≤ s5 2 B.toNat * s5 1 b)) := by
  obtain ⟨S1, S2, S3, S4⟩ := S
  intro n
  induction n with
  | zero =>
    intro a best f ha hf h
    obtain ⟨f, rfl⟩ : ∃ g, f = g + 1 := ⟨f - 1, by omega⟩
    unfold d_X7_greatestLow_4
    rw [if_pos (by omega), if_pos (by omega)]
    refine ⟨_, _, rfl, ?_⟩
    rcases h with ⟨h1, h2⟩ | ⟨h1, h2, h3, h4⟩
    · exact Or.inl ⟨h1, fun b hb => h2 b (by omega)⟩
    · exact Or.inr ⟨h1, by omega, h3, fun b hb => h4 b (by omega)⟩
  | succ n ih =>
    intro a best f ha hf h
    obtain ⟨f, rfl⟩ : ∃ g, f = g + 1 := ⟨f - 1, by omega⟩
    unfold d_X7_greatestLow_4
    have e1 : ((a : Int) + 1) = ((a + 1 : Nat) : Int) := by omega
    rw [Int.toNat_natCast, e1]
    rw [if_pos (by omega), if_neg (by omega), if_pos (by omega), if_pos (by omega)]
    by_cases hb : zbt set a
    · rw [if_neg (fun q => q hb)]
      rcases h with ⟨h1, h2⟩ | ⟨h1, h2, h3, h4⟩
      · rw [if_pos (by omega), if_pos (by omega)]
        refine ih (a + 1) _ f (by omega) (by omega) (Or.inr ⟨by omega, by omega, by rw [Int.toNat_natCast]; exact hb, fun b hb2 hb3 => ?_⟩)
        rw [Int.toNat_natCast]
        by_cases q : b = a
        · rw [q]; exact Int.le_refl _
        · exact absurd hb3 (h2 b (by omega))
      · have A := S4 a (by omega)
        have B := S4 best.toNat (by omega)
        have p1 := prod_rng (x := s5 2 a) (y := s5 1 best.toNat) (by omega) (by omega)
        have p2 := prod_rng (x := s5 2 best.toNat) (y := s5 1 a) (by omega) (by omega)
        rw [if_pos (by omega), if_neg (by omega), if_pos (by omega), if_pos (by omega), if_pos (by omega), if_pos (by omega), if_pos (by omega)]
        by_cases q : s5 2 a * s5 1 best.toNat ≤ s5 2 best.toNat * s5 1 a
        · rw [if_pos q]
          refine ih (a + 1) _ f (by omega) (by omega) (Or.inr ⟨h1, by omega, h3, fun b hb2 hb3 => ?_⟩)
          by_cases q2 : b = a
          · rw [q2]; exact q
          · exact h4 b (by omega) hb3
        · rw [if_neg q]
          refine ih (a + 1) _ f (by omega) (by omega) (Or.inr ⟨by omega, by omega, by rw [Int.toNat_natCast]; exact hb, fun b hb2 hb3 => ?_⟩)
          rw [Int.toNat_natCast]
          by_cases q2 : b = a
          · rw [q2]; exact Int.le_refl _
          · have C := S4 b (by omega)
            exact ratio_trans (h4 b (by omega) hb3) (by omega) (by omega) (by omega) (by omega)
    · rw [if_pos hb]
      refine ih (a + 1) _ f (by omega) (by omega) ?_
      rcases h with ⟨h1, h2⟩ | ⟨h1, h2, h3, h4⟩
      · refine Or.inl ⟨h1, fun b hb2 => ?_⟩
        by_cases q : b = a
        · rw [q]; exact hb
        · exact h2 b (by omega)
      · refine Or.inr ⟨h1, by omega, h3, fun b hb2 hb3 => ?_⟩
        by_cases q : b = a
        · exact absurd (q ▸ hb3) hb
        · exact h4 b (by omega) hb3
theorem e_lh_loop {s5 : zZ} {cn : Int} (S : Sok s5 cn) (set : Int) (hs : zr set) : ∀ (n a : Nat) (best : Int) (f : Nat), (a : Int) + n = cn → n + 1 ≤ f → ((best = -1 ∧ ∀ b : Nat, b < a → ¬ zbt set b) ∨ (0 ≤ best ∧ best < a ∧ zbt set best.toNat ∧ ∀ b : Nat, b < a → zbt set b → s5 3 best.toNat * s5 1 b ≤ s5 3 b * s5 1 best.toNat)) → ∃ B z, d_X7_leastHigh_4 s5 set f best a = some (B, z) ∧ ((B = -1 ∧ ∀ b : Nat, (b : Int) < cn → ¬ zbt set b) ∨ (0 ≤ B ∧ B < cn ∧ zbt set B.toNat ∧ ∀ b : Nat, (b : Int) < cn → zbt set b → s5 3 B.toNat * s5 1 b ≤ s5 3 b * s5 1 B.toNat)) := by
  obtain ⟨S1, S2, S3, S4⟩ := S
  intro n
  induction n with
  | zero =>
    intro a best f ha hf h
    obtain ⟨f, rfl⟩ : ∃ g, f = g + 1 := ⟨f - 1, by omega⟩
    unfold d_X7_leastHigh_4
    rw [if_pos (by omega), if_pos (by omega)]
    refine ⟨_, _, rfl, ?_⟩
    rcases h with ⟨h1, h2⟩ | ⟨h1, h2, h3, h4⟩
    · exact Or.inl ⟨h1, fun b hb => h2 b (by omega)⟩
    · exact Or.inr ⟨h1, by omega, h3, fun b hb => h4 b (by omega)⟩
  | succ n ih =>
    intro a best f ha hf h
    obtain ⟨f, rfl⟩ : ∃ g, f = g + 1 := ⟨f - 1, by omega⟩
    unfold d_X7_leastHigh_4
    have e1 : ((a : Int) + 1) = ((a + 1 : Nat) : Int) := by omega
    rw [Int.toNat_natCast, e1]
    rw [if_pos (by omega), if_neg (by omega), if_pos (by omega), if_pos (by omega)]
    by_cases hb : zbt set a
    · rw [if_neg (fun q => q hb)]
      rcases h with ⟨h1, h2⟩ | ⟨h1, h2, h3, h4⟩
      · rw [if_pos (by omega), if_pos (by omega)]
        refine ih (a + 1) _ f (by omega) (by omega) (Or.inr ⟨by omega, by omega, by rw [Int.toNat_natCast]; exact hb, fun b hb2 hb3 => ?_⟩)
        rw [Int.toNat_natCast]
        by_cases q : b = a
        · rw [q]; exact Int.le_refl _
        · exact absurd hb3 (h2 b (by omega))
      · have A := S4 a (by omega)
        have B := S4 best.toNat (by omega)
        have p1 := prod_rng (x := s5 3 a) (y := s5 1 best.toNat) (by omega) (by omega)
        have p2 := prod_rng (x := s5 3 best.toNat) (y := s5 1 a) (by omega) (by omega)
        rw [if_pos (by omega), if_neg (by omega), if_pos (by omega), if_pos (by omega), if_pos (by omega), if_pos (by omega), if_pos (by omega)]
        by_cases q : s5 3 best.toNat * s5 1 a ≤ s5 3 a * s5 1 best.toNat
        · rw [if_pos q]
          refine ih (a + 1) _ f (by omega) (by omega) (Or.inr ⟨h1, by omega, h3, fun b hb2 hb3 => ?_⟩)
          by_cases q2 : b = a
          · rw [q2]; exact q
          · exact h4 b (by omega) hb3
        · rw [if_neg q]
          refine ih (a + 1) _ f (by omega) (by omega) (Or.inr ⟨by omega, by omega, by rw [Int.toNat_natCast]; exact hb, fun b hb2 hb3 => ?_⟩)
          rw [Int.toNat_natCast]
          by_cases q2 : b = a
          · rw [q2]; exact Int.le_refl _
          · have C := S4 b (by omega)
            exact ratio_trans (show s5 3 a * s5 1 best.toNat ≤ s5 3 best.toNat * s5 1 a by omega) (h4 b (by omega) hb3) (by omega) (by omega) (by omega)
    · rw [if_pos hb]
      refine ih (a + 1) _ f (by omega) (by omega) ?_
      rcases h with ⟨h1, h2⟩ | ⟨h1, h2, h3, h4⟩
      · refine Or.inl ⟨h1, fun b hb2 => ?_⟩
        by_cases q : b = a
        · rw [q]; exact hb
        · exact h2 b (by omega)
      · refine Or.inr ⟨h1, by omega, h3, fun b hb2 hb3 => ?_⟩
        by_cases q : b = a
        · exact absurd (q ▸ hb3) hb
        · exact h4 b (by omega) hb3

/-! what agrees -/
def Agr (s5 : zZ) (cn : Int) (set : Int) : Prop := ∀ a b : Nat, (a : Int) < cn → (b : Int) < cn → zbt set a → zbt set b → s5 2 a * s5 1 b ≤ s5 3 b * s5 1 a
theorem e_gl {s5 : zZ} {cn : Int} (S : Sok s5 cn) {set : Int} (hs : zr set) : ∃ B, d_X7_greatestLow s5 set = some B ∧ ((B = -1 ∧ ∀ b : Nat, (b : Int) < cn → ¬ zbt set b) ∨ (0 ≤ B ∧ B < cn ∧ zbt set B.toNat ∧ ∀ b : Nat, (b : Int) < cn → zbt set b → s5 2 b * s5 1 B.toNat ≤ s5 2 B.toNat * s5 1 b)) := by
  have S3 := S.2.2.1
  have S2 := S.2.1
  obtain ⟨B, z, h1, h2⟩ := e_gl_loop S set hs cn.toNat 0 (-1) zF (by omega) (by unfold zF; omega) (Or.inl ⟨rfl, fun b hb => absurd hb (by omega)⟩)
  refine ⟨B, ?_, h2⟩
  unfold d_X7_greatestLow
  rw [show ((0 : Nat) : Int) = 0 from rfl] at h1
  rw [h1]
  rfl
theorem e_lh {s5 : zZ} {cn : Int} (S : Sok s5 cn) {set : Int} (hs : zr set) : ∃ B, d_X7_leastHigh s5 set = some B ∧ ((B = -1 ∧ ∀ b : Nat, (b : Int) < cn → ¬ zbt set b) ∨ (0 ≤ B ∧ B < cn ∧ zbt set B.toNat ∧ ∀ b : Nat, (b : Int) < cn → zbt set b → s5 3 B.toNat * s5 1 b ≤ s5 3 b * s5 1 B.toNat)) := by
  have S3 := S.2.2.1
  have S2 := S.2.1
  obtain ⟨B, z, h1, h2⟩ := e_lh_loop S set hs cn.toNat 0 (-1) zF (by omega) (by unfold zF; omega) (Or.inl ⟨rfl, fun b hb => absurd hb (by omega)⟩)
  refine ⟨B, ?_, h2⟩
  unfold d_X7_leastHigh
  rw [show ((0 : Nat) : Int) = 0 from rfl] at h1
  rw [h1]
  rfl
theorem e_agree {s5 : zZ} {cn : Int} (S : Sok s5 cn) {set : Int} (hs : zr set) : ∃ v, d_X7_agree s5 set = some v ∧ (v = 0 ∨ v = 1) ∧ (v = 1 ↔ Agr s5 cn set) := by
  obtain ⟨A, a1, a2⟩ := e_gl S hs
  obtain ⟨B, b1, b2⟩ := e_lh S hs
  obtain ⟨S1, S2, S3, S4⟩ := S
  unfold d_X7_agree
  rw [a1, b1]
  simp only [Option.bind_some]
  rcases a2 with ⟨a3, a4⟩ | ⟨a3, a4, a5, a6⟩
  · rw [if_pos (by omega), if_pos (by omega)]
    exact ⟨1, rfl, Or.inr rfl, fun _ a b ha hb h1 h2 => absurd h1 (a4 a ha), fun _ => rfl⟩
  · rcases b2 with ⟨b3, b4⟩ | ⟨b3, b4, b5, b6⟩
    · exact absurd a5 (b4 A.toNat (by omega))
    · have F := S4 A.toNat (by omega)
      have G := S4 B.toNat (by omega)
      have p1 := prod_rng (x := s5 2 A.toNat) (y := s5 1 B.toNat) (by omega) (by omega)
      have p2 := prod_rng (x := s5 3 B.toNat) (y := s5 1 A.toNat) (by omega) (by omega)
      rw [if_pos (by omega), if_neg (by omega), if_pos (by omega), if_neg (by omega), if_pos (by omega), if_pos (by omega), if_pos (by omega), if_pos (by omega), if_pos (by omega)]
      by_cases q : s5 3 B.toNat * s5 1 A.toNat < s5 2 A.toNat * s5 1 B.toNat
      · rw [if_pos q]
        refine ⟨0, rfl, Or.inl rfl, fun z => absurd z (by decide), fun h => ?_⟩
        have := h A.toNat B.toNat (by omega) (by omega) a5 b5
        omega
      · rw [if_neg q]
        refine ⟨1, rfl, Or.inr rfl, fun _ a b ha hb h1 h2 => ?_, fun _ => rfl⟩
        have e1 := a6 a ha h1
        have e2 := b6 b hb h2
        have U := S4 a ha
        have V := S4 b hb
        have e3 := ratio_trans (lb := s5 2 a) (fb := s5 1 a) (lx := s5 2 A.toNat) (fx := s5 1 A.toNat) (la := s5 3 B.toNat) (fa := s5 1 B.toNat) e1 (by omega) (by omega) (by omega) (by omega)
        exact ratio_trans (lb := s5 2 a) (fb := s5 1 a) (lx := s5 3 B.toNat) (fx := s5 1 B.toNat) (la := s5 3 b) (fa := s5 1 b) e3 e2 (by omega) (by omega) (by omega)
/-! the model's way to tell it -/
theorem and_mod2 (x y : Nat) : (x &&& y) % 2 = 1 ↔ x % 2 = 1 ∧ y % 2 = 1 := by
  have h := Nat.testBit_and x y 0
  simp only [Nat.testBit_zero] at h
  have h2 : ((x &&& y) % 2 = 1) ↔ (decide (x % 2 = 1) && decide (y % 2 = 1)) = true := by
    rw [← h, decide_eq_true_eq]
  rw [h2, Bool.and_eq_true, decide_eq_true_eq, decide_eq_true_eq]
theorem zand2 {x y : Int} (hx : 0 ≤ x) (hy : 0 ≤ y) : ((x.toNat &&& y.toNat : Nat) : Int) % 2 = 1 ↔ x % 2 = 1 ∧ y % 2 = 1 := by
  have h := and_mod2 x.toNat y.toNat
  omega
theorem zdiv_rng {set : Int} (h : 0 ≤ set ∧ zr set) (a : Nat) : 0 ≤ set / 2 ^ a ∧ zr (set / 2 ^ a) := by
  have hp : (0 : Int) < 2 ^ a := Int.pow_pos (by decide)
  have h1 : 0 ≤ set / 2 ^ a := Int.ediv_nonneg h.1 (by omega)
  have h2 : set / 2 ^ a ≤ set := Int.ediv_le_self _ h.1
  omega
theorem e_isAbove {s5 s7 : zZ} (R : RSi s5 (s7 0 39) (s7 29) (s7 30) (s7 31)) {a b : Nat} (ha : (a : Int) < s7 0 39) (hb : (b : Int) < s7 0 39) : d_X12_isAbove s7 a b = some (if s5 2 a * s5 1 b ≤ s5 3 b * s5 1 a then 0 else 1) := by
  obtain ⟨R1, R2, R3, R4⟩ := R
  have A := R4 a ha
  have B := R4 b hb
  unfold d_X12_isAbove
  rw [Int.toNat_natCast, Int.toNat_natCast, A.1, A.2.1, B.1, B.2.2.1]
  have p1 := prod_rng (x := s5 2 a) (y := s5 1 b) (by omega) (by omega)
  have p2 := prod_rng (x := s5 3 b) (y := s5 1 a) (by omega) (by omega)
  rw [if_pos (by omega), if_pos (by omega), if_pos (by omega), if_pos (by omega), if_pos (by omega), if_pos (by omega), if_pos (by omega), if_pos (by omega), if_pos (by omega)]
  split <;> rfl
theorem e_da_in {s5 s7 : zZ} (R : RSi s5 (s7 0 39) (s7 29) (s7 30) (s7 31)) {set : Int} (hs : 0 ≤ set ∧ zr set) {a : Nat} (ha : (a : Int) < s7 0 39) : ∀ (n b f : Nat), (b : Int) + n = s7 0 39 → n + 1 ≤ f → (∃ z, d_X12_doAgree_12 s7 set a f b = some (.inl z) ∧ ∀ c : Nat, b ≤ c → (c : Int) < s7 0 39 → zbt set a → zbt set c → s5 2 a * s5 1 c ≤ s5 3 c * s5 1 a) ∨ (d_X12_doAgree_12 s7 set a f b = some (.inr 0) ∧ ∃ c : Nat, (c : Int) < s7 0 39 ∧ zbt set a ∧ zbt set c ∧ ¬ s5 2 a * s5 1 c ≤ s5 3 c * s5 1 a) := by
  have R3 := R.2.2.1
  intro n
  induction n with
  | zero =>
    intro b f hb hf
    obtain ⟨f, rfl⟩ : ∃ g, f = g + 1 := ⟨f - 1, by omega⟩
    unfold d_X12_doAgree_12
    rw [if_pos (by omega), if_pos (by omega)]
    exact Or.inl ⟨_, rfl, fun c h1 h2 => absurd h1 (by omega)⟩
  | succ n ih =>
    intro b f hb hf
    obtain ⟨f, rfl⟩ : ∃ g, f = g + 1 := ⟨f - 1, by omega⟩
    unfold d_X12_doAgree_12
    rw [show ((b : Int) + 1) = ((b + 1 : Nat) : Int) by omega, Int.toNat_natCast, Int.toNat_natCast]
    have z1 := zdiv_rng hs a
    have z2 := zdiv_rng hs b
    rw [if_pos (by omega), if_neg (by omega), if_pos (by omega), if_pos (by omega), if_pos ⟨z1, z2⟩, if_pos (by omega)]
    have ez := zand2 z1.1 z2.1
    by_cases q : zbt set a ∧ zbt set b
    · rw [if_neg (fun w => w (ez.mpr q)), e_isAbove R ha (by omega)]
      simp only [Option.bind_some]
      by_cases q2 : s5 2 a * s5 1 b ≤ s5 3 b * s5 1 a
      · rw [if_pos q2, if_pos (by decide), if_pos rfl]
        rcases ih (b + 1) f (by omega) (by omega) with ⟨z, h1, h2⟩ | h
        · refine Or.inl ⟨z, h1, fun c hc => ?_⟩
          by_cases e : c = b
          · rw [e]; exact fun _ _ _ => q2
          · exact h2 c (by omega)
        · exact Or.inr h
      · rw [if_neg q2, if_pos (by decide), if_neg (by decide)]
        exact Or.inr ⟨rfl, b, by omega, q.1, q.2, q2⟩
    · rw [if_pos (fun w => q (ez.mp w))]
      rcases ih (b + 1) f (by omega) (by omega) with ⟨z, h1, h2⟩ | h
      · refine Or.inl ⟨z, h1, fun c hc => ?_⟩
        by_cases e : c = b
        · rw [e]; exact fun _ h3 h4 => absurd ⟨h3, h4⟩ q
        · exact h2 c (by omega)
      · exact Or.inr h
theorem e_da_out {s5 s7 : zZ} (R : RSi s5 (s7 0 39) (s7 29) (s7 30) (s7 31)) {set : Int} (hs : 0 ≤ set ∧ zr set) : ∀ (n a f : Nat), (a : Int) + n = s7 0 39 → n + 1 ≤ f → (∃ z, d_X12_doAgree_2 s7 set f a = some (.inl z) ∧ ∀ a' : Nat, a ≤ a' → (a' : Int) < s7 0 39 → ∀ c : Nat, (c : Int) < s7 0 39 → zbt set a' → zbt set c → s5 2 a' * s5 1 c ≤ s5 3 c * s5 1 a') ∨ (d_X12_doAgree_2 s7 set f a = some (.inr 0) ∧ ∃ a' c : Nat, (a' : Int) < s7 0 39 ∧ (c : Int) < s7 0 39 ∧ zbt set a' ∧ zbt set c ∧ ¬ s5 2 a' * s5 1 c ≤ s5 3 c * s5 1 a') := by
  have R3 := R.2.2.1
  have R2 := R.2.1
  intro n
  induction n with
  | zero =>
    intro a f ha hf
    obtain ⟨f, rfl⟩ : ∃ g, f = g + 1 := ⟨f - 1, by omega⟩
    unfold d_X12_doAgree_2
    rw [if_pos (by omega), if_pos (by omega)]
    exact Or.inl ⟨_, rfl, fun c h1 h2 => absurd h1 (by omega)⟩
  | succ n ih =>
    intro a f ha hf
    obtain ⟨f, rfl⟩ : ∃ g, f = g + 1 := ⟨f - 1, by omega⟩
    unfold d_X12_doAgree_2
    rw [show ((a : Int) + 1) = ((a + 1 : Nat) : Int) by omega, if_pos (by omega), if_neg (by omega)]
    rcases e_da_in R hs (a := a) (by omega) (s7 0 39).toNat 0 zF (by omega) (by unfold zF; omega) with ⟨z, h1, h2⟩ | ⟨h1, c, h2⟩
    · rw [show ((0 : Nat) : Int) = 0 from rfl] at h1
      rw [h1]
      simp only [Option.bind_some]
      rcases ih (a + 1) f (by omega) (by omega) with ⟨z', g1, g2⟩ | h
      · refine Or.inl ⟨z', g1, fun a' ha' => ?_⟩
        by_cases e : a' = a
        · rw [e]; exact fun _ c hc => h2 c (by omega) hc
        · exact g2 a' (by omega)
      · exact Or.inr h
    · rw [show ((0 : Nat) : Int) = 0 from rfl] at h1
      rw [h1]
      simp only [Option.bind_some]
      exact Or.inr ⟨by trivial, a, c, by omega, h2⟩
theorem e_doAgree {s5 s7 : zZ} (R : RSi s5 (s7 0 39) (s7 29) (s7 30) (s7 31)) {set : Int} (hs : 0 ≤ set ∧ zr set) : ∃ v, d_X12_doAgree s7 set = some v ∧ (v = 0 ∨ v = 1) ∧ (v = 1 ↔ Agr s5 (s7 0 39) set) := by
  have R2 := R.2.1
  have R3 := R.2.2.1
  unfold d_X12_doAgree
  rcases e_da_out R hs (s7 0 39).toNat 0 zF (by omega) (by unfold zF; omega) with ⟨z, h1, h2⟩ | ⟨h1, a, c, h2, h3, h4, h5, h6⟩
  · rw [show ((0 : Nat) : Int) = 0 from rfl] at h1
    rw [h1]
    exact ⟨1, rfl, Or.inr rfl, fun _ a b ha hb h3 h4 => h2 a (by omega) ha b hb h3 h4, fun _ => rfl⟩
  · rw [show ((0 : Nat) : Int) = 0 from rfl] at h1
    rw [h1]
    exact ⟨0, rfl, Or.inl rfl, fun w => absurd w (by decide), fun w => absurd (w a c h2 h3 h4 h5) h6⟩
theorem Sok_of {s5 : zZ} {cn : Int} {fa lo hi : Nat → Int} (R : RSi s5 cn fa lo hi) : Sok s5 cn := ⟨R.1, R.2.1, R.2.2.1, fun a ha => by have := R.2.2.2 a ha; omega⟩
theorem bit_eq {u v : Int} {P : Prop} (hu : u = 0 ∨ u = 1) (hv : v = 0 ∨ v = 1) (h1 : u = 1 ↔ P) (h2 : v = 1 ↔ P) : u = v := by
  rcases hu with rfl | rfl <;> rcases hv with rfl | rfl
  · rfl
  · exact absurd (h1.mpr (h2.mp rfl)) (by decide)
  · exact absurd (h2.mpr (h1.mp rfl)) (by decide)
  · rfl
