/-! the most that agree -/
theorem zpc_more : ∀ (k m : Nat), m < 2 ^ k → zpc (k + 4) m = zpc k m := by
  intro k
  induction k with
  | zero =>
    intro m hm
    have : m = 0 := by simpa using hm
    subst this
    rfl
  | succ k ih =>
    intro m hm
    have h := ih (m / 2) (by rw [Nat.pow_succ] at hm; omega)
    show m % 2 + zpc (k + 4) (m / 2) = m % 2 + zpc k (m / 2)
    rw [h]
theorem zpc_sub : ∀ (k x y : Nat), (∀ i, i < k → x.testBit i = true → y.testBit i = true) → zpc k x ≤ zpc k y ∧ (zpc k x = zpc k y → ∀ i, i < k → x.testBit i = y.testBit i) := by
  intro k
  induction k with
  | zero => exact fun x y _ => ⟨Nat.le_refl _, fun _ i hi => absurd hi (Nat.not_lt_zero _)⟩
  | succ k ih =>
    intro x y h
    have h0 := h 0 (by omega)
    rw [Nat.testBit_zero, Nat.testBit_zero, decide_eq_true_eq, decide_eq_true_eq] at h0
    obtain ⟨a, b⟩ := ih (x / 2) (y / 2) (by
      intro i hi
      have := h (i + 1) (by omega)
      rwa [Nat.testBit_add_one, Nat.testBit_add_one] at this)
    have ex : zpc (k + 1) x = x % 2 + zpc k (x / 2) := rfl
    have ey : zpc (k + 1) y = y % 2 + zpc k (y / 2) := rfl
    refine ⟨by omega, fun e i hi => ?_⟩
    cases i with
    | zero =>
      rw [Nat.testBit_zero, Nat.testBit_zero]
      have : x % 2 = y % 2 := by omega
      rw [this]
    | succ i =>
      rw [Nat.testBit_add_one, Nat.testBit_add_one]
      exact b (by omega) i (by omega)
theorem zpc_le : ∀ (k x : Nat), zpc k x ≤ k := by
  intro k
  induction k with
  | zero => exact fun _ => Nat.le_refl _
  | succ k ih =>
    intro x
    have := ih (x / 2)
    have ex : zpc (k + 1) x = x % 2 + zpc k (x / 2) := rfl
    omega
theorem e_bits_loop {m : Nat} (hm : m < 4096) : ∀ (n k f : Nat) (cn : Int), k + n = 16 → n + 1 ≤ f → ∃ z, d_X12_bitsOf_4 (m : Int) f cn k = some (cn + (zpc n (m / 2 ^ k) : Nat), z) := by
  intro n
  induction n with
  | zero =>
    intro k f cn hk hf
    obtain ⟨f, rfl⟩ : ∃ g, f = g + 1 := ⟨f - 1, by omega⟩
    unfold d_X12_bitsOf_4
    rw [if_pos (by omega), if_pos (by omega)]
    refine ⟨(k : Int), ?_⟩
    rw [show zpc 0 (m / 2 ^ k) = 0 from rfl, show ((0 : Nat) : Int) = 0 from rfl, Int.add_zero]
  | succ n ih =>
    intro k f cn hk hf
    obtain ⟨f, rfl⟩ : ∃ g, f = g + 1 := ⟨f - 1, by omega⟩
    unfold d_X12_bitsOf_4
    have e1 : ((k : Int) + 1) = ((k + 1 : Nat) : Int) := by omega
    rw [Int.toNat_natCast, e1]
    rw [if_pos (by omega), if_neg (by omega), if_pos (by omega)]
    obtain ⟨z, hz⟩ := ih (k + 1) f (cn + ((m : Int) / 2 ^ k) % 2) (by omega) (by omega)
    refine ⟨z, ?_⟩
    rw [hz]
    have e2 : ((m : Int) / 2 ^ k % 2) = ((m / 2 ^ k % 2 : Nat) : Int) := by simp
    have e3 : m / 2 ^ (k + 1) = m / 2 ^ k / 2 := by rw [Nat.pow_succ, Nat.div_div_eq_div_mul]
    have e4 : zpc (n + 1) (m / 2 ^ k) = m / 2 ^ k % 2 + zpc n (m / 2 ^ k / 2) := rfl
    rw [e2, e3, e4]
    congr 2
    omega
theorem e_bits {m : Nat} (hm : m < 4096) : d_X12_bitsOf (m : Int) = some ((zpc 12 m : Nat) : Int) := by
  unfold d_X12_bitsOf
  obtain ⟨z, hz⟩ := e_bits_loop hm 16 0 zF 0 (by omega) (by unfold zF; omega)
  rw [show ((0 : Nat) : Int) = 0 from rfl] at hz
  rw [hz, Option.bind_some, Nat.pow_zero, Nat.div_one, Int.zero_add, zpc_more 12 m (by omega)]
theorem e_bc {m : Nat} (hm : m < 4096) : d_J6_bitCount (m : Int) = some ((zpc 12 m : Nat) : Int) := by
  unfold d_J6_bitCount
  rw [if_pos (by omega), Int.toNat_natCast]
def Hd (s5 : zZ) (a b : Nat) : Prop := s5 2 b * s5 1 a ≤ s5 2 a * s5 1 b ∧ s5 2 a * s5 1 b ≤ s5 3 b * s5 1 a
theorem e_hold_loop {s5 : zZ} {cn : Int} (S : Sok s5 cn) {a : Nat} (ha : (a : Int) < cn) : ∀ (n b f set : Nat), (b : Int) + n = cn → n + 1 ≤ f → set < 2 ^ b → (∀ i, set.testBit i = true ↔ i < b ∧ Hd s5 a i) → ∃ (H : Nat) (z : Int), d_X7_holdLowOf_4 s5 a f set b = some ((H : Int), z) ∧ H < 2 ^ cn.toNat ∧ ∀ i, H.testBit i = true ↔ (i : Int) < cn ∧ Hd s5 a i := by
  obtain ⟨S1, S2, S3, S4⟩ := S
  intro n
  induction n with
  | zero =>
    intro b f set hb hf h1 h2
    obtain ⟨f, rfl⟩ : ∃ g, f = g + 1 := ⟨f - 1, by omega⟩
    unfold d_X7_holdLowOf_4
    rw [if_pos (by omega), if_pos (by omega)]
    have hc : cn.toNat = b := by omega
    refine ⟨set, _, rfl, by rw [hc]; exact h1, fun i => ?_⟩
    rw [h2 i]
    constructor
    · exact fun q => ⟨by omega, q.2⟩
    · exact fun q => ⟨by omega, q.2⟩
  | succ n ih =>
    intro b f set hb hf h1 h2
    obtain ⟨f, rfl⟩ : ∃ g, f = g + 1 := ⟨f - 1, by omega⟩
    unfold d_X7_holdLowOf_4
    have e1 : ((b : Int) + 1) = ((b + 1 : Nat) : Int) := by omega
    have A := S4 a ha
    have B := S4 b (by omega)
    have p1 := prod_rng (x := s5 2 b) (y := s5 1 a) (by omega) (by omega)
    have p2 := prod_rng (x := s5 2 a) (y := s5 1 b) (by omega) (by omega)
    have p3 := prod_rng (x := s5 3 b) (y := s5 1 a) (by omega) (by omega)
    have hp : (2 : Nat) ^ b ≤ 2 ^ 12 := Nat.pow_le_pow_right (by decide) (by omega)
    have hq : (2 : Nat) ^ b < 2 ^ (b + 1) := by
      have : 1 ≤ (2 : Nat) ^ b := Nat.one_le_two_pow
      rw [Nat.pow_succ]; omega
    have e2 := two_pow_rng (a := b) (by omega)
    simp only [Int.toNat_natCast, e1, two_pow_toNat]
    rw [if_pos (by omega), if_neg (by omega), if_pos (by omega), if_pos (by omega), if_pos (by omega), if_pos (by omega), if_pos (by omega)]
    have off : ¬ Hd s5 a b → ∃ (H : Nat) (z : Int), d_X7_holdLowOf_4 s5 a f set (b + 1 : Nat) = some ((H : Int), z) ∧ H < 2 ^ cn.toNat ∧ ∀ i, H.testBit i = true ↔ (i : Int) < cn ∧ Hd s5 a i := by
      intro hn
      refine ih (b + 1) f set (by omega) (by omega) (by omega) (fun i => ?_)
      rw [h2 i]
      constructor
      · exact fun q => ⟨by omega, q.2⟩
      · intro q
        refine ⟨?_, q.2⟩
        rcases Nat.lt_or_ge i b with r | r
        · exact r
        · have : i = b := by omega
          rw [this] at q
          exact absurd q.2 hn
    by_cases q1 : s5 2 a * s5 1 b < s5 2 b * s5 1 a
    · rw [if_pos q1]
      exact off (fun q => by have := q.1; omega)
    · rw [if_neg q1, if_pos (by omega), if_pos (by omega), if_pos (by omega)]
      by_cases q2 : s5 3 b * s5 1 a < s5 2 a * s5 1 b
      · rw [if_pos q2]
        exact off (fun q => by have := q.2; omega)
      · rw [if_neg q2, if_pos (by omega), if_pos (by omega)]
        refine ih (b + 1) f _ (by omega) (by omega) (or_lt (by omega) hq) (fun i => ?_)
        rw [Nat.testBit_or, Nat.testBit_two_pow, Bool.or_eq_true, decide_eq_true_eq, h2 i]
        constructor
        · intro q
          rcases q with q | q
          · exact ⟨by omega, q.2⟩
          · subst q
            exact ⟨by omega, by omega, by omega⟩
        · intro q
          rcases Nat.lt_or_ge i b with r | r
          · exact Or.inl ⟨r, q.2⟩
          · exact Or.inr (by omega)
theorem e_hold {s5 : zZ} {cn : Int} (S : Sok s5 cn) {a : Nat} (ha : (a : Int) < cn) : ∃ H : Nat, d_X7_holdLowOf s5 a = some (H : Int) ∧ H < 2 ^ cn.toNat ∧ ∀ i, H.testBit i = true ↔ (i : Int) < cn ∧ Hd s5 a i := by
  have S3 := S.2.2.1
  have S2 := S.2.1
  obtain ⟨H, z, h1, h2⟩ := e_hold_loop S ha cn.toNat 0 zF 0 (by omega) (by unfold zF; omega) (by decide) (fun i => by simp)
  refine ⟨H, ?_, h2⟩
  unfold d_X7_holdLowOf
  rw [show ((0 : Nat) : Int) = 0 from rfl] at h1
  rw [h1]
  rfl
/-- the greater: more bits, or as many and smaller -/
def Bst (c best : Nat) : Prop := zpc 12 c ≤ zpc 12 best ∧ (zpc 12 c = zpc 12 best → best ≤ c)
theorem Bst_refl (c : Nat) : Bst c c := ⟨Nat.le_refl _, fun _ => Nat.le_refl _⟩
theorem Bst_trans {a b c : Nat} (h1 : Bst a b) (h2 : Bst b c) : Bst a c := by
  refine ⟨Nat.le_trans h1.1 h2.1, fun e => ?_⟩
  have a1 := h1.1
  have a2 := h2.1
  have := h1.2 (by omega)
  have := h2.2 (by omega)
  omega
theorem Bst_anti {a b : Nat} (h1 : Bst a b) (h2 : Bst b a) : a = b := by
  have a1 := h1.1
  have a2 := h2.1
  have := h1.2 (by omega)
  have := h2.2 (by omega)
  omega
theorem pow_cn {cn : Int} (h : 0 ≤ cn ∧ cn ≤ 12) : 2 ^ cn.toNat ≤ 4096 := by
  have : (2 : Nat) ^ cn.toNat ≤ 2 ^ 12 := Nat.pow_le_pow_right (by decide) (by omega)
  omega
theorem e_class_most {s5 : zZ} {cn : Int} (S : Sok s5 cn) : ∀ (n a f best : Nat), (a : Int) + n = cn → n + 1 ≤ f → best < 2 ^ cn.toNat → (best = 0 ∨ ∃ c : Nat, (c : Int) < cn ∧ ∀ i, best.testBit i = true ↔ (i : Int) < cn ∧ Hd s5 c i) → (∀ c : Nat, c < a → ∀ H : Nat, d_X7_holdLowOf s5 c = some (H : Int) → Bst H best) → ∃ (B : Nat) (z : Int), d_X7_greatestAgreeing_4 s5 f best a = some ((B : Int), z) ∧ B < 2 ^ cn.toNat ∧ (B = 0 ∨ ∃ c : Nat, (c : Int) < cn ∧ ∀ i, B.testBit i = true ↔ (i : Int) < cn ∧ Hd s5 c i) ∧ (∀ c : Nat, (c : Int) < cn → ∀ H : Nat, d_X7_holdLowOf s5 c = some (H : Int) → Bst H B) := by
  have S1 := S.1
  have S3 := S.2.2.1
  have S2 := S.2.1
  have hp := pow_cn (cn := cn) (by omega)
  intro n
  induction n with
  | zero =>
    intro a f best ha hf h1 h2 h3
    obtain ⟨f, rfl⟩ : ∃ g, f = g + 1 := ⟨f - 1, by omega⟩
    unfold d_X7_greatestAgreeing_4
    rw [if_pos (by omega), if_pos (by omega)]
    exact ⟨best, _, rfl, h1, h2, fun c hc => h3 c (by omega)⟩
  | succ n ih =>
    intro a f best ha hf h1 h2 h3
    obtain ⟨f, rfl⟩ : ∃ g, f = g + 1 := ⟨f - 1, by omega⟩
    unfold d_X7_greatestAgreeing_4
    have e1 : ((a : Int) + 1) = ((a + 1 : Nat) : Int) := by omega
    obtain ⟨H, g1, g2, g3⟩ := e_hold S (a := a) (by omega)
    have l1 := zpc_le 12 H
    have l2 := zpc_le 12 best
    rw [if_pos (by omega), if_neg (by omega), g1, Option.bind_some, e_bc (by omega), Option.bind_some, e_bc (by omega), Option.bind_some, e1]
    rw [if_pos (by omega)]
    have keep : Bst H best → ∃ (B : Nat) (z : Int), d_X7_greatestAgreeing_4 s5 f best (a + 1 : Nat) = some ((B : Int), z) ∧ B < 2 ^ cn.toNat ∧ (B = 0 ∨ ∃ c : Nat, (c : Int) < cn ∧ ∀ i, B.testBit i = true ↔ (i : Int) < cn ∧ Hd s5 c i) ∧ (∀ c : Nat, (c : Int) < cn → ∀ H : Nat, d_X7_holdLowOf s5 c = some (H : Int) → Bst H B) := by
      intro hb
      refine ih (a + 1) f best (by omega) (by omega) h1 h2 (fun c hc K hK => ?_)
      rcases Nat.lt_or_ge c a with r | r
      · exact h3 c r K hK
      · have : c = a := by omega
        subst this
        rw [g1] at hK
        have := Option.some.inj hK
        have : H = K := by omega
        subst this
        exact hb
    have take : Bst best H → ∃ (B : Nat) (z : Int), d_X7_greatestAgreeing_4 s5 f H (a + 1 : Nat) = some ((B : Int), z) ∧ B < 2 ^ cn.toNat ∧ (B = 0 ∨ ∃ c : Nat, (c : Int) < cn ∧ ∀ i, B.testBit i = true ↔ (i : Int) < cn ∧ Hd s5 c i) ∧ (∀ c : Nat, (c : Int) < cn → ∀ H : Nat, d_X7_holdLowOf s5 c = some (H : Int) → Bst H B) := by
      intro hb
      refine ih (a + 1) f H (by omega) (by omega) g2 (Or.inr ⟨a, by omega, g3⟩) (fun c hc K hK => ?_)
      rcases Nat.lt_or_ge c a with r | r
      · exact Bst_trans (h3 c r K hK) hb
      · have : c = a := by omega
        subst this
        rw [g1] at hK
        have := Option.some.inj hK
        have : H = K := by omega
        subst this
        exact Bst_refl _
    by_cases q1 : (0 : Int) < (zpc 12 H : Nat) - (zpc 12 best : Nat)
    · rw [if_pos q1]
      exact take ⟨by omega, by omega⟩
    · rw [if_neg q1, if_pos (by omega)]
      by_cases q2 : ((zpc 12 H : Nat) : Int) - (zpc 12 best : Nat) ≠ 0
      · rw [if_pos q2]
        exact keep ⟨by omega, by omega⟩
      · rw [if_neg q2, if_pos (by omega)]
        by_cases q3 : (best : Int) ≤ H
        · rw [if_pos q3]
          exact keep ⟨by omega, by omega⟩
        · rw [if_neg q3]
          exact take ⟨by omega, by omega⟩
theorem e_model_most {s5 s7 : zZ} (R : RSi s5 (s7 0 39) (s7 29) (s7 30) (s7 31)) : ∀ (n set f best : Nat), set + n = 2 ^ (s7 0 39).toNat → n + 1 ≤ f → 1 ≤ set → best < set → (best = 0 ∨ Agr s5 (s7 0 39) best) → (∀ c : Nat, 1 ≤ c → c < set → Agr s5 (s7 0 39) c → Bst c best) → ∃ (B : Nat) (z : Int), d_X12_most_4 s7 f best set = some ((B : Int), z) ∧ B < 2 ^ (s7 0 39).toNat ∧ (B = 0 ∨ Agr s5 (s7 0 39) B) ∧ (∀ c : Nat, 1 ≤ c → c < 2 ^ (s7 0 39).toNat → Agr s5 (s7 0 39) c → Bst c B) := by
  have R3 := R.2.2.1
  have R2 := R.2.1
  have hp := pow_cn (cn := s7 0 39) (by omega)
  have e2 : ((2 : Int) ^ (s7 0 39).toNat) = ((2 ^ (s7 0 39).toNat : Nat) : Int) := by simp
  intro n
  induction n with
  | zero =>
    intro set f best hs hf h0 h1 h2 h3
    obtain ⟨f, rfl⟩ : ∃ g, f = g + 1 := ⟨f - 1, by omega⟩
    unfold d_X12_most_4
    rw [e2, if_pos (by omega), if_pos (by omega), if_pos (by omega)]
    exact ⟨best, _, rfl, by omega, h2, fun c hc hd => h3 c hc (by omega)⟩
  | succ n ih =>
    intro set f best hs hf h0 h1 h2 h3
    obtain ⟨f, rfl⟩ : ∃ g, f = g + 1 := ⟨f - 1, by omega⟩
    unfold d_X12_most_4
    have e1 : ((set : Int) + 1) = ((set + 1 : Nat) : Int) := by omega
    have l1 := zpc_le 12 set
    have l2 := zpc_le 12 best
    obtain ⟨v, v1, v2, v3⟩ := e_doAgree R (set := (set : Int)) (by omega)
    rw [e2, if_pos (by omega), if_pos (by omega), if_neg (by omega), e_bits (by omega), Option.bind_some, e_bits (by omega), Option.bind_some, v1, Option.bind_some, e1]
    rw [if_pos (by omega)]
    have keep : (Agr s5 (s7 0 39) set → Bst set best) → ∃ (B : Nat) (z : Int), d_X12_most_4 s7 f best (set + 1 : Nat) = some ((B : Int), z) ∧ B < 2 ^ (s7 0 39).toNat ∧ (B = 0 ∨ Agr s5 (s7 0 39) B) ∧ (∀ c : Nat, 1 ≤ c → c < 2 ^ (s7 0 39).toNat → Agr s5 (s7 0 39) c → Bst c B) := by
      intro hb
      refine ih (set + 1) f best (by omega) (by omega) (by omega) (by omega) h2 (fun c hc hd hA => ?_)
      rcases Nat.lt_or_ge c set with r | r
      · exact h3 c hc r hA
      · have : c = set := by omega
        subst this
        exact hb hA
    by_cases q1 : ((zpc 12 set : Nat) : Int) ≤ (zpc 12 best : Nat)
    · rw [if_pos q1]
      exact keep (fun _ => ⟨by omega, by omega⟩)
    · rw [if_neg q1, if_pos (by omega)]
      by_cases q2 : v = 0
      · rw [if_pos q2]
        refine keep (fun hA => ?_)
        have := v3.mpr hA
        omega
      · rw [if_neg q2]
        have hA := v3.mp (by omega)
        refine ih (set + 1) f set (by omega) (by omega) (by omega) (by omega) (Or.inr hA) (fun c hc hd hA => ?_)
        rcases Nat.lt_or_ge c set with r | r
        · exact Bst_trans (h3 c hc r hA) ⟨by omega, by omega⟩
        · have : c = set := by omega
          subst this
          exact Bst_refl _
theorem bits_lt {x n i : Nat} (hx : x < 2 ^ n) (hi : x.testBit i = true) : i < n := by
  rcases Nat.lt_or_ge i n with q | q
  · exact q
  · rw [Nat.testBit_lt_two_pow (Nat.lt_of_lt_of_le hx (Nat.pow_le_pow_right (by decide) q))] at hi
    cases hi
theorem m_most {s0 s5 s7 : zZ} (R : RSi s5 (s7 0 39) (s7 29) (s7 30) (s7 31)) : ∃ r, d_X11_most s0 s5 = some r ∧ d_X12_most s7 = some r := by
  have S := Sok_of R
  have R3 := R.2.2.1
  have R2 := R.2.1
  have R1 := R.1
  have R4 := R.2.2.2
  have hp := pow_cn (cn := s7 0 39) (by omega)
  have hp1 : 1 ≤ 2 ^ (s7 0 39).toNat := Nat.one_le_two_pow
  obtain ⟨C, z, c1, c2, c3, c4⟩ := e_class_most S (s7 0 39).toNat 0 zF 0 (by omega) (by unfold zF; omega) (by omega) (Or.inl rfl) (fun c hc => absurd hc (Nat.not_lt_zero _))
  obtain ⟨M, w, m1, m2, m3, m4⟩ := e_model_most R (2 ^ (s7 0 39).toNat - 1) 1 zF 0 (by omega) (by unfold zF; omega) (by omega) (by omega) (Or.inl rfl) (fun c hc hd => by omega)
  have agr : ∀ (a H : Nat), (a : Int) < s7 0 39 → (∀ i, H.testBit i = true ↔ (i : Int) < s7 0 39 ∧ Hd s5 a i) → Agr s5 (s7 0 39) H := by
    intro a H ha hH x y hx hy zx zy
    rw [zbt_nat] at zx zy
    have A := (hH x).mp zx
    have B := (hH y).mp zy
    have F1 := R4 a ha
    have F2 := R4 x hx
    have F3 := R4 y hy
    exact ratio_trans A.2.1 B.2.2 (by omega) (by omega) (by omega)
  have self : ∀ a : Nat, (a : Int) < s7 0 39 → Hd s5 a a := by
    intro a ha
    have F1 := R4 a ha
    refine ⟨Int.le_refl _, Int.mul_le_mul_of_nonneg_right (by omega) (by omega)⟩
  have CM : C = M := by
    rcases Nat.eq_zero_or_pos (s7 0 39).toNat with h0 | h0
    · rw [h0] at c2 m2
      omega
    · obtain ⟨H0, g1, g2, g3⟩ := e_hold S (a := 0) (by omega)
      have H0p : 1 ≤ H0 := by
        rcases Nat.eq_zero_or_pos H0 with q | q
        · have := (g3 0).mpr ⟨by omega, self 0 (by omega)⟩
          rw [q] at this
          simp at this
        · exact q
      have hM : M ≠ 0 := by
        intro hM
        have := m4 H0 H0p g2 (agr 0 H0 (by omega) g3)
        have t1 := this.1
        have t2 := this.2
        rw [hM] at t1 t2
        obtain ⟨t3, t4⟩ := zpc_sub 12 0 H0 (fun i _ hi => by simp at hi)
        have := t4 (by omega) 0 (by omega)
        rw [(g3 0).mpr ⟨by omega, self 0 (by omega)⟩] at this
        simp at this
      have hC : C ≠ 0 := by
        intro hC
        have := c4 0 (by omega) H0 g1
        have t1 := this.1
        rw [hC] at t1
        obtain ⟨t3, t4⟩ := zpc_sub 12 0 H0 (fun i _ hi => by simp at hi)
        have := t4 (by omega) 0 (by omega)
        rw [(g3 0).mpr ⟨by omega, self 0 (by omega)⟩] at this
        simp at this
      rcases c3 with c3 | ⟨c, hc, c3⟩
      · exact absurd c3 hC
      · have k1 : Bst C M := m4 C (by omega) c2 (agr c C hc c3)
        rcases m3 with m3 | m3
        · exact absurd m3 hM
        · obtain ⟨B, b1, b2⟩ := e_gl S (set := (M : Int)) (by omega)
          rcases b2 with ⟨b3, b4⟩ | ⟨b3, b4, b5, b6⟩
          · exfalso
            obtain ⟨i, hi⟩ := Nat.exists_testBit_of_ne_zero hM
            exact b4 i (by have := bits_lt m2 hi; omega) ((zbt_nat M i).mpr hi)
          · obtain ⟨H, g4, g5, g6⟩ := e_hold S (a := B.toNat) (by omega)
            have sub : ∀ i, i < 12 → M.testBit i = true → H.testBit i = true := by
              intro i _ hi
              have hin := bits_lt m2 hi
              have hz := (zbt_nat M i).mpr hi
              exact (g6 i).mpr ⟨by omega, b6 i (by omega) hz, m3 B.toNat i (by omega) (by omega) b5 hz⟩
            obtain ⟨t1, t2⟩ := zpc_sub 12 M H sub
            have k2 : Bst H C := c4 B.toNat (by omega) H g4
            have k3 := k1.1
            have k4 := k2.1
            have eq : M = H := by
              refine Nat.eq_of_testBit_eq (fun i => ?_)
              rcases Nat.lt_or_ge i 12 with q | q
              · exact t2 (by omega) i q
              · rw [Nat.testBit_lt_two_pow (Nat.lt_of_lt_of_le m2 (Nat.pow_le_pow_right (by decide) (by omega))), Nat.testBit_lt_two_pow (Nat.lt_of_lt_of_le g5 (Nat.pow_le_pow_right (by decide) (by omega)))]
            rw [← eq] at k2
            exact Bst_anti k1 k2
  subst CM
  refine ⟨C, ?_, ?_⟩
  · unfold d_X11_most d_X7_greatestAgreeing
    rw [show ((0 : Nat) : Int) = 0 from rfl] at c1
    rw [c1]
    rfl
  · unfold d_X12_most
    rw [show ((0 : Nat) : Int) = 0 from rfl, show ((1 : Nat) : Int) = 1 from rfl] at m1
    rw [m1]
    rfl
