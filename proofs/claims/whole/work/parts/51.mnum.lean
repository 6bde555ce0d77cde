/-! numbers: what the programs of both sides give -/
theorem e_abs {x : Int} (h : zrl x) : d_J9_abs_067f4 x = some (x.natAbs : Int) := by
  unfold d_J9_abs_067f4
  rw [if_pos h]
  split
  · congr 1; omega
  · congr 1; omega
theorem e_size {x : Int} (h : zrl x) : d_X12_size x = some (x.natAbs : Int) := by
  unfold d_X12_size
  rw [if_pos h]
  split
  · congr 1; omega
  · congr 1; omega
theorem gcd_step {x y : Int} (hx : 0 ≤ x) : Int.gcd y (x.tmod y) = Int.gcd x y := by
  rw [Int.tmod_eq_emod_of_nonneg hx, Int.gcd_comm y, Int.gcd_comm x]
  simp only [Int.gcd, Int.natAbs_emod_of_nonneg hx]
  rw [← Nat.gcd_rec]
theorem zhalf {a b : Int} (h0 : 0 < b) (h1 : b < a) : 2 * (a % b) < a := by
  have h2 := Int.emod_lt_of_pos a h0
  have h3 := Int.emod_nonneg a (show b ≠ 0 by omega)
  have h4 := Int.emod_add_mul_ediv a b
  have h5 : 1 ≤ a / b := (Int.le_ediv_iff_mul_le h0).mpr (by omega)
  have h6 : b ≤ b * (a / b) := by
    have := Int.mul_le_mul_of_nonneg_left h5 (Int.le_of_lt h0)
    omega
  omega
theorem e_common_loop (a b : Int) : ∀ (n : Nat) (x y : Int) (f : Nat), 0 ≤ x → zrl x → 0 ≤ y → zrl y → y < 2 ^ n → 2 * n + 1 ≤ f → d_X12_common_12 a b f x y = some ((Int.gcd x y : Int), 0) := by
  intro n
  induction n with
  | zero =>
    intro x y f hx hx2 hy hy2 h hf
    obtain ⟨f, rfl⟩ : ∃ g, f = g + 1 := ⟨f - 1, by omega⟩
    have : y = 0 := by simp at h; omega
    subst this
    unfold d_X12_common_12
    rw [if_pos (by omega), if_pos rfl, Int.gcd_zero_right, Int.natAbs_of_nonneg hx]
  | succ n ih =>
    intro x y f hx hx2 hy hy2 h hf
    obtain ⟨f, rfl⟩ : ∃ g, f = g + 1 + 1 := ⟨f - 2, by omega⟩
    by_cases q : y = 0
    · subst q
      unfold d_X12_common_12
      rw [if_pos (by omega), if_pos rfl, Int.gcd_zero_right, Int.natAbs_of_nonneg hx]
    · unfold d_X12_common_12
      rw [if_pos hy2, if_neg q, if_pos ⟨hx2, q, hy2⟩, ← gcd_step hx]
      have e := Int.tmod_eq_emod_of_nonneg (b := y) hx
      rw [e]
      have h2 := Int.emod_nonneg x q
      have h3 := Int.emod_lt_of_pos x (show 0 < y by omega)
      generalize x % y = z at h2 h3
      by_cases q2 : z = 0
      · subst q2
        unfold d_X12_common_12
        rw [if_pos (by omega), if_pos rfl, Int.gcd_zero_right, Int.natAbs_of_nonneg hy]
      · unfold d_X12_common_12
        rw [if_pos (by omega), if_neg q2, if_pos ⟨hy2, q2, by omega⟩, ← gcd_step hy]
        have e := Int.tmod_eq_emod_of_nonneg (b := z) hy
        rw [e]
        have h4 := zhalf (show 0 < z by omega) h3
        have h5 := Int.emod_nonneg y q2
        refine ih z (y % z) f h2 (by omega) h5 (by omega) ?_ (by omega)
        rw [Int.pow_succ] at h
        omega
theorem e_common {a b : Int} (ha : -9223372036854775807 ≤ a ∧ a ≤ 9223372036854775807) (hb : -9223372036854775807 ≤ b ∧ b ≤ 9223372036854775807) : d_X12_common a b = some (Int.gcd a b : Int) := by
  unfold d_X12_common
  rw [e_size (by omega), e_size (by omega)]
  simp only [Option.bind_some]
  rw [e_common_loop a b 63 _ _ zF (by omega) (by omega) (by omega) (by omega) (by omega) (by decide)]
  simp only [Option.bind_some]
  congr 2
theorem e_cd_loop (a b : Int) : ∀ (n : Nat) (x y k : Int) (f : Nat), 0 ≤ x → zrl x → 0 ≤ y → zrl y → y < 2 ^ n → 2 * n + 1 ≤ f → 0 ≤ k → k + 2 * n < 1000 → ∃ z, d_X11_commonDivisor_15 a b f x y k = some ((Int.gcd x y : Int), z) := by
  intro n
  induction n with
  | zero =>
    intro x y k f hx hx2 hy hy2 h hf hk hk2
    obtain ⟨f, rfl⟩ : ∃ g, f = g + 1 := ⟨f - 1, by omega⟩
    have : y = 0 := by simp at h; omega
    subst this
    unfold d_X11_commonDivisor_15
    rw [if_pos (by omega), if_neg (by omega), if_pos (by omega), if_pos rfl, Int.gcd_zero_right, Int.natAbs_of_nonneg hx]
    exact ⟨_, rfl⟩
  | succ n ih =>
    intro x y k f hx hx2 hy hy2 h hf hk hk2
    obtain ⟨f, rfl⟩ : ∃ g, f = g + 1 + 1 := ⟨f - 2, by omega⟩
    by_cases q : y = 0
    · subst q
      unfold d_X11_commonDivisor_15
      rw [if_pos (by omega), if_neg (by omega), if_pos (by omega), if_pos rfl, Int.gcd_zero_right, Int.natAbs_of_nonneg hx]
      exact ⟨_, rfl⟩
    · unfold d_X11_commonDivisor_15
      rw [if_pos (by omega), if_neg (by omega), if_pos hy2, if_neg q, if_pos ⟨hx2, q, hy2⟩, ← gcd_step hx]
      have e := Int.tmod_eq_emod_of_nonneg (b := y) hx
      rw [e]
      have h2 := Int.emod_nonneg x q
      have h3 := Int.emod_lt_of_pos x (show 0 < y by omega)
      generalize x % y = z at h2 h3
      by_cases q2 : z = 0
      · subst q2
        unfold d_X11_commonDivisor_15
        rw [if_pos (by omega), if_neg (by omega), if_pos (by omega), if_pos rfl, Int.gcd_zero_right, Int.natAbs_of_nonneg hy]
        exact ⟨_, rfl⟩
      · unfold d_X11_commonDivisor_15
        rw [if_pos (by omega), if_neg (by omega), if_pos (by omega), if_neg q2, if_pos ⟨hy2, q2, by omega⟩, ← gcd_step hy]
        have e := Int.tmod_eq_emod_of_nonneg (b := z) hy
        rw [e]
        have h4 := zhalf (show 0 < z by omega) h3
        have h5 := Int.emod_nonneg y q2
        refine ih z (y % z) (k + 1 + 1) f h2 (by omega) h5 (by omega) ?_ (by omega) (by omega) (by omega)
        rw [Int.pow_succ] at h
        omega
theorem e_cd {a b : Int} (ha : -9223372036854775807 ≤ a ∧ a ≤ 9223372036854775807) (hb : -9223372036854775807 ≤ b ∧ b ≤ 9223372036854775807) : d_X11_commonDivisor a b = some (Int.gcd a b : Int) := by
  unfold d_X11_commonDivisor
  rw [e_abs (by omega), e_abs (by omega)]
  simp only [Option.bind_some]
  obtain ⟨z, hz⟩ := e_cd_loop a b 63 (a.natAbs : Int) (b.natAbs : Int) 0 zF (by omega) (by omega) (by omega) (by omega) (by omega) (by decide) (by omega) (by omega)
  rw [hz]
  simp only [Option.bind_some]
  congr 2
/-- the upper or the lower number of a share in its least terms -/
def zlt (up dn wh : Int) : Int := if wh ≠ 0 then dn.tdiv (if 0 ≤ dn then (Int.gcd up dn : Int) else - (Int.gcd up dn : Int)) else up.tdiv (if 0 ≤ dn then (Int.gcd up dn : Int) else - (Int.gcd up dn : Int))
theorem gcd_rng {a b : Int} (hb : b ≠ 0) (h : -9223372036854775807 ≤ b ∧ b ≤ 9223372036854775807) : (Int.gcd a b : Int) ≠ 0 ∧ 0 ≤ (Int.gcd a b : Int) ∧ (Int.gcd a b : Int) ≤ 9223372036854775807 := by
  have h1 : Int.gcd a b ≠ 0 := fun q => hb (Int.gcd_eq_zero_iff.mp q).2
  have h2 : Int.gcd a b ≤ b.natAbs := Nat.le_of_dvd (by omega) (Int.gcd_dvd_natAbs_right a b)
  omega
theorem e_part {up dn wh : Int} (ha : -9223372036854775807 ≤ up ∧ up ≤ 9223372036854775807) (hb : -9223372036854775807 ≤ dn ∧ dn ≤ 9223372036854775807) (h0 : dn ≠ 0) (hw : zr wh) : d_X12_part up dn wh = some (zlt up dn wh) := by
  unfold d_X12_part zlt
  rw [e_common ha hb]
  simp only [Option.bind_some]
  obtain ⟨g1, g2, g3⟩ := gcd_rng (a := up) h0 hb
  rw [if_pos (show zrl dn by omega)]
  by_cases q : 0 ≤ dn
  · rw [if_pos q, if_pos hw]
    by_cases q2 : wh ≠ 0
    · rw [if_pos q2, if_pos (by omega), if_pos q2, if_pos q]
    · rw [if_neg q2, if_pos (by omega), if_neg q2, if_pos q]
  · rw [if_neg q, if_pos hw]
    by_cases q2 : wh ≠ 0
    · rw [if_pos q2, if_pos (by omega), if_pos q2, if_neg q]
    · rw [if_neg q2, if_pos (by omega), if_neg q2, if_neg q]
theorem e_least {up dn wh : Int} (ha : -9223372036854775807 ≤ up ∧ up ≤ 9223372036854775807) (hb : -9223372036854775807 ≤ dn ∧ dn ≤ 9223372036854775807) (h0 : dn ≠ 0) (hw : zr wh) : d_X11_inLeastTerms up dn wh = some (zlt up dn wh) := by
  unfold d_X11_inLeastTerms zlt
  rw [e_cd ha hb]
  simp only [Option.bind_some]
  obtain ⟨g1, g2, g3⟩ := gcd_rng (a := up) h0 hb
  rw [if_pos (show zrl dn by omega), if_neg h0, if_pos (by omega), if_pos g1, if_pos (by omega)]
  by_cases q : 0 ≤ dn
  · rw [if_pos q, if_pos hw]
    by_cases q2 : wh ≠ 0
    · rw [if_pos q2, if_pos (by omega), if_pos q2, if_pos q]
    · rw [if_neg q2, if_pos (by omega), if_neg q2, if_pos q]
  · rw [if_neg q, if_pos hw]
    by_cases q2 : wh ≠ 0
    · rw [if_pos q2, if_pos (by omega), if_pos q2, if_neg q]
    · rw [if_neg q2, if_pos (by omega), if_neg q2, if_neg q]
/-! roots -/
theorem zsqn (a : Int) : 0 ≤ a * a := by
  rw [← Int.natAbs_mul_self]
  exact Int.natCast_nonneg _
theorem sq_le {a b : Int} (h0 : 0 ≤ a) (h : a ≤ b) : a * a ≤ b * b := Int.mul_le_mul h h h0 (by omega)
theorem sq_lt {a b : Int} (h0 : 0 ≤ a) (h : a < b) : a * a < b * b := by
  have h1 : a * a ≤ a * b := Int.mul_le_mul_of_nonneg_left (by omega) h0
  have h2 : a * b < b * b := Int.mul_lt_mul_of_pos_right h (by omega)
  omega
theorem e_wr_loop (sq : Int) (hs : 0 ≤ sq ∧ sq < 4611686018427387904) : ∀ (n : Nat) (rt : Int) (f : Nat), n ≤ 31 → 0 ≤ rt → rt + 2 ^ n ≤ 2147483648 → rt * rt ≤ sq → sq < (rt + 2 ^ n) * (rt + 2 ^ n) → n + 1 ≤ f → ∃ r z, d_X11_wholeRoot_6 sq f rt ((n : Int) - 1) = some (r, z) ∧ 0 ≤ r ∧ r ≤ 2147483647 ∧ r * r ≤ sq ∧ sq < (r + 1) * (r + 1) := by
  intro n
  induction n with
  | zero =>
    intro rt f _ h0 h1 h2 h3 hf
    obtain ⟨f, rfl⟩ : ∃ g, f = g + 1 := ⟨f - 1, by omega⟩
    unfold d_X11_wholeRoot_6
    rw [if_pos (by omega), if_pos (by omega)]
    simp at h1 h3
    exact ⟨_, _, rfl, h0, by omega, h2, h3⟩
  | succ n ih =>
    intro rt f hn h0 h1 h2 h3 hf
    obtain ⟨f, rfl⟩ : ∃ g, f = g + 1 := ⟨f - 1, by omega⟩
    unfold d_X11_wholeRoot_6
    have hp : (0 : Int) < 2 ^ n := Int.pow_pos (by decide)
    have hp2 : (2 : Int) ^ (n + 1) = 2 * 2 ^ n := by rw [Int.pow_succ]; omega
    rw [hp2] at h1 h3
    rw [show (((n + 1 : Nat) : Int) - 1) = (n : Int) by omega, Int.toNat_natCast]
    have hz : (rt + 2 ^ n) * (rt + 2 ^ n) ≤ 2147483648 * 2147483648 := sq_le (by omega) (by omega)
    have hz0 : 0 ≤ (rt + 2 ^ n) * (rt + 2 ^ n) := zsqn _
    rw [if_pos (by omega), if_neg (by omega), if_pos (by omega), if_pos (by omega), show (n : Int) + -1 = (n : Int) - 1 by omega]
    by_cases q : sq < (rt + 2 ^ n) * (rt + 2 ^ n)
    · rw [if_pos q]
      exact ih rt f (by omega) h0 (by omega) h2 q (by omega)
    · rw [if_neg q]
      refine ih (rt + 2 ^ n) f (by omega) (by omega) (by omega) (by omega) ?_ (by omega)
      rw [show rt + 2 ^ n + 2 ^ n = rt + 2 * 2 ^ n by omega]
      exact h3
theorem e_wholeRoot {sq : Int} (hs : 0 ≤ sq ∧ sq < 4611686018427387904) : ∃ r, d_X11_wholeRoot sq = some r ∧ 0 ≤ r ∧ r ≤ 2147483647 ∧ r * r ≤ sq ∧ sq < (r + 1) * (r + 1) := by
  obtain ⟨r, z, h1, h2, h3⟩ := e_wr_loop sq hs 31 0 zF (by omega) (by omega) (by decide) (by omega) (by rw [show ((0 : Int) + 2 ^ 31) * (0 + 2 ^ 31) = 4611686018427387904 by decide]; omega) (by decide)
  refine ⟨r, ?_, h2, h3⟩
  unfold d_X11_wholeRoot
  rw [show ((31 : Nat) : Int) - 1 = 30 by decide] at h1
  rw [h1]
  rfl
theorem e_rt_loop (a b : Int) (hb : 0 < b ∧ b ≤ 9801) (ha : 0 ≤ a ∧ zrl a) : ∀ (n : Nat) (rt : Int) (f : Nat), n ≤ 23 → 0 ≤ rt → rt + 2 ^ n ≤ 8388608 → rt * rt * b ≤ a → a < (rt + 2 ^ n) * (rt + 2 ^ n) * b → n + 1 ≤ f → ∃ r z, d_X12_root_8 a b f rt (if n = 0 then 0 else 2 ^ (n - 1)) = some (r, z) ∧ 0 ≤ r ∧ r ≤ 8388607 ∧ r * r * b ≤ a ∧ a < (r + 1) * (r + 1) * b := by
  intro n
  induction n with
  | zero =>
    intro rt f _ h0 h1 h2 h3 hf
    obtain ⟨f, rfl⟩ : ∃ g, f = g + 1 := ⟨f - 1, by omega⟩
    unfold d_X12_root_8
    simp at h1 h3
    simp only [if_true]
    rw [if_pos (by omega), if_pos (by omega)]
    exact ⟨_, _, rfl, h0, by omega, h2, h3⟩
  | succ n ih =>
    intro rt f hn h0 h1 h2 h3 hf
    obtain ⟨f, rfl⟩ : ∃ g, f = g + 1 := ⟨f - 1, by omega⟩
    unfold d_X12_root_8
    have hp : (0 : Int) < 2 ^ n := Int.pow_pos (by decide)
    have hp3 : (2 : Int) ^ n ≤ 2 ^ 22 := by
      have : (2 : Nat) ^ n ≤ 2 ^ 22 := Nat.pow_le_pow_right (by decide) (by omega)
      have h9 : (((2 : Nat) ^ n : Nat) : Int) ≤ ((2 ^ 22 : Nat) : Int) := by omega
      simpa using h9
    have hp2 : (2 : Int) ^ (n + 1) = 2 * 2 ^ n := by rw [Int.pow_succ]; omega
    rw [hp2] at h1 h3
    rw [if_neg (show ¬ n + 1 = 0 by omega), show n + 1 - 1 = n by omega]
    have hz : (rt + 2 ^ n) * (rt + 2 ^ n) ≤ 8388608 * 8388608 := sq_le (by omega) (by omega)
    have hz0 : 0 ≤ (rt + 2 ^ n) * (rt + 2 ^ n) := zsqn _
    have hz1 : (rt + 2 ^ n) * (rt + 2 ^ n) * b ≤ 8388608 * 8388608 * 9801 := Int.mul_le_mul hz hb.2 (by omega) (by omega)
    have hz2 : 0 ≤ (rt + 2 ^ n) * (rt + 2 ^ n) * b := Int.mul_nonneg hz0 (by omega)
    have hh : (2 : Int) ^ n / 2 = if n = 0 then 0 else 2 ^ (n - 1) := by
      cases n with
      | zero => decide
      | succ m =>
        rw [if_neg (by omega), show m + 1 - 1 = m by omega, Int.pow_succ]
        omega
    have hq : (2 : Int) ^ 22 = 4194304 := by decide
    rw [if_pos (by omega), if_neg (by omega), if_pos (by omega), hh]
    by_cases q : a < (rt + 2 ^ n) * (rt + 2 ^ n) * b
    · rw [if_pos q, if_pos (by omega)]
      exact ih rt f (by omega) h0 (by omega) h2 q (by omega)
    · rw [if_neg q, if_pos (by omega)]
      refine ih (rt + 2 ^ n) f (by omega) (by omega) (by omega) (by omega) ?_ (by omega)
      rw [show rt + 2 ^ n + 2 ^ n = rt + 2 * 2 ^ n by omega]
      exact h3
theorem e_root {a b : Int} (hb : 0 < b ∧ b ≤ 9801) (ha : 0 ≤ a) (h : a < 70368744177664 * b) : ∃ r, d_X12_root a b = some r ∧ 0 ≤ r ∧ r ≤ 8388607 ∧ r * r * b ≤ a ∧ a < (r + 1) * (r + 1) * b := by
  obtain ⟨r, z, h1, h2, h3⟩ := e_rt_loop a b hb ⟨ha, by omega⟩ 23 0 zF (by omega) (by omega) (by decide) (by simp; omega) (by rw [show ((0 : Int) + 2 ^ 23) * (0 + 2 ^ 23) = 70368744177664 by decide]; omega) (by decide)
  refine ⟨r, ?_, h2, h3⟩
  unfold d_X12_root
  rw [if_neg (by omega), show (2 : Int) ^ (23 - 1) = 4194304 by decide] at h1
  rw [h1]
  rfl
theorem root_uniq {r t : Int} (hr : 0 ≤ r) (ht : 0 ≤ t) {s : Int} (h1 : r * r ≤ s) (h2 : s < (r + 1) * (r + 1)) (h3 : t * t ≤ s) (h4 : s < (t + 1) * (t + 1)) : r = t := by
  rcases Int.lt_trichotomy r t with q | q | q
  · have := sq_le (a := r + 1) (b := t) (by omega) (by omega)
    omega
  · exact q
  · have := sq_le (a := t + 1) (b := r) (by omega) (by omega)
    omega
