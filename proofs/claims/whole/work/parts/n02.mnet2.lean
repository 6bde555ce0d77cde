/-! the net: cut, load, many, joint -/
theorem m_cut {s0 s3 s8 s7 : zZ} {ks : List Int} {b is : Int} (hb : zr b) (hi : is = 0 ∨ is = 1) (R : ND s3 s8 ks s7) : ∃ r s3' s8' s7', d_X11_cut s0 s3 s8 ks b is = some (r, s3', s8') ∧ d_X12_cut s7 b is = some (r, s7') ∧ ND s3' s8' ks s7' ∧ ((s3' = s3 ∧ s8' = s8) ∨ s3' 0 10 = 1) ∧ Fr [20] [] s7 s7' := by
  have hR := R
  obtain ⟨r1, r2, r3, r4, r5, r6, r7, r8, r9, r10, r11, r12, r13⟩ := hR
  unfold d_X11_cut d_X12_cut
  rw [e_barOf R hb, e_isBar hb (by omega)]
  by_cases q : 0 ≤ b ∧ b < s7 0 25
  · obtain ⟨n, rfl⟩ : ∃ n : Nat, b = n := ⟨b.toNat, by omega⟩
    have B := r8 n q.2
    have hn : n < ks.length ∧ n < 1024 := by omega
    unfold d_X4_changeCut
    simp only [if_pos q, Option.bind_some, Int.toNat_natCast, B.2.2.2.2.2.2.1]
    have F : Fr [20] [] s7 (upz s7 20 n is) := Fr_upz (by decide) (by decide) (Fr_refl _ _ _)
    by_cases g : s7 20 n = is
    · simp (disch := omega) only [↓if_pos, ↓if_neg]
      refine ⟨_, _, _, _, rfl, rfl, ?_, Or.inl ⟨rfl, rfl⟩, F⟩
      rw [← g, upz_id]
      exact R
    · simp (disch := omega) only [↓if_pos, ↓if_neg, ↓Option.bind_some]
      refine ⟨_, _, _, _, rfl, rfl, ?_, Or.inr (upz_hit _ _ _ _), F⟩
      have a : ∀ q, q ≠ 0 → upz s3 0 10 1 q = s3 q := fun q hq => upz_ne _ _ _ _ hq
      have a0 : ∀ j, j ≠ 10 → upz s3 0 10 1 0 j = s3 0 j := fun j hj => by rw [upz_at, if_pos rfl, if_neg hj]
      have b : ∀ q, q ≠ 20 → upz s7 20 n is q = s7 q := fun q hq => upz_ne _ _ _ _ hq
      unfold ND PVf PVg
      simp only [a 1 (by decide), a 2 (by decide), a 3 (by decide), a 4 (by decide), a 5 (by decide), a 13 (by decide), a 14 (by decide), a 24 (by decide), a 25 (by decide), a0 4 (by decide), a0 5 (by decide), a0 7 (by decide), b 0 (by decide), b 14 (by decide), b 15 (by decide), b 16 (by decide), b 17 (by decide), b 18 (by decide), b 19 (by decide), b 21 (by decide), upz_hit]
      refine ⟨r1, r2, r3, r4, r5, r6, r7, fun d hd => ?_, r9, fun x y hx hy => ?_, r11, r12, Or.inr trivial⟩
      · have Bd := r8 d hd
        simp only [upz_at]
        by_cases e : d = n
        · subst e
          simp only [↓reduceIte]
          refine ⟨Bd.1, ?_, ?_, ?_, Bd.2.2.2.2.1, ?_, trivial, hi⟩
          · simpa using Bd.2.1
          · simpa using Bd.2.2.1
          · simpa using Bd.2.2.2.1
          · simpa using Bd.2.2.2.2.2.1
        · simp only [if_neg e]
          exact Bd
      · rw [a (7 + x) (by omega)]
        exact r10 x y hx hy
  · simp (disch := omega) only [↓if_pos, ↓if_neg, ↓Option.bind_some]
    exact ⟨_, _, _, _, rfl, rfl, R, Or.inl ⟨rfl, rfl⟩, Fr_refl _ _ _⟩
theorem e_isCase4 {c : Int} (h : zr c) : d_X4_isCase c = some (if 0 ≤ c ∧ c < 6 then 1 else 0) := by
  unfold d_X4_isCase
  repeat' split
  all_goals first | rfl | (exfalso; omega)
theorem e_isCase7 {c : Int} (h : zr c) : d_X12_isCase c = some (if 0 ≤ c ∧ c < 6 then 1 else 0) := by
  unfold d_X12_isCase
  rw [e_X12_within (by omega), if_pos h, Option.bind_some]
  by_cases q : 0 ≤ c ∧ c ≤ 5
  · rw [if_pos q, if_pos (by decide), if_pos (by omega)]
  · rw [if_neg q, if_pos (by decide), if_neg (by omega)]
theorem e_isLoad {x : Int} (h : zr x) : d_X4_isLoad x = some (if -30 ≤ x ∧ x ≤ 30 then 1 else 0) := by
  unfold d_X4_isLoad
  repeat' split
  all_goals first | rfl | (exfalso; omega)
theorem e_isFree {s3 s8 s7 : zZ} {ks : List Int} (R : ND s3 s8 ks s7) {j : Nat} (hj : (j : Int) < s7 0 20) : d_X4_isFree s3 j = some (if s3 4 j = -1 then 0 else 1) := by
  obtain ⟨r1, r2, r3, r4, r5, _⟩ := R
  have J := r5 j hj
  unfold d_X4_isFree
  rw [e_isJ4 (by omega) (by omega), Option.bind_some, Int.toNat_natCast]
  by_cases q : s3 4 j = -1
  · simp (disch := omega) only [↓if_pos, ↓if_neg]
  · simp (disch := omega) only [↓if_pos, ↓if_neg]
theorem m_load {s0 s3 s8 s7 : zZ} {ks : List Int} {c jt x y : Int} (hc : zr c) (hj : zr jt) (hx : zr x) (hy : zr y) (R : ND s3 s8 ks s7) : ∃ r s3' s7', d_X11_load s0 s3 c jt x y = some (r, s3') ∧ d_X12_load s7 c jt x y = some (r, s7') ∧ ND s3' s8 ks s7' ∧ (s3' = s3 ∨ s3' 0 10 = 1) ∧ Fr [21] [] s7 s7' := by
  have hR := R
  obtain ⟨r1, r2, r3, r4, r5, r6, r7, r8, r9, r10, r11, r12, r13⟩ := hR
  have off : ∀ r : Int, d_X11_load s0 s3 c jt x y = some (r, s3) → d_X12_load s7 c jt x y = some (r, s7) → ∃ r s3' s7', d_X11_load s0 s3 c jt x y = some (r, s3') ∧ d_X12_load s7 c jt x y = some (r, s7') ∧ ND s3' s8 ks s7' ∧ (s3' = s3 ∨ s3' 0 10 = 1) ∧ Fr [21] [] s7 s7' := fun r a b => ⟨r, s3, s7, a, b, R, Or.inl rfl, Fr_refl _ _ _⟩
  have X : d_X11_load s0 s3 c jt x y = d_X11_load s0 s3 c jt x y := rfl
  unfold d_X11_load d_X12_load at off ⊢
  rw [e_isCase4 hc, e_isCase7 hc, e_isJ4 hj (by omega), e_isJ7 hj (by omega), e_isLoad hx, e_isLoad hy, e_X12_within (by omega), e_X12_within (by omega)] at off ⊢
  rw [r1.1] at off ⊢
  by_cases q1 : 0 ≤ c ∧ c < 6
  · by_cases q2 : 0 ≤ jt ∧ jt < s7 0 20
    · by_cases q3 : -30 ≤ x ∧ x ≤ 30
      · by_cases q4 : -30 ≤ y ∧ y ≤ 30
        · obtain ⟨j, rfl⟩ : ∃ j : Nat, jt = j := ⟨jt.toNat, by omega⟩
          obtain ⟨n, rfl⟩ : ∃ n : Nat, c = n := ⟨c.toNat, by omega⟩
          have J := r5 j q2.2
          by_cases fr : s3 4 j = -1
          · rw [e_isFree R q2.2] at off ⊢
            rw [if_pos fr] at off ⊢
            refine off (-3) ?_ ?_
            · simp (disch := omega) only [↓if_pos, ↓if_neg, ↓Option.bind_some]
            · simp only [Int.toNat_natCast]
              simp (disch := omega) only [↓if_pos, ↓if_neg, ↓Option.bind_some]
          · obtain ⟨f, hf⟩ : ∃ f : Nat, s3 4 j = f := ⟨(s3 4 j).toNat, by omega⟩
            have h16 : s7 16 j = f := by omega
            have f4 : f < 4 := by omega
            unfold d_X4_changeLoad
            rw [e_isCase4 hc, e_isFree R q2.2, if_neg fr]
            have e1 : (2 * (f : Int)).toNat = 2 * f := by omega
            have e2 : (2 * (f : Int) + 1).toNat = 2 * f + 1 := by omega
            have e3 : (8 * (n : Int) + 2 * (f : Int)).toNat = 8 * n + 2 * f := by omega
            have e4 : (8 * (n : Int) + 2 * (f : Int) + 1).toNat = 8 * n + 2 * f + 1 := by omega
            have u4 : ∀ v, upz s3 (7 + n) (2 * f) v 4 j = f := fun v => by rw [upz_ne _ _ _ _ (by omega)]; exact hf
            have u16 : ∀ v, upz s7 21 (8 * n + 2 * f) v 16 j = f := fun v => by rw [upz_ne _ _ _ _ (by decide)]; exact h16
            simp only [Int.toNat_natCast, hf, h16, e1, e2, e3, e4, u4, u16]
            simp (disch := omega) only [↓if_pos, ↓if_neg, ↓Option.bind_some]
            refine ⟨_, _, _, rfl, rfl, ?_, Or.inr (upz_hit _ _ _ _), Fr_upz (by decide) (by decide) (Fr_upz (by decide) (by decide) (Fr_refl _ _ _))⟩
            have a : ∀ q, q ≠ 0 → q ≠ 7 + n → upz (upz (upz s3 (7 + n) (2 * f) x) (7 + n) (2 * f + 1) y) 0 10 1 q = s3 q := fun q h0 hq => by rw [upz_ne _ _ _ _ h0, upz_ne _ _ _ _ hq, upz_ne _ _ _ _ hq]
            have a0 : ∀ i, i ≠ 10 → upz (upz (upz s3 (7 + n) (2 * f) x) (7 + n) (2 * f + 1) y) 0 10 1 0 i = s3 0 i := fun i hi => by rw [upz_at, if_pos rfl, if_neg hi, upz_ne _ _ _ _ (by omega), upz_ne _ _ _ _ (by omega)]
            have b : ∀ q, q ≠ 21 → upz (upz s7 21 (8 * n + 2 * f) x) 21 (8 * n + 2 * f + 1) y q = s7 q := fun q hq => by rw [upz_ne _ _ _ _ hq, upz_ne _ _ _ _ hq]
            unfold ND PVf PVg
            simp only [a 1 (by decide) (by omega), a 2 (by decide) (by omega), a 3 (by decide) (by omega), a 4 (by decide) (by omega), a 5 (by decide) (by omega), a 13 (by decide) (by omega), a 14 (by decide) (by omega), a 24 (by decide) (by omega), a 25 (by decide) (by omega), a0 4 (by decide), a0 5 (by decide), a0 7 (by decide), b 0 (by decide), b 14 (by decide), b 15 (by decide), b 16 (by decide), b 17 (by decide), b 18 (by decide), b 19 (by decide), b 20 (by decide), upz_hit]
            refine ⟨r1, r2, r3, r4, r5, r6, r7, r8, r9, fun c' k' hc' hk' => ?_, r11, r12, Or.inr trivial⟩
            have L := r10 c' k' hc' hk'
            rw [upz_ne _ _ _ _ (show 7 + c' ≠ 0 by omega)]
            simp only [upz_at, ↓reduceIte]
            by_cases cn : c' = n
            · subst cn
              simp only [↓reduceIte]
              by_cases k1 : k' = 2 * f + 1
              · rw [if_pos (by omega), if_pos k1]
                exact ⟨rfl, q4.1, q4.2⟩
              · rw [if_neg (by omega), if_neg k1]
                by_cases k0 : k' = 2 * f
                · rw [if_pos (by omega), if_pos k0]
                  exact ⟨rfl, q3.1, q3.2⟩
                · rw [if_neg (by omega), if_neg k0]
                  exact L
            · rw [if_neg (by omega), if_neg (by omega)]
              simp only [show ¬ (7 + c' = 7 + n) by omega, ↓reduceIte]
              exact L
        · refine off (-2) ?_ ?_
          · simp (disch := omega) only [↓if_pos, ↓if_neg, ↓Option.bind_some]
          · simp (disch := omega) only [↓if_pos, ↓if_neg, ↓Option.bind_some]
      · refine off (-2) ?_ ?_
        · simp (disch := omega) only [↓if_pos, ↓if_neg, ↓Option.bind_some]
        · simp (disch := omega) only [↓if_pos, ↓if_neg, ↓Option.bind_some]
    · refine off (-1) ?_ ?_
      · simp (disch := omega) only [↓if_pos, ↓if_neg, ↓Option.bind_some]
      · simp (disch := omega) only [↓if_pos, ↓if_neg, ↓Option.bind_some]
  · refine off (-1) ?_ ?_
    · simp (disch := omega) only [↓if_pos, ↓if_neg, ↓Option.bind_some]
    · simp (disch := omega) only [↓if_pos, ↓if_neg, ↓Option.bind_some]
theorem e_cuts {s3 s8 s7 : zZ} {ks : List Int} (R : ND s3 s8 ks s7) : ∀ (m k f g : Nat) (x y : Int), ((k : Int) + m = s7 0 25) → m + 1 ≤ f → m + 1 ≤ g → x + y = k → ∃ X Y z w, d_X4_howManyCut_4 s3 s8 ks f x k = some (X, z) ∧ d_X12_manyBars_4 s7 g y k = some (Y, w) ∧ X + Y = s7 0 25 := by
  obtain ⟨r1, r2, r3, r4, r5, r6, r7, r8, _⟩ := R
  intro m
  induction m with
  | zero =>
    intro k f g x y hk hf hg h
    obtain ⟨f, rfl⟩ : ∃ h, f = h + 1 := ⟨f - 1, by omega⟩
    obtain ⟨g, rfl⟩ : ∃ h, g = h + 1 := ⟨g - 1, by omega⟩
    unfold d_X4_howManyCut_4 d_X12_manyBars_4
    rw [r3.1, if_pos (by omega), if_pos (by omega), if_pos (by omega), if_pos (by omega)]
    exact ⟨_, _, _, _, rfl, rfl, by omega⟩
  | succ m ih =>
    intro k f g x y hk hf hg h
    obtain ⟨f, rfl⟩ : ∃ h, f = h + 1 := ⟨f - 1, by omega⟩
    obtain ⟨g, rfl⟩ : ∃ h, g = h + 1 := ⟨g - 1, by omega⟩
    unfold d_X4_howManyCut_4 d_X12_manyBars_4
    have B := r8 k (by omega)
    have e3 : ((k : Int) + 1) = ((k + 1 : Nat) : Int) := by omega
    simp only [r3.1, r3.2.1, Int.toNat_natCast, e3, B.2.2.2.2.2.2.1]
    by_cases q : s7 20 k = 0
    · simp (disch := omega) only [↓if_pos, ↓if_neg]
      exact ih (k + 1) f g _ _ (by omega) (by omega) (by omega) (by omega)
    · simp (disch := omega) only [↓if_pos, ↓if_neg]
      exact ih (k + 1) f g _ _ (by omega) (by omega) (by omega) (by omega)
theorem m_many {s0 s1 s2 s3 s5 s8 s7 : zZ} {ks : List Int} {wh : Int} (hw : zr wh) (R1 : s1 0 3 = s7 0 5) (R2 : s2 0 0 = s7 0 14) (R5 : s5 0 3 = s7 0 39) (R : ND s3 s8 ks s7) : ∃ r, d_X11_many s0 s1 s2 s3 s5 s8 ks wh = some r ∧ d_X12_many s7 wh = some r := by
  obtain ⟨X, Y, z, w, a1, a2, a3⟩ := e_cuts R (s7 0 25).toNat 0 zF zF 0 0 (by have := R.2.2.1; omega) (by unfold zF; have := R.2.2.1; omega) (by unfold zF; have := R.2.2.1; omega) (by decide)
  rw [show ((0 : Nat) : Int) = 0 from rfl] at a1 a2
  obtain ⟨r1, r2, r3, r4, r5, r6, r7, r8, _⟩ := R
  unfold d_X11_many d_X12_many d_X2_howMany d_X5_howManyLinks d_X4_howManyJoints d_X4_howManyFree d_X4_howManyBars d_X4_howManyCut d_X7_howMany d_X12_manyBars
  rw [a1, a2, R1, R2, R5, r1.1, r2.1, r3.1]
  by_cases w0 : wh = 0
  · simp (disch := omega) only [↓if_pos, ↓if_neg, ↓Option.bind_some]
    exact ⟨_, rfl, rfl⟩
  · by_cases w1 : wh = 1
    · simp (disch := omega) only [↓if_pos, ↓if_neg, ↓Option.bind_some]
      exact ⟨_, rfl, rfl⟩
    · by_cases w2 : wh = 2
      · simp (disch := omega) only [↓if_pos, ↓if_neg, ↓Option.bind_some]
        exact ⟨_, rfl, rfl⟩
      · by_cases w3 : wh = 3
        · simp (disch := omega) only [↓if_pos, ↓if_neg, ↓Option.bind_some]
          exact ⟨_, rfl, rfl⟩
        · by_cases w4 : wh = 4
          · simp (disch := omega) only [↓if_pos, ↓if_neg, ↓Option.bind_some]
            exact ⟨_, rfl, rfl⟩
          · by_cases w5 : wh = 5
            · simp (disch := omega) only [↓if_pos, ↓if_neg, ↓Option.bind_some]
              exact ⟨_, rfl, by rw [show s7 0 25 - Y = X by omega]⟩
            · by_cases w6 : wh = 6
              · simp (disch := omega) only [↓if_pos, ↓if_neg, ↓Option.bind_some]
                exact ⟨_, rfl, rfl⟩
              · simp (disch := omega) only [↓if_pos, ↓if_neg, ↓Option.bind_some]
                exact ⟨_, rfl, rfl⟩
/-! joints -/
theorem e_taken {s3 s8 s7 : zZ} {ks : List Int} (R : ND s3 s8 ks s7) {x y held : Int} (hx : zr x) (hy : zr y) : ∀ (m k f g : Nat), ((k : Int) + m = s7 0 20) → m + 1 ≤ f → m + 1 ≤ g → (∃ z, d_X4_isTaken_2 s3 x y f k = some (.inr 1) ∧ d_X12_joint_30 s7 x y held g k = some (.inr ((-3), s7)) ∧ z = (0 : Int)) ∨ (∃ z w, d_X4_isTaken_2 s3 x y f k = some (.inl z) ∧ d_X12_joint_30 s7 x y held g k = some (.inl w) ∧ ∀ j : Nat, k ≤ j → (j : Int) < s7 0 20 → ¬ (s3 2 j = x ∧ s3 3 j = y)) := by
  obtain ⟨r1, r2, r3, r4, r5, _⟩ := R
  intro m
  induction m with
  | zero =>
    intro k f g hk hf hg
    obtain ⟨f, rfl⟩ : ∃ h, f = h + 1 := ⟨f - 1, by omega⟩
    obtain ⟨g, rfl⟩ : ∃ h, g = h + 1 := ⟨g - 1, by omega⟩
    unfold d_X4_isTaken_2 d_X12_joint_30
    rw [r1.1, if_pos (by omega), if_pos (by omega), if_pos (by omega), if_pos (by omega)]
    exact Or.inr ⟨_, _, rfl, rfl, fun j h1 h2 => by omega⟩
  | succ m ih =>
    intro k f g hk hf hg
    obtain ⟨f, rfl⟩ : ∃ h, f = h + 1 := ⟨f - 1, by omega⟩
    obtain ⟨g, rfl⟩ : ∃ h, g = h + 1 := ⟨g - 1, by omega⟩
    unfold d_X4_isTaken_2 d_X12_joint_30
    have J := r5 k (by omega)
    have e3 : ((k : Int) + 1) = ((k + 1 : Nat) : Int) := by omega
    simp only [r1.1, Int.toNat_natCast, e3, J.1, J.2.2.2.1]
    have I := ih (k + 1) f g (by omega) (by omega) (by omega)
    have more : ¬ (s3 2 k = x ∧ s3 3 k = y) → (∃ z, d_X4_isTaken_2 s3 x y f (k + 1 : Nat) = some (.inr 1) ∧ d_X12_joint_30 s7 x y held g (k + 1 : Nat) = some (.inr ((-3), s7)) ∧ z = (0 : Int)) ∨ (∃ z w, d_X4_isTaken_2 s3 x y f (k + 1 : Nat) = some (.inl z) ∧ d_X12_joint_30 s7 x y held g (k + 1 : Nat) = some (.inl w) ∧ ∀ j : Nat, k ≤ j → (j : Int) < s7 0 20 → ¬ (s3 2 j = x ∧ s3 3 j = y)) := by
      intro hn
      rcases I with h | ⟨z, w, h1, h2, h3⟩
      · exact Or.inl h
      · refine Or.inr ⟨z, w, h1, h2, fun j a b => ?_⟩
        by_cases e : j = k
        · rw [e]; exact hn
        · exact h3 j (by omega) b
    clear I ih
    by_cases q1 : s3 2 k = x
    · by_cases q2 : s3 3 k = y
      · clear more
        simp (disch := omega) only [↓if_pos, ↓if_neg]
        exact Or.inl ⟨0, trivial, trivial, rfl⟩
      · have M := more (fun h => q2 h.2)
        clear more
        simp (disch := omega) only [↓if_pos, ↓if_neg]
        exact M
    · have M := more (fun h => q1 h.1)
      clear more
      simp (disch := omega) only [↓if_pos, ↓if_neg]
      exact M
