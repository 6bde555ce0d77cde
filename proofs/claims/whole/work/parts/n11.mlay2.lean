/-! the net: the reference lays its table -/
theorem ND_fr {s3 s8 s7 s : zZ} {ks : List Int} (R : ND s3 s8 ks s7) (h : Fr [22, 23, 24, 25, 26] [33] s7 s) : ND s3 s8 ks s := by
  unfold ND at R ⊢
  rw [h.1 14 (by decide) (by decide), h.1 15 (by decide) (by decide), h.1 16 (by decide) (by decide), h.1 17 (by decide) (by decide), h.1 18 (by decide) (by decide), h.1 19 (by decide) (by decide), h.1 20 (by decide) (by decide), h.1 21 (by decide) (by decide), h.2 20 (by decide), h.2 21 (by decide), h.2 25 (by decide), h.2 1 (by decide)]
  exact R
theorem mA_at {s3 s8 : zZ} {b f w : Nat} (hw : w < 2) : mA s3 s8 b (2 * f + w) = (if fq s3 s8 b 1 = (f : Int) then dfw s3 s8 b w else 0) - (if fq s3 s8 b 2 = (f : Int) then dfw s3 s8 b w else 0) := by
  unfold mA
  rw [show (2 * f + w) / 2 = f by omega, show (2 * f + w) % 2 = w by omega]
theorem e_stretch {s3 s8 s7 : zZ} {ks : List Int} (R : ND s3 s8 ks s7) {b j f w : Nat} (hb : (b : Int) < s7 0 25) (hj : (j : Int) < s7 0 20) (hf : s3 4 j = f) (hw : w < 2) : d_X12_stretch s7 b j w = some (mA s3 s8 b (2 * f + w)) := by
  obtain ⟨r1, r2, r3, r4, r5, r6, r7, r8, _⟩ := R
  have B := r8 b hb
  obtain ⟨p, hp⟩ : ∃ p : Nat, s7 18 (2 * b) = p := ⟨(s7 18 (2 * b)).toNat, by omega⟩
  obtain ⟨q, hq⟩ : ∃ q : Nat, s7 18 (2 * b + 1) = q := ⟨(s7 18 (2 * b + 1)).toNat, by omega⟩
  have J := r5 j hj
  have P := r5 p (by omega)
  have Q := r5 q (by omega)
  have i1 : p ≠ j → s3 4 p ≠ f := fun h e => by
    have := (r6 p j (by omega) hj h).1 (by omega)
    omega
  have i2 : q ≠ j → s3 4 q ≠ f := fun h e => by
    have := (r6 q j (by omega) hj h).1 (by omega)
    omega
  rw [mA_at hw]
  unfold d_X12_stretch fq dfw
  have t1 : (2 * (b : Int)).toNat = 2 * b := by omega
  have t2 : (2 * (b : Int) + 1).toNat = 2 * b + 1 := by omega
  rw [show s8 b 1 = p by omega, show s8 b 2 = q by omega]
  simp only [t1, t2, hp, hq, Int.toNat_natCast, P.1, Q.1, J.1, P.2.2.2.1, Q.2.2.2.1, J.2.2.2.1]
  have hb2 : b < 16 := by omega
  have pq : p ≠ q := by omega
  have p8 : p < 8 ∧ q < 8 ∧ j < 8 := by omega
  have hw2 : w = 0 ∨ w = 1 := by omega
  clear r1 r2 r3 r4 r5 r6 r7 r8 B
  by_cases g1 : p = j
  · have g2 : q ≠ j := by omega
    have n2 := i2 g2
    clear i1 i2
    subst g1
    rcases hw2 with rfl | rfl
    · simp (disch := omega) only [↓if_pos, ↓if_neg, Int.sub_zero]
    · simp (disch := omega) only [↓if_pos, ↓if_neg, Int.sub_zero]
  · by_cases g2 : q = j
    · have n1 := i1 g1
      clear i1 i2
      subst g2
      rcases hw2 with rfl | rfl
      · simp (disch := omega) only [↓if_pos, ↓if_neg]
        congr 1
        omega
      · simp (disch := omega) only [↓if_pos, ↓if_neg]
        congr 1
        omega
    · have n1 := i1 g1
      have n2 := i2 g2
      clear i1 i2
      simp (disch := omega) only [↓if_pos, ↓if_neg]
      rfl
theorem mA_rng {s3 s8 s7 : zZ} {ks : List Int} (R : ND s3 s8 ks s7) {b : Nat} (hb : (b : Int) < s7 0 25) (r : Nat) : -10 ≤ mA s3 s8 b r ∧ mA s3 s8 b r ≤ 10 := by
  have d := dfw_rng R hb (r % 2)
  unfold mA
  repeat' split
  all_goals omega
/-- the table that the reference lays -/
def Tv (s3 s8 : zZ) (B : Nat) (v : Nat → Int) (but : Int) (r j : Nat) : Int := if j < B then (if s8 j 4 ≠ 0 ∨ (j : Int) = but then 0 else mA s3 s8 j r) else - v r
theorem e_lay46 {s3 s8 : zZ} {ks : List Int} {B : Nat} {v : Nat → Int} {but : Int} (hbut : zr but) {j f w : Nat} (hw : w < 2) (hf : s3 4 j = f) {row : Int} (hrow : row = ((2 * f + w : Nat) : Int)) (hr8 : 2 * f + w < 8) : ∀ (m b fu : Nat) (s : zZ), b + m = B → m + 1 ≤ fu → ND s3 s8 ks s → s 0 25 = B → (j : Int) < s 0 20 → (∀ d, d < b → s 22 (20 * (2 * f + w) + d) = Tv s3 s8 B v but (2 * f + w) d) → ∃ z s', d_X12_layNet_46 but j w row fu b s = some (z, s') ∧ (∀ d, d < B → s' 22 (20 * (2 * f + w) + d) = Tv s3 s8 B v but (2 * f + w) d) ∧ (∀ q, q ≠ 22 → s' q = s q) ∧ ∀ i, i / 20 ≠ 2 * f + w → s' 22 i = s 22 i := by
  intro m
  induction m with
  | zero =>
    intro b fu s hb hfu R hB hj h
    obtain ⟨fu, rfl⟩ : ∃ g, fu = g + 1 := ⟨fu - 1, by omega⟩
    unfold d_X12_layNet_46
    have r3 := R.2.2.1
    rw [if_pos (by omega), if_pos (by omega)]
    exact ⟨_, _, rfl, fun d hd => h d (by omega), fun _ _ => rfl, fun _ _ => rfl⟩
  | succ m ih =>
    intro b fu s hb hfu R hB hj h
    obtain ⟨fu, rfl⟩ : ∃ g, fu = g + 1 := ⟨fu - 1, by omega⟩
    have r3 := R.2.2.1
    have r8 := R.2.2.2.2.2.2.2.1 b (by omega)
    have st := e_stretch R (b := b) (by omega) hj hf hw
    have rg := mA_rng R (b := b) (by omega) (2 * f + w)
    unfold d_X12_layNet_46
    have e3 : ((b : Int) + 1) = ((b + 1 : Nat) : Int) := by omega
    have e5 : (20 * row + (b : Int)).toNat = 20 * (2 * f + w) + b := by omega
    simp only [Int.toNat_natCast, e3, e5]
    rw [if_pos (by omega), if_neg (by omega), if_pos (by omega), if_pos (by omega)]
    have go : ∀ x : Int, x = Tv s3 s8 B v but (2 * f + w) b → ∃ z s', d_X12_layNet_46 but j w row fu (b + 1 : Nat) (upz s 22 (20 * (2 * f + w) + b) x) = some (z, s') ∧ (∀ d, d < B → s' 22 (20 * (2 * f + w) + d) = Tv s3 s8 B v but (2 * f + w) d) ∧ (∀ q, q ≠ 22 → s' q = s q) ∧ ∀ i, i / 20 ≠ 2 * f + w → s' 22 i = s 22 i := by
      intro x hx
      obtain ⟨z, s', a1, a2, a3, a4⟩ := ih (b + 1) fu (upz s 22 (20 * (2 * f + w) + b) x) (by omega) (by omega) (ND_fr R (Fr_upz (by decide) (by decide) (Fr_refl _ _ _))) hB hj (fun d hd => by
        rw [upz_at, if_pos rfl]
        by_cases e : d = b
        · rw [if_pos (by omega), hx, e]
        · rw [if_neg (by omega)]
          exact h d (by omega))
      refine ⟨z, s', a1, a2, fun q hq => by rw [a3 q hq, upz_ne _ _ _ _ hq], fun i hi => ?_⟩
      rw [a4 i hi, upz_at, if_pos rfl, if_neg (by omega)]
    have tv : Tv s3 s8 B v but (2 * f + w) b = if s8 b 4 ≠ 0 ∨ (b : Int) = but then 0 else mA s3 s8 b (2 * f + w) := if_pos (by omega)
    clear ih h
    by_cases g : s 20 b = 0
    · by_cases g2 : (b : Int) = but
      · have G := go 0 (by rw [tv, if_pos (Or.inr g2)])
        clear go
        rw [if_neg (by omega), if_pos (by omega), if_neg (by omega), if_pos (by omega)]
        exact G
      · have G := go _ (by rw [tv, if_neg (by omega)])
        clear go
        rw [if_neg (by omega), if_pos (by omega), if_pos (by omega), st, Option.bind_some, if_pos (by omega), if_pos (by omega)]
        exact G
    · have G := go 0 (by rw [tv, if_pos (by omega)])
      clear go
      rw [if_pos (by omega), if_pos (by omega)]
      exact G
