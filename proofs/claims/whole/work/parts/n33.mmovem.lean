/-! the reference lays the lengths -/
theorem e_m26 {r : Nat} (hr : r < 16) {b : Int} : ∀ (m k f : Nat) (s : zZ), k + m = 8 → m + 1 ≤ f → ∃ z s', d_X12_findMove_26 r b f k s = some (z, s') ∧ (∀ q, q ≠ 22 → s' q = s q) ∧ (∀ i, k ≤ i → i < 8 → s' 22 (20 * r + i) = 0) ∧ ∀ i, (i < 20 * r + k ∨ 20 * r + 8 ≤ i) → s' 22 i = s 22 i := by
  intro m
  induction m with
  | zero =>
    intro k f s hk hf
    obtain ⟨f, rfl⟩ : ∃ g, f = g + 1 := ⟨f - 1, by omega⟩
    unfold d_X12_findMove_26
    rw [if_pos (by omega), if_pos (by omega)]
    exact ⟨_, _, rfl, fun _ _ => rfl, fun i h1 h2 => by omega, fun _ _ => rfl⟩
  | succ m ih =>
    intro k f s hk hf
    obtain ⟨f, rfl⟩ : ∃ g, f = g + 1 := ⟨f - 1, by omega⟩
    have e3 : ((k : Int) + 1) = ((k + 1 : Nat) : Int) := by omega
    have e1 : (20 * (r : Int) + k).toNat = 20 * r + k := by omega
    obtain ⟨z, s', a1, a2, a3, a4⟩ := ih (k + 1) f (upz s 22 (20 * r + k) 0) (by omega) (by omega)
    clear ih
    unfold d_X12_findMove_26
    rw [if_pos (by omega), if_neg (by omega), if_pos (by omega), e1, e3]
    refine ⟨z, s', a1, fun q hq => by rw [a2 q hq, upz_ne _ _ _ _ hq], fun i h1 h2 => ?_, fun i hi => ?_⟩
    · by_cases e : i = k
      · rw [a4 _ (by omega), upz_at, if_pos rfl, if_pos (by omega)]
      · exact a3 i (by omega) h2
    · rw [a4 i (by omega), upz_at, if_pos rfl, if_neg (by omega)]
theorem e_m52 {s3 s8 : zZ} {ks : List Int} {b r N : Nat} (hr : r < 16) : ∀ (m j fu : Nat) (s : zZ), j + m = N → m + 1 ≤ fu → ND s3 s8 ks s → (b : Int) < s 0 25 → s 0 20 = N → (∀ i f x : Nat, i < j → s3 4 i = f → x < 2 → s 22 (20 * r + (2 * f + x)) = mA s3 s8 b (2 * f + x)) → ∃ z s', d_X12_findMove_52 r b fu j s = some (z, s') ∧ (∀ i f x : Nat, i < N → s3 4 i = f → x < 2 → s' 22 (20 * r + (2 * f + x)) = mA s3 s8 b (2 * f + x)) ∧ (∀ q, q ≠ 22 → s' q = s q) ∧ ∀ i, (i < 20 * r ∨ 20 * r + 20 ≤ i) → s' 22 i = s 22 i := by
  intro m
  induction m with
  | zero =>
    intro j fu s hj hfu R hb hN h
    obtain ⟨fu, rfl⟩ : ∃ g, fu = g + 1 := ⟨fu - 1, by omega⟩
    have r1 := R.1
    unfold d_X12_findMove_52
    rw [if_pos (by omega), if_pos (by omega)]
    exact ⟨_, _, rfl, fun i f x hi => h i f x (by omega), fun _ _ => rfl, fun _ _ => rfl⟩
  | succ m ih =>
    intro j fu s hj hfu R hb hN h
    obtain ⟨fu, rfl⟩ : ∃ g, fu = g + 1 := ⟨fu - 1, by omega⟩
    have r1 := R.1
    have r2 := R.2.1
    have r5 := R.2.2.2.2.1 j (by omega)
    have r6 := R.2.2.2.2.2.1
    have e3 : ((j : Int) + 1) = ((j + 1 : Nat) : Int) := by omega
    by_cases g : s 16 j = -9
    · have nx := ih (j + 1) fu s (by omega) (by omega) R hb hN (fun i f x hi hf hx => by
        by_cases e : i = j
        · rw [e] at hf
          omega
        · exact h i f x (by omega) hf hx)
      clear ih
      unfold d_X12_findMove_52
      rw [if_pos (by omega), if_neg (by omega), if_pos (by omega), Int.toNat_natCast, if_pos (by omega), if_pos g, e3]
      exact nx
    · obtain ⟨f, hf⟩ : ∃ f : Nat, s3 4 j = f := ⟨(s3 4 j).toNat, by omega⟩
      have g16 : s 16 j = f := by omega
      have f4 : f < 4 := by omega
      have st0 := e_stretch R hb (show (j : Int) < s 0 20 by omega) hf (show 0 < 2 by decide)
      have rg := fun x => mA_rng R hb x
      have R1 : ND s3 s8 ks (upz s 22 (20 * r + 2 * f) (mA s3 s8 b (2 * f + 0))) := ND_fr R (Fr_upz (by decide) (by decide) (Fr_refl _ _ _))
      have u0 : ∀ v i, upz s 22 i v 0 = s 0 := fun v i => upz_ne _ _ _ _ (by decide)
      have st1 := e_stretch R1 (show (b : Int) < upz s 22 (20 * r + 2 * f) (mA s3 s8 b (2 * f + 0)) 0 25 by rw [u0]; exact hb) (show (j : Int) < upz s 22 (20 * r + 2 * f) (mA s3 s8 b (2 * f + 0)) 0 20 by rw [u0]; omega) hf (show 1 < 2 by decide)
      rw [show ((0 : Nat) : Int) = 0 from rfl] at st0
      rw [show ((1 : Nat) : Int) = 1 from rfl] at st1
      have e1 : (20 * (r : Int) + 2 * (f : Int)).toNat = 20 * r + 2 * f := by omega
      have e2 : (20 * (r : Int) + 2 * (f : Int) + 1).toNat = 20 * r + 2 * f + 1 := by omega
      have w16 : ∀ v i, upz s 22 i v 16 = s 16 := fun v i => upz_ne _ _ _ _ (by decide)
      have rg0 := rg (2 * f + 0)
      have rg1 := rg (2 * f + 1)
      have fr1 : Fr [22, 23, 24, 25, 26] [33] s (upz (upz s 22 (20 * r + 2 * f) (mA s3 s8 b (2 * f + 0))) 22 (20 * r + 2 * f + 1) (mA s3 s8 b (2 * f + 1))) := Fr_upz (by decide) (by decide) (Fr_upz (by decide) (by decide) (Fr_refl _ _ _))
      obtain ⟨z, s', b1, b2, b3, b4⟩ := ih (j + 1) fu (upz (upz s 22 (20 * r + 2 * f) (mA s3 s8 b (2 * f + 0))) 22 (20 * r + 2 * f + 1) (mA s3 s8 b (2 * f + 1))) (by omega) (by omega) (ND_fr R fr1) (by rw [fr1.2 25 (by decide)]; exact hb) (by rw [fr1.2 20 (by decide)]; exact hN) (fun i g x hi hg hx => by
        rw [upz_at, if_pos rfl, upz_at, if_pos rfl]
        by_cases e : i = j
        · rw [e, hf] at hg
          have : g = f := by omega
          subst this
          rcases (show x = 0 ∨ x = 1 by omega) with rfl | rfl
          · rw [if_neg (by omega), if_pos (by omega)]
          · rw [if_pos (by omega)]
        · have ne : g ≠ f := fun e2 => by
            have := (r6 i j (by omega) (by omega) e).1 (by omega)
            omega
          rw [if_neg (by omega), if_neg (by omega)]
          exact h i g x (by omega) hg hx)
      clear ih h
      unfold d_X12_findMove_52
      rw [if_pos (by omega), if_neg (by omega), if_pos (by omega), Int.toNat_natCast, if_pos (by omega), if_neg g, if_pos (by omega), st0, Option.bind_some, if_pos (by omega), g16, if_pos (by omega), if_pos (by omega), e1, st1, Option.bind_some, if_pos (by omega), w16, g16, if_pos (by omega), e2, e3]
      refine ⟨z, s', b1, b2, fun q hq => by rw [b3 q hq, upz_ne _ _ _ _ hq, upz_ne _ _ _ _ hq], fun i hi => ?_⟩
      rw [b4 i hi, upz_at, if_pos rfl, if_neg (by omega), upz_at, if_pos rfl, if_neg (by omega)]
theorem e_m4 {s3 s8 : zZ} {ks : List Int} {B F : Nat} : ∀ (m b fu : Nat) (s : zZ), b + m = B → m + 1 ≤ fu → ND s3 s8 ks s → s 0 25 = B → s 0 21 = F → (∀ d j, d < b → s8 d 4 = 0 → j < 2 * F → s 22 (20 * cn s8 d + j) = mA s3 s8 d j) → ∃ z s', d_X12_findMove_4 fu ((cn s8 b : Nat) : Int) b s = some (((cn s8 B : Nat) : Int), z, s') ∧ (∀ d j, d < B → s8 d 4 = 0 → j < 2 * F → s' 22 (20 * cn s8 d + j) = mA s3 s8 d j) ∧ ∀ q, q ≠ 22 → s' q = s q := by
  intro m
  induction m with
  | zero =>
    intro b fu s hb hfu R hB hF h
    obtain ⟨fu, rfl⟩ : ∃ g, fu = g + 1 := ⟨fu - 1, by omega⟩
    have r3 := R.2.2.1
    unfold d_X12_findMove_4
    rw [if_pos (by omega), if_pos (by omega), show b = B by omega]
    exact ⟨_, _, rfl, fun d j hd => h d j (by omega), fun _ _ => rfl⟩
  | succ m ih =>
    intro b fu s hb hfu R hB hF h
    obtain ⟨fu, rfl⟩ : ∃ g, fu = g + 1 := ⟨fu - 1, by omega⟩
    have r1 := R.1
    have r2 := R.2.1
    have r3 := R.2.2.1
    have r7 := R.2.2.2.2.2.2.1
    have r8 := R.2.2.2.2.2.2.2.1 b (by omega)
    have r84 := r8.2.2.2.2.2.2
    have cb := cn_le s8 b
    have e3 : ((b : Int) + 1) = ((b + 1 : Nat) : Int) := by omega
    have ec : cn s8 (b + 1) = cn s8 b + (if s8 b 4 = 0 then 1 else 0) := rfl
    obtain ⟨N, hN⟩ : ∃ N : Nat, s 0 20 = N := ⟨(s 0 20).toNat, by omega⟩
    by_cases q : s8 b 4 = 0
    · rw [if_pos q] at ec
      obtain ⟨z1, s1, a1, a2, a3, a4⟩ := e_m26 (r := cn s8 b) (by omega) (b := (b : Int)) 8 0 zF s (by omega) (by unfold zF; omega)
      have fr1 : Fr [22, 23, 24, 25, 26] [33] s s1 := ⟨fun q _ hq => a2 q (fun e => hq (by rw [e]; decide)), fun j _ => by rw [a2 0 (by decide)]⟩
      obtain ⟨z2, s2, b1, b2, b3, b4⟩ := e_m52 (s3 := s3) (s8 := s8) (ks := ks) (b := b) (r := cn s8 b) (N := N) (by omega) N 0 zF s1 (by omega) (by unfold zF; omega) (ND_fr R fr1) (by rw [a2 0 (by decide)]; omega) (by rw [a2 0 (by decide)]; exact hN) (fun i f x hi => by omega)
      rw [show ((0 : Nat) : Int) = 0 from rfl] at a1 b1
      have fr2 : Fr [22, 23, 24, 25, 26] [33] s s2 := ⟨fun q _ hq => by rw [b3 q (fun e => hq (by rw [e]; decide)), a2 q (fun e => hq (by rw [e]; decide))], fun j _ => by rw [b3 0 (by decide), a2 0 (by decide)]⟩
      obtain ⟨z, s', d1, d2, d3⟩ := ih (b + 1) fu s2 (by omega) (by omega) (ND_fr R fr2) (by rw [fr2.2 25 (by decide)]; exact hB) (by rw [fr2.2 21 (by decide)]; exact hF) (fun d j hd h0 hj => by
        by_cases e : d = b
        · rw [e]
          obtain ⟨i, i1, i2⟩ := r7 (j / 2) (by omega)
          have := b2 i (j / 2) (j % 2) (by omega) i2 (by omega)
          rw [show 2 * (j / 2) + j % 2 = j by omega] at this
          exact this
        · have l := cn_lt s8 (show d < b by omega) h0
          rw [b4 _ (by omega), a4 _ (by omega)]
          exact h d j (by omega) h0 hj)
      rw [ec] at d1
      clear ih h
      unfold d_X12_findMove_4
      rw [if_pos (by omega), if_neg (by omega), if_pos (by omega), Int.toNat_natCast, if_pos (by omega), if_pos (by omega), a1, Option.bind_some, b1, Option.bind_some, e3, show ((cn s8 b : Nat) : Int) + 1 = ((cn s8 b + 1 : Nat) : Int) by omega]
      exact ⟨z, s', d1, d2, fun q hq => by rw [d3 q hq, b3 q hq, a2 q hq]⟩
    · rw [if_neg q] at ec
      obtain ⟨z, s', d1, d2, d3⟩ := ih (b + 1) fu s (by omega) (by omega) R hB hF (fun d j hd h0 hj => by
        by_cases e : d = b
        · rw [e] at h0
          exact absurd h0 q
        · exact h d j (by omega) h0 hj)
      rw [ec, Nat.add_zero] at d1
      clear ih h
      unfold d_X12_findMove_4
      rw [if_pos (by omega), if_neg (by omega), if_pos (by omega), Int.toNat_natCast, if_pos (by omega), if_neg (by omega), e3]
      exact ⟨z, s', d1, d2, d3⟩
