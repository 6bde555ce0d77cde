/-! the net: the reference lays its table, and clears it -/
theorem e_lay26 {s3 s8 : zZ} {ks : List Int} {B : Nat} {v : Nat → Int} {but : Int} (hbut : zr but) {j f : Nat} (hf : s3 4 j = f) (hv : ∀ i, i < 8 → -180 ≤ v i ∧ v i ≤ 180) : ∀ (m w fu : Nat) (s : zZ), w + m = 2 → m + 1 ≤ fu → ND s3 s8 ks s → s 0 25 = B → (j : Int) < s 0 20 → (∀ i, i < 8 → s 24 i = v i) → (∀ x d, x < w → d ≤ B → s 22 (20 * (2 * f + x) + d) = Tv s3 s8 B v but (2 * f + x) d) → ∃ z s', d_X12_layNet_26 but j fu w s = some (z, s') ∧ (∀ x d, x < 2 → d ≤ B → s' 22 (20 * (2 * f + x) + d) = Tv s3 s8 B v but (2 * f + x) d) ∧ (∀ q, q ≠ 22 → s' q = s q) ∧ ∀ i, i / 20 / 2 ≠ f → s' 22 i = s 22 i := by
  intro m
  induction m with
  | zero =>
    intro w fu s hw hfu R hB hj h24 h
    obtain ⟨fu, rfl⟩ : ∃ g, fu = g + 1 := ⟨fu - 1, by omega⟩
    unfold d_X12_layNet_26
    rw [if_pos (by omega), if_pos (by omega)]
    exact ⟨_, _, rfl, fun x d hx hd => h x d (by omega) hd, fun _ _ => rfl, fun _ _ => rfl⟩
  | succ m ih =>
    intro w fu s hw hfu R hB hj h24 h
    obtain ⟨fu, rfl⟩ : ∃ g, fu = g + 1 := ⟨fu - 1, by omega⟩
    have r1 := R.1
    have r2 := R.2.1
    have r3 := R.2.2.1
    have r5 := R.2.2.2.2.1 j hj
    have f4 : f < 4 := by omega
    have hV := hv (2 * f + w) (by omega)
    have e3 : ((w : Int) + 1) = ((w + 1 : Nat) : Int) := by omega
    have e4 : 2 * s 16 j + (w : Int) = ((2 * f + w : Nat) : Int) := by omega
    obtain ⟨z, s1, a1, a2, a3, a4⟩ := e_lay46 (v := v) hbut (show w < 2 by omega) hf (row := ((2 * f + w : Nat) : Int)) rfl (by omega) B 0 zF s (by omega) (by unfold zF; omega) R hB hj (fun d hd => by omega)
    rw [show ((0 : Nat) : Int) = 0 from rfl] at a1
    have e5 : (20 * ((2 * f + w : Nat) : Int) + s1 0 25).toNat = 20 * (2 * f + w) + B := by rw [a3 0 (by decide)]; omega
    have e6 : s1 24 (2 * f + w) = v (2 * f + w) := by rw [a3 24 (by decide)]; exact h24 _ (by omega)
    have e7 : s1 0 25 = B := by rw [a3 0 (by decide)]; exact hB
    have fr1 : Fr [22, 23, 24, 25, 26] [33] s (upz s1 22 (20 * (2 * f + w) + B) (- v (2 * f + w))) := Fr_upz (by decide) (by decide) ⟨fun q _ hq => a3 q (fun e => hq (by rw [e]; decide)), fun j _ => by rw [a3 0 (by decide)]⟩
    obtain ⟨z2, s2, b1, b2, b3, b4⟩ := ih (w + 1) fu (upz s1 22 (20 * (2 * f + w) + B) (- v (2 * f + w))) (by omega) (by omega) (ND_fr R fr1) (by rw [fr1.2 25 (by decide)]; exact hB) (by rw [fr1.2 20 (by decide)]; exact hj) (fun i hi => by rw [upz_ne _ _ _ _ (by decide), a3 24 (by decide)]; exact h24 i hi) (fun x d hx hd => by
      rw [upz_at, if_pos rfl]
      by_cases e : x = w
      · rw [e]
        by_cases e2 : d = B
        · rw [if_pos (by omega), e2]
          exact (if_neg (by omega)).symm
        · rw [if_neg (by omega)]
          exact a2 d (by omega)
      · rw [if_neg (by omega), a4 _ (by omega)]
        exact h x d (by omega) hd)
    clear ih h
    unfold d_X12_layNet_26
    rw [if_pos (by omega), if_neg (by omega), if_pos (by omega)]
    simp only [Int.toNat_natCast, e3, e4, a1, Option.bind_some, e5, e6]
    rw [if_pos (by omega), if_pos (by omega), if_pos (by omega)]
    refine ⟨z2, s2, b1, b2, fun q hq => by rw [b3 q hq, upz_ne _ _ _ _ hq, a3 q hq], fun i hi => ?_⟩
    rw [b4 i hi, upz_at, if_pos rfl, if_neg (by omega), a4 i (by omega)]
theorem e_lay2 {s3 s8 : zZ} {ks : List Int} {B N : Nat} {v : Nat → Int} {but : Int} (hbut : zr but) (hv : ∀ i, i < 8 → -180 ≤ v i ∧ v i ≤ 180) : ∀ (m j fu : Nat) (s : zZ), j + m = N → m + 1 ≤ fu → ND s3 s8 ks s → s 0 25 = B → s 0 20 = N → (∀ i, i < 8 → s 24 i = v i) → (∀ i f x d : Nat, i < j → s3 4 i = f → x < 2 → d ≤ B → s 22 (20 * (2 * f + x) + d) = Tv s3 s8 B v but (2 * f + x) d) → ∃ z s', d_X12_layNet_2 but fu j s = some (z, s') ∧ (∀ i f x d : Nat, i < N → s3 4 i = f → x < 2 → d ≤ B → s' 22 (20 * (2 * f + x) + d) = Tv s3 s8 B v but (2 * f + x) d) ∧ (∀ q, q ≠ 22 → s' q = s q) := by
  intro m
  induction m with
  | zero =>
    intro j fu s hj hfu R hB hN h24 h
    obtain ⟨fu, rfl⟩ : ∃ g, fu = g + 1 := ⟨fu - 1, by omega⟩
    have r1 := R.1
    unfold d_X12_layNet_2
    rw [if_pos (by omega), if_pos (by omega)]
    exact ⟨_, _, rfl, fun i f x d hi => h i f x d (by omega), fun _ _ => rfl⟩
  | succ m ih =>
    intro j fu s hj hfu R hB hN h24 h
    obtain ⟨fu, rfl⟩ : ∃ g, fu = g + 1 := ⟨fu - 1, by omega⟩
    have r1 := R.1
    have r2 := R.2.1
    have r5 := R.2.2.2.2.1 j (by omega)
    have r6 := R.2.2.2.2.2.1
    have e3 : ((j : Int) + 1) = ((j + 1 : Nat) : Int) := by omega
    unfold d_X12_layNet_2
    rw [if_pos (by omega), if_neg (by omega), if_pos (by omega)]
    simp only [Int.toNat_natCast, e3]
    rw [if_pos (by omega)]
    by_cases g : s 16 j = -9
    · rw [if_neg (by omega)]
      exact ih (j + 1) fu s (by omega) (by omega) R hB hN h24 (fun i f x d hi hf hx hd => by
        by_cases e : i = j
        · rw [e] at hf
          omega
        · exact h i f x d (by omega) hf hx hd)
    · rw [if_pos (by omega)]
      obtain ⟨f, hf⟩ : ∃ f : Nat, s3 4 j = f := ⟨(s3 4 j).toNat, by omega⟩
      obtain ⟨z1, s1, a1, a2, a3, a4⟩ := e_lay26 hbut hf hv 2 0 zF s (by omega) (by unfold zF; omega) R hB (by omega) h24 (fun x d hx => by omega)
      rw [show ((0 : Nat) : Int) = 0 from rfl] at a1
      rw [a1, Option.bind_some]
      have fr1 : Fr [22, 23, 24, 25, 26] [33] s s1 := ⟨fun q _ hq => a3 q (fun e => hq (by rw [e]; decide)), fun j _ => by rw [a3 0 (by decide)]⟩
      obtain ⟨z2, s2, b1, b2, b3⟩ := ih (j + 1) fu s1 (by omega) (by omega) (ND_fr R fr1) (by rw [a3 0 (by decide)]; exact hB) (by rw [a3 0 (by decide)]; exact hN) (fun i hi => by rw [a3 24 (by decide)]; exact h24 i hi) (fun i g x d hi hg hx hd => by
        by_cases e : i = j
        · rw [e, hf] at hg
          have : g = f := by omega
          subst this
          exact a2 x d hx hd
        · have ne : g ≠ f := fun e2 => by
            have := (r6 i j (by omega) (by omega) e).1 (by omega)
            omega
          rw [a4 _ (by have := R.2.2.1; omega)]
          exact h i g x d (by omega) hg hx hd)
      exact ⟨z2, s2, b1, b2, fun q hq => by rw [b3 q hq, a3 q hq]⟩
theorem CI_bd1 {n J q : Nat} {a : Nat → Nat → Int} {K : Int} (hK : 1 ≤ K) {st : Nat × Int × (Nat → Nat → Int) × (Nat → Int)} (C : CI n J q a K st) {kx : Nat} (hk : st.1 ≤ kx) {j : Nat} (hj : j < J) {A : Int} (hA : nv n (a j) ≤ A) {r : Nat} (hr : r < n) : st.2.2.1 r j * st.2.2.1 r j ≤ A * K ^ kx := by
  obtain ⟨c, u, z, pc, B, _⟩ := C
  have m1 := pow_mono hK hk
  have m2 := pow_mono hK (show st.1 - 1 ≤ kx by omega)
  have A0 : 0 ≤ A := Int.le_trans (nv_nn n (a j)) hA
  have b := bI_bd B hj hA
  have n1 := Int.mul_le_mul_of_nonneg_left m1 A0
  have n2 := Int.mul_le_mul_of_nonneg_left m2 A0
  by_cases h : st.1 ≤ r
  · have := b.2.1 r h hr
    omega
  · have := b.2.2 r (by omega)
    omega
theorem Tv_nv {s3 s8 s7 : zZ} {ks : List Int} (R : ND s3 s8 ks s7) {B : Nat} (hB : s7 0 25 = B) {v : Nat → Int} (hv : ∀ i, i < 8 → -180 ≤ v i ∧ v i ≤ 180) {but : Int} {n : Nat} (hn : n ≤ 8) : (∀ j, j < B → nv n (fun r => Tv s3 s8 B v but r j) ≤ 100) ∧ nv n (fun r => Tv s3 s8 B v but r B) ≤ 259200 := by
  constructor
  · intro j hj
    by_cases g : s8 j 4 ≠ 0 ∨ (j : Int) = but
    · rw [nv_congr (w := fun _ => 0) n (fun r _ => by unfold Tv; rw [if_pos hj, if_pos g])]
      have := nv_tot (v := fun _ => 0) (w := fun _ => 0) n (fun _ _ => by decide)
      rw [tot_zero n (fun _ _ => rfl)] at this
      omega
    · rw [nv_congr (w := fun r => mA s3 s8 j r) n (fun r _ => by unfold Tv; rw [if_pos hj, if_neg g])]
      exact mA_nv R (by omega) n
  · have h := nv_tot (v := fun r => Tv s3 s8 B v but r B) (w := fun _ => 32400) n (fun r hr => by
      unfold Tv
      rw [if_neg (Nat.lt_irrefl _)]
      have h := hv r (by omega)
      have e : - v r * - v r = v r * v r := by rw [Int.neg_mul_neg]
      rw [e]
      rcases Int.le_total 0 (v r) with g | g
      · have := Int.mul_le_mul h.2 h.2 g (by decide)
        omega
      · have := Int.mul_le_mul (show - v r ≤ 180 by omega) (show - v r ≤ 180 by omega) (by omega) (by decide)
        omega)
    have c : ∀ n : Nat, tot (fun _ => (32400 : Int)) n = 32400 * n := by
      intro n
      induction n with
      | zero => rfl
      | succ n ih =>
        show tot (fun _ => (32400 : Int)) n + 32400 = _
        omega
    rw [c] at h
    omega
