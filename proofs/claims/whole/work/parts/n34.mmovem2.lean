/-! the reference's move -/
def pi_ (s : zZ) (x : Nat) : Int := s 22 (20 * (s 23 x).toNat + x)
def ro_ (s : zZ) (c x : Nat) : Int := s 22 (20 * (s 23 x).toNat + c)
def HV (s : zZ) (N c : Nat) (D : Int) (ta : Nat → Int) : Prop := (c < N ∧ N ≤ 8) ∧ 2 * s 0 21 = N ∧ s 23 c = -9 ∧ D ≠ 0 ∧ wi D 113137086 ∧ ∀ j, j < N → j ≠ c → 0 ≤ s 23 j ∧ s 23 j < 16 ∧ pi_ s j ≠ 0 ∧ pi_ s j ∣ 60 * D ∧ wi (ro_ s c j) 113137086 ∧ wi (pi_ s j) 1600000000 ∧ D * ro_ s c j = pi_ s j * ta j
theorem e_159 {s : zZ} {N c : Nat} {D : Int} {ta : Nat → Int} (H : HV s N c D ta) {rows : Int} : ∀ (m j f : Nat), j + m = c → m + 1 ≤ f → d_X12_findMove_159 s rows f j = some (c : Int) := by
  obtain ⟨h1, h2, h3, h4, h5, h6⟩ := H
  intro m
  induction m with
  | zero =>
    intro j f hj hf
    obtain ⟨f, rfl⟩ : ∃ g, f = g + 1 := ⟨f - 1, by omega⟩
    unfold d_X12_findMove_159
    rw [Int.toNat_natCast, show j = c by omega, h3, if_pos (by omega), if_pos (by decide), if_pos rfl]
  | succ m ih =>
    intro j f hj hf
    obtain ⟨f, rfl⟩ : ∃ g, f = g + 1 := ⟨f - 1, by omega⟩
    have g := h6 j (by omega) (by omega)
    have i := ih (j + 1) f (by omega) (by omega)
    clear ih
    unfold d_X12_findMove_159
    rw [Int.toNat_natCast, if_pos (by omega), if_pos (by omega), if_neg (by omega), show ((j : Int) + 1) = ((j + 1 : Nat) : Int) by omega]
    exact i
theorem lcm_step {K p : Nat} (hK : 1 ≤ K) (hp : 1 ≤ p) {M : Int} (h1 : (K : Int) ∣ M) (h2 : (p : Int) ∣ M) : ∃ K' : Nat, (K : Int).tdiv ((Int.gcd K p : Nat) : Int) * (p : Int) = (K' : Int) ∧ 1 ≤ K' ∧ (K' : Int) ∣ M ∧ K ∣ K' ∧ p ∣ K' := by
  obtain ⟨a, ha⟩ := Nat.gcd_dvd_left K p
  have gp : 0 < Nat.gcd K p := Nat.gcd_pos_of_pos_left p (by omega)
  have eg : Int.gcd K p = Nat.gcd K p := rfl
  have l : Nat.lcm K p = a * p := by
    have := Nat.gcd_mul_lcm K p
    refine Nat.eq_of_mul_eq_mul_left gp ?_
    rw [this, ← Nat.mul_assoc, ← ha]
  have q : (K : Int).tdiv ((Int.gcd K p : Nat) : Int) = (a : Int) := by
    rw [eg]
    have e : (K : Int) = ((Nat.gcd K p : Nat) : Int) * (a : Int) := by
      rw [← Int.natCast_mul, ← ha]
    rw [e]
    exact Int.mul_tdiv_cancel_left _ (by omega)
  refine ⟨a * p, by rw [q, Int.natCast_mul], ?_, ?_, ?_, ?_⟩
  · have a0 : a ≠ 0 := fun h => by
      rw [h, Nat.mul_zero] at ha
      omega
    have := Nat.mul_le_mul (show 1 ≤ a by omega) hp
    omega
  · rw [← l]
    exact Int.ofNat_dvd_left.mpr (Nat.lcm_dvd (Int.ofNat_dvd_left.mp h1) (Int.ofNat_dvd_left.mp h2))
  · rw [← l]
    exact Nat.dvd_lcm_left K p
  · exact Nat.dvd_mul_left p a
theorem K_bd {K : Nat} {D : Int} (h : (K : Int) ∣ 60 * D) (h0 : D ≠ 0) (hD : wi D 113137086) : K ≤ 6788225160 := by
  have h1 := Int.ofNat_dvd_left.mp h
  have h2 := Nat.le_of_dvd (show 0 < (60 * D).natAbs by omega) h1
  unfold wi at hD
  omega
theorem e_181 {s : zZ} {N c : Nat} {D : Int} {ta : Nat → Int} (H : HV s N c D ta) {rows : Int} : ∀ (m j f K : Nat), j + m = N → m + 1 ≤ f → 1 ≤ K → (K : Int) ∣ 60 * D → (∀ x, x < j → x ≠ c → pi_ s x ∣ (K : Int)) → ∃ (z : Int) (K' : Nat), d_X12_findMove_181 s rows c f K j = some ((K' : Int), z) ∧ 1 ≤ K' ∧ (K' : Int) ∣ 60 * D ∧ ∀ x, x < N → x ≠ c → pi_ s x ∣ (K' : Int) := by
  obtain ⟨h1, h2, h3, h4, h5, h6⟩ := H
  intro m
  induction m with
  | zero =>
    intro j f K hj hf hK hd h
    obtain ⟨f, rfl⟩ : ∃ g, f = g + 1 := ⟨f - 1, by omega⟩
    unfold d_X12_findMove_181
    rw [h2, if_pos (by omega), if_pos (by omega)]
    exact ⟨_, K, rfl, hK, hd, fun x hx => h x (by omega)⟩
  | succ m ih =>
    intro j f K hj hf hK hd h
    obtain ⟨f, rfl⟩ : ∃ g, f = g + 1 := ⟨f - 1, by omega⟩
    have e3 : ((j : Int) + 1) = ((j + 1 : Nat) : Int) := by omega
    by_cases jc : j = c
    · have i := ih (j + 1) f K (by omega) (by omega) hK hd (fun x hx hn => h x (by omega) hn)
      clear ih
      have h3' : s 23 j = -9 := by rw [jc]; exact h3
      unfold d_X12_findMove_181
      rw [h2, Int.toNat_natCast, if_pos (by omega), if_neg (by omega), if_pos (by omega), h3', if_pos (by decide), if_pos rfl, e3]
      exact i
    · obtain ⟨g1, g2, g3, g4, g5, g6, g7⟩ := h6 j (by omega) jc
      have Kb := K_bd hd h4 h5
      have e1 : (20 * s 23 j + (j : Int)).toNat = 20 * (s 23 j).toNat + j := by omega
      have pe : s 22 (20 * (s 23 j).toNat + j) = pi_ s j := rfl
      have pd : (((pi_ s j).natAbs : Nat) : Int) ∣ 60 * D := Int.natAbs_dvd.mpr g4
      obtain ⟨K', k1, k2, k3, k4, k5⟩ := lcm_step hK (p := (pi_ s j).natAbs) (by omega) hd pd
      have Kb' := K_bd k3 h4 h5
      have i := ih (j + 1) f K' (by omega) (by omega) k2 k3 (fun x hx hn => by
        by_cases e : x = j
        · rw [e]
          exact Int.natAbs_dvd.mp (Int.natCast_dvd_natCast.mpr k5)
        · exact Int.dvd_trans (h x (by omega) hn) (Int.natCast_dvd_natCast.mpr k4))
      clear ih
      unfold wi at g6
      have gb : Int.gcd K ((pi_ s j).natAbs : Nat) ≤ K := Nat.gcd_le_left _ (by omega)
      have gz : Int.gcd K ((pi_ s j).natAbs : Nat) ≠ 0 := Nat.pos_iff_ne_zero.mp (Nat.gcd_pos_of_pos_left _ (by omega))
      unfold d_X12_findMove_181
      rw [h2, Int.toNat_natCast, if_pos (by omega), if_neg (by omega), if_pos (by omega), if_pos (by omega), if_neg (by omega), if_pos (by omega), if_pos (by omega), e1, pe, e_size (by omega), Option.bind_some, e_common (by omega) (by omega), Option.bind_some, if_pos (by omega), k1, e3]
      exact i
def vM (s : zZ) (c : Nat) (K : Int) (j : Nat) : Int := if j = c then K else (- ro_ s c j * K).tdiv (pi_ s j)
theorem vM_rng {s : zZ} {N c : Nat} {D : Int} {ta : Nat → Int} (H : HV s N c D ta) {K : Nat} (hK : K ≤ 6788225160) : ∀ j, j < N → wi (vM s c K j) 1000000000000000000 ∧ (j ≠ c → -1000000000000000000 ≤ - ro_ s c j * (K : Int) ∧ - ro_ s c j * (K : Int) ≤ 1000000000000000000) := by
  obtain ⟨h1, h2, h3, h4, h5, h6⟩ := H
  intro j hj
  unfold vM
  by_cases e : j = c
  · rw [if_pos e]
    refine ⟨?_, fun h => absurd e h⟩
    unfold wi
    omega
  · rw [if_neg e]
    obtain ⟨g1, g2, g3, g4, g5, g6, g7⟩ := h6 j hj e
    unfold wi at g5
    have w := wi_mul2 (a := - ro_ s c j) (b := (K : Int)) (A := 113137086) (B := 6788225160) ⟨by omega, by omega⟩ ⟨by omega, by omega⟩
    unfold wi at w
    have b := Int.natAbs_tdiv_le_natAbs (- ro_ s c j * (K : Int)) (pi_ s j)
    refine ⟨?_, fun _ => by omega⟩
    unfold wi
    omega
theorem e_251 {s0 : zZ} {N c : Nat} {D : Int} {ta : Nat → Int} (H : HV s0 N c D ta) {rows : Int} {K : Nat} (hK : K ≤ 6788225160) : ∀ (m j f : Nat) (s : zZ), j + m = N → m + 1 ≤ f → (∀ q, q ≠ 25 → s q = s0 q) → (∀ x, x < j → s 25 x = vM s0 c K x) → ∃ z s', d_X12_findMove_251 rows c K f ((gl (vM s0 c K) j : Nat) : Int) j s = some (((gl (vM s0 c K) N : Nat) : Int), z, s') ∧ (∀ q, q ≠ 25 → s' q = s0 q) ∧ ∀ x, x < N → s' 25 x = vM s0 c K x := by
  have vr := vM_rng H hK
  obtain ⟨h1, h2, h3, h4, h5, h6⟩ := H
  intro m
  induction m with
  | zero =>
    intro j f s hj hf hs h
    obtain ⟨f, rfl⟩ : ∃ g, f = g + 1 := ⟨f - 1, by omega⟩
    unfold d_X12_findMove_251
    rw [hs 0 (by decide), h2, if_pos (by omega), if_pos (by omega), show j = N by omega]
    exact ⟨_, _, rfl, hs, fun x hx => h x (by omega)⟩
  | succ m ih =>
    intro j f s hj hf hs h
    obtain ⟨f, rfl⟩ : ∃ g, f = g + 1 := ⟨f - 1, by omega⟩
    have e3 : ((j : Int) + 1) = ((j + 1 : Nat) : Int) := by omega
    have gb := gl_le (v := vM s0 c K) (M := 1000000000000000000) j (fun x hx => by have := (vr x (by omega)).1; unfold wi at this; omega)
    have vj := vr j (by omega)
    have vj1 := vj.1
    unfold wi at vj1
    have eg : gl (vM s0 c K) (j + 1) = Int.gcd (gl (vM s0 c K) j : Nat) (vM s0 c K j) := rfl
    have hit : ∀ v : Int, upz s 25 j v 25 j = v := fun v => upz_hit _ _ _ _
    obtain ⟨z, s', a1, a2, a3⟩ := ih (j + 1) f (upz s 25 j (vM s0 c K j)) (by omega) (by omega) (fun q hq => by rw [upz_ne _ _ _ _ hq]; exact hs q hq) (fun x hx => by
      rw [upz_at, if_pos rfl]
      by_cases e : x = j
      · rw [if_pos e, e]
      · rw [if_neg e]
        exact h x (by omega))
    clear ih
    have cm : d_X12_common ((gl (vM s0 c K) j : Nat) : Int) (vM s0 c K j) = some ((gl (vM s0 c K) (j + 1) : Nat) : Int) := by
      rw [eg]
      exact e_common (by omega) (by omega)
    rw [d_X12_findMove_251, hs 0 (by decide), hs 22 (by decide), hs 23 (by decide), h2, Int.toNat_natCast, if_pos (by omega), if_neg (by omega), if_pos (by omega)]
    by_cases jc : j = c
    · have ve : vM s0 c K j = (K : Int) := if_pos jc
      rw [ve] at cm a1
      rw [if_neg (by omega), if_pos (by omega), if_pos (by omega), hit, cm, Option.bind_some, e3]
      exact ⟨z, s', a1, a2, a3⟩
    · obtain ⟨g1, g2, g3, g4, g5, g6, g7⟩ := h6 j (by omega) jc
      have e1 : (20 * s0 23 j + (j : Int)).toNat = 20 * (s0 23 j).toNat + j := by omega
      have e2 : (20 * s0 23 j + (c : Int)).toNat = 20 * (s0 23 j).toNat + c := by omega
      have pe : s0 22 (20 * (s0 23 j).toNat + j) = pi_ s0 j := rfl
      have re : s0 22 (20 * (s0 23 j).toNat + c) = ro_ s0 c j := rfl
      have ve : vM s0 c K j = (- ro_ s0 c j * (K : Int)).tdiv (pi_ s0 j) := if_neg jc
      have vb := vj.2 jc
      unfold wi at g6
      rw [if_pos (by omega), if_pos (by omega), if_pos (by omega), if_pos (by omega), if_pos (by omega), if_pos (by omega), if_pos (by omega), if_pos (by omega), e1, e2, pe, re, if_pos ⟨by omega, g3, by omega⟩, if_pos (by omega), if_pos (by omega), hit, ← ve, cm, Option.bind_some, e3]
      exact ⟨z, s', a1, a2, a3⟩
theorem e_357 {s : zZ} {rows b k v5 : Int} {v : Nat → Int} {i : Nat} (hi : i < 8) (hv : ∀ x, x ≤ i → s 25 x = v x ∧ wi (v x) 1000000000000000000) (h0 : ∀ x, x < i → v x = 0) (h1 : v i ≠ 0) : ∀ (m j f : Nat), j + m = i → m + 1 ≤ f → d_X12_findMove_357 s rows b k v5 f j = some (i : Int) := by
  intro m
  induction m with
  | zero =>
    intro j f hj hf
    obtain ⟨f, rfl⟩ : ∃ g, f = g + 1 := ⟨f - 1, by omega⟩
    have h := hv i (Nat.le_refl _)
    have h2 := h.2
    unfold wi at h2
    unfold d_X12_findMove_357
    rw [Int.toNat_natCast, show j = i by omega, h.1, if_pos (by omega), if_pos (by omega), if_pos h1]
  | succ m ih =>
    intro j f hj hf
    obtain ⟨f, rfl⟩ : ∃ g, f = g + 1 := ⟨f - 1, by omega⟩
    have h := hv j (by omega)
    have nx := ih (j + 1) f (by omega) (by omega)
    clear ih
    unfold d_X12_findMove_357
    rw [Int.toNat_natCast, h.1, h0 j (by omega), if_pos (by omega), if_pos (by decide), if_neg (by decide), show ((j : Int) + 1) = ((j + 1 : Nat) : Int) by omega]
    exact nx
theorem e_400 {N : Nat} (hN : N ≤ 8) {rows b k v7 dv : Int} (hd : dv ≠ 0) (hz : zrl dv) {v : Nat → Int} (hv : ∀ j, j < N → wi (v j) 1000000000000000000) : ∀ (m j f : Nat) (s : zZ), j + m = N → m + 1 ≤ f → 2 * s 0 21 = N → (∀ x, x < j → s 25 x = (v x).tdiv dv) → (∀ x, j ≤ x → x < N → s 25 x = v x) → ∃ z s', d_X12_findMove_400 rows b k dv v7 f j s = some (z, s') ∧ (∀ q, q ≠ 25 → s' q = s q) ∧ ∀ x, x < N → s' 25 x = (v x).tdiv dv := by
  intro m
  induction m with
  | zero =>
    intro j f s hj hf h2 h3 h4
    obtain ⟨f, rfl⟩ : ∃ g, f = g + 1 := ⟨f - 1, by omega⟩
    unfold d_X12_findMove_400
    rw [h2, if_pos (by omega), if_pos (by omega)]
    exact ⟨_, _, rfl, fun _ _ => rfl, fun x hx => h3 x (by omega)⟩
  | succ m ih =>
    intro j f s hj hf h2 h3 h4
    obtain ⟨f, rfl⟩ : ∃ g, f = g + 1 := ⟨f - 1, by omega⟩
    have e3 : ((j : Int) + 1) = ((j + 1 : Nat) : Int) := by omega
    have b := hv j (by omega)
    unfold wi at b
    have u : ∀ x, upz s 25 j ((v j).tdiv dv) 25 x = if x = j then (v j).tdiv dv else s 25 x := fun x => by rw [upz_at, if_pos rfl]
    obtain ⟨z, s', a1, a2, a3⟩ := ih (j + 1) f (upz s 25 j ((v j).tdiv dv)) (by omega) (by omega) (by rw [upz_ne _ _ _ _ (by decide)]; exact h2) (fun x hx => by
      rw [u]
      by_cases e : x = j
      · rw [if_pos e, e]
      · rw [if_neg e]
        exact h3 x (by omega)) (fun x x1 y => by rw [u, if_neg (by omega)]; exact h4 x (by omega) y)
    clear ih
    unfold d_X12_findMove_400
    rw [h2, if_pos (by omega), if_neg (by omega), if_pos (by omega), Int.toNat_natCast, h4 j (Nat.le_refl _) (by omega), if_pos ⟨by omega, hd, hz⟩, if_pos (by omega), e3]
    exact ⟨z, s', a1, fun q hq => by rw [a2 q hq, upz_ne _ _ _ _ hq], a3⟩
