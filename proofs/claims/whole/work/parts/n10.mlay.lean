/-! the net: what the reference lays -/
def lsm (s7 : zZ) (set : Nat) (k n : Nat) : Int := tot (fun c => if set / 2 ^ c % 2 = 1 then s7 21 (8 * c + k) else 0) n
theorem e_cy17 {set k : Nat} (hs : set < 64) (hk : k < 8) {s7 : zZ} : ∀ (m c f : Nat) (s : zZ), c + m = 6 → m + 1 ≤ f → (∀ q, q ≠ 24 → s q = s7 q) → s 24 k = lsm s7 set k c → ∃ z s', d_X12_carry_17 set k f c s = some (z, s') ∧ (∀ q, q ≠ 24 → s' q = s q) ∧ (∀ i, i ≠ k → s' 24 i = s 24 i) ∧ s' 24 k = lsm s7 set k 6 := by
  intro m
  induction m with
  | zero =>
    intro c f s hc hf hq h
    obtain ⟨f, rfl⟩ : ∃ g, f = g + 1 := ⟨f - 1, by omega⟩
    unfold d_X12_carry_17
    have : c = 6 := by omega
    subst this
    rw [if_pos (by omega), if_pos (by omega)]
    exact ⟨_, _, rfl, fun _ _ => rfl, fun _ _ => rfl, h⟩
  | succ m ih =>
    intro c f s hc hf hq h
    obtain ⟨f, rfl⟩ : ∃ g, f = g + 1 := ⟨f - 1, by omega⟩
    unfold d_X12_carry_17
    have e3 : ((c : Int) + 1) = ((c + 1 : Nat) : Int) := by omega
    have e4 : ((set : Int) / 2 ^ c % 2) = ((set / 2 ^ c % 2 : Nat) : Int) := by simp
    have e5 : (8 * (c : Int) + k).toNat = 8 * c + k := by omega
    simp only [Int.toNat_natCast, e3, e4, e5]
    rw [if_pos (by omega), if_neg (by omega), if_pos (by omega), if_pos (by omega), if_pos (by omega)]
    have st : ∀ v : Int, v = lsm s7 set k (c + 1) → ∃ z s', d_X12_carry_17 set k f (c + 1 : Nat) (upz s 24 k v) = some (z, s') ∧ (∀ q, q ≠ 24 → s' q = s q) ∧ (∀ i, i ≠ k → s' 24 i = s 24 i) ∧ s' 24 k = lsm s7 set k 6 := by
      intro v hv
      obtain ⟨z, s', a1, a2, a3, a4⟩ := ih (c + 1) f (upz s 24 k v) (by omega) (by omega) (fun q h0 => by rw [upz_ne _ _ _ _ h0]; exact hq q h0) (by rw [upz_hit]; exact hv)
      exact ⟨z, s', a1, fun q h0 => by rw [a2 q h0, upz_ne _ _ _ _ h0], fun i hi => by rw [a3 i hi, upz_at, if_pos rfl, if_neg hi], a4⟩
    have sm : lsm s7 set k (c + 1) = lsm s7 set k c + (if set / 2 ^ c % 2 = 1 then s7 21 (8 * c + k) else 0) := rfl
    by_cases g : set / 2 ^ c % 2 = 1
    · have S := st (s 24 k + s 21 (8 * c + k)) (by rw [sm, if_pos g, h, hq 21 (by decide)])
      clear st ih
      rw [if_neg (by omega), if_pos (by omega), if_pos (by omega)]
      exact S
    · have S := st (s 24 k + 0) (by rw [sm, if_neg g, h])
      clear st ih
      rw [if_pos (by omega), if_pos (by omega)]
      exact S
theorem e_cy2 {set : Nat} (hs : set < 64) {s7 : zZ} : ∀ (m k f : Nat) (s : zZ), k + m = 8 → m + 1 ≤ f → (∀ q, q ≠ 24 → s q = s7 q) → (∀ i, i < k → s 24 i = lsm s7 set i 6) → ∃ z s', d_X12_carry_2 set f k s = some (z, s') ∧ (∀ q, q ≠ 24 → s' q = s q) ∧ ∀ i, i < 8 → s' 24 i = lsm s7 set i 6 := by
  intro m
  induction m with
  | zero =>
    intro k f s hk hf hq h
    obtain ⟨f, rfl⟩ : ∃ g, f = g + 1 := ⟨f - 1, by omega⟩
    unfold d_X12_carry_2
    rw [if_pos (by omega), if_pos (by omega)]
    exact ⟨_, _, rfl, fun _ _ => rfl, fun i hi => h i (by omega)⟩
  | succ m ih =>
    intro k f s hk hf hq h
    obtain ⟨f, rfl⟩ : ∃ g, f = g + 1 := ⟨f - 1, by omega⟩
    unfold d_X12_carry_2
    have e3 : ((k : Int) + 1) = ((k + 1 : Nat) : Int) := by omega
    obtain ⟨z1, s1, a1, a2, a3, a4⟩ := e_cy17 hs (show k < 8 by omega) (s7 := s7) 6 0 zF (upz s 24 k 0) (by omega) (by unfold zF; omega) (fun q h0 => by rw [upz_ne _ _ _ _ h0]; exact hq q h0) (by rw [upz_hit]; rfl)
    rw [show ((0 : Nat) : Int) = 0 from rfl] at a1
    rw [if_pos (by omega), if_neg (by omega), if_pos (by omega), Int.toNat_natCast, a1, Option.bind_some, e3]
    dsimp only
    obtain ⟨z, s2, b1, b2, b3⟩ := ih (k + 1) f s1 (by omega) (by omega) (fun q h0 => by rw [a2 q h0, upz_ne _ _ _ _ h0]; exact hq q h0) (fun i hi => by
      by_cases e : i = k
      · rw [e]; exact a4
      · rw [a3 i e, upz_at, if_pos rfl, if_neg e]
        exact h i (by omega))
    exact ⟨z, s2, b1, fun q h0 => by rw [b2 q h0, a2 q h0, upz_ne _ _ _ _ h0], b3⟩
theorem e_carry {set : Nat} (hs : set < 64) (s7 : zZ) : ∃ s', d_X12_carry s7 set = some s' ∧ (∀ q, q ≠ 24 → s' q = s7 q) ∧ ∀ i, i < 8 → s' 24 i = lsm s7 set i 6 := by
  obtain ⟨z, s', a1, a2, a3⟩ := e_cy2 hs (s7 := s7) 8 0 zF s7 (by omega) (by unfold zF; omega) (fun _ _ => rfl) (fun i hi => by omega)
  unfold d_X12_carry
  rw [show ((0 : Nat) : Int) = 0 from rfl] at a1
  rw [a1]
  exact ⟨s', rfl, a2, a3⟩
theorem lsm_rng {s3 s8 s7 : zZ} {ks : List Int} (R : ND s3 s8 ks s7) {set k : Nat} (hk : k < 8) : -180 ≤ lsm s7 set k 6 ∧ lsm s7 set k 6 ≤ 180 := by
  have r10 := R.2.2.2.2.2.2.2.2.2.1
  have b : ∀ n : Nat, n ≤ 6 → -30 * (n : Int) ≤ lsm s7 set k n ∧ lsm s7 set k n ≤ 30 * n := by
    intro n
    induction n with
    | zero => intro _; exact ⟨Int.le_refl _, Int.le_refl _⟩
    | succ n ih =>
      intro h
      have a := ih (by omega)
      have L := r10 n k (by omega) hk
      have e : lsm s7 set k (n + 1) = lsm s7 set k n + (if set / 2 ^ n % 2 = 1 then s7 21 (8 * n + k) else 0) := rfl
      rw [e]
      split <;> omega
  have := b 6 (Nat.le_refl _)
  omega
