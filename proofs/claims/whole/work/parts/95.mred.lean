/-! the reference's tables: dividing a row, clearing -/
def gl (v : Nat → Int) : Nat → Nat
  | 0 => 0
  | c + 1 => Int.gcd (gl v c : Nat) (v c)
theorem gl_dvd (v : Nat → Int) : ∀ n j : Nat, j < n → ((gl v n : Nat) : Int) ∣ v j := by
  intro n
  induction n with
  | zero => intro j h; omega
  | succ n ih =>
    intro j h
    show ((Int.gcd (gl v n : Nat) (v n) : Nat) : Int) ∣ v j
    by_cases q : j = n
    · rw [q]; exact Int.gcd_dvd_right _ _
    · exact Int.dvd_trans (Int.gcd_dvd_left _ _) (ih j (by omega))
theorem gl_le {v : Nat → Int} {M : Nat} : ∀ n : Nat, (∀ j, j < n → (v j).natAbs ≤ M) → gl v n ≤ M := by
  intro n
  induction n with
  | zero => intro _; exact Nat.zero_le _
  | succ n ih =>
    intro h
    have a := ih (fun j hj => h j (by omega))
    have b := h n (by omega)
    show Int.gcd (gl v n : Nat) (v n) ≤ M
    by_cases q : v n = 0
    · rw [q, Int.gcd_zero_right]
      omega
    · have := Nat.le_of_dvd (by omega) (Int.gcd_dvd_natAbs_right ((gl v n : Nat) : Int) (v n))
      omega
theorem gl_all {v : Nat → Int} {d t : Int} : ∀ n : Nat, (∀ j, j < n → d ∣ t * v j) → d ∣ t * (gl v n : Nat) := by
  intro n
  induction n with
  | zero => intro _; exact ⟨0, by show t * 0 = _; omega⟩
  | succ n ih =>
    intro h
    have a := ih (fun j hj => h j (by omega))
    have b := h n (by omega)
    show d ∣ t * ((Int.gcd (gl v n : Nat) (v n) : Nat) : Int)
    have c := Int.dvd_coe_gcd a b
    rw [Int.gcd_mul_left] at c
    have e : ((t.natAbs * Int.gcd (gl v n : Nat) (v n) : Nat) : Int) = t * (Int.gcd (gl v n : Nat) (v n) : Nat) ∨ ((t.natAbs * Int.gcd (gl v n : Nat) (v n) : Nat) : Int) = - (t * (Int.gcd (gl v n : Nat) (v n) : Nat)) := by
      rw [Int.natCast_mul]
      rcases Int.natAbs_eq t with h | h
      · refine Or.inl ?_
        rw [← h]
      · refine Or.inr ?_
        rw [show ((t.natAbs : Nat) : Int) = -t by omega, Int.neg_mul]
    rcases e with e | e
    · rw [e] at c; exact c
    · rw [e] at c; exact (Int.dvd_neg).mp c
theorem gl_zero {v : Nat → Int} : ∀ n : Nat, gl v n = 0 → ∀ j, j < n → v j = 0 := by
  intro n h j hj
  have := gl_dvd v n j hj
  rw [h] at this
  exact Int.zero_dvd.mp this
theorem e_dv5 {s : zZ} {r all : Nat} (hr : r < 16) (ha : all ≤ 20) (hv : ∀ j, j < all → -9223372036854775807 ≤ s 22 (20 * r + j) ∧ s 22 (20 * r + j) ≤ 9223372036854775807) : ∀ (m c f : Nat), c + m = all → m + 1 ≤ f → ∃ z, d_X12_divideRow_5 s r all f (gl (fun j => s 22 (20 * r + j)) c : Nat) c = some (((gl (fun j => s 22 (20 * r + j)) all : Nat) : Int), z) := by
  intro m
  induction m with
  | zero =>
    intro c f hc hf
    obtain ⟨f, rfl⟩ : ∃ g, f = g + 1 := ⟨f - 1, by omega⟩
    unfold d_X12_divideRow_5
    have : c = all := by omega
    subst this
    rw [if_pos (by omega), if_pos (by omega)]
    exact ⟨_, rfl⟩
  | succ m ih =>
    intro c f hc hf
    obtain ⟨f, rfl⟩ : ∃ g, f = g + 1 := ⟨f - 1, by omega⟩
    unfold d_X12_divideRow_5
    have e1 : (20 * (r : Int) + c).toNat = 20 * r + c := by omega
    have e3 : ((c : Int) + 1) = ((c + 1 : Nat) : Int) := by omega
    have g := gl_le (v := fun j => s 22 (20 * r + j)) (M := 9223372036854775807) c (fun j hj => by have := hv j (by omega); show (s 22 (20 * r + j)).natAbs ≤ _; omega)
    rw [if_pos (by omega), if_neg (by omega), if_pos (by omega), e1, e_common (by omega) (hv c (by omega)), Option.bind_some, e3]
    exact ih (c + 1) f (by omega) (by omega)
theorem e_dv37 {r all : Nat} (hr : r < 16) (ha : all ≤ 20) {G : Int} (hG : 1 < G ∧ G ≤ 9223372036854775807) {v : Nat → Int} (hv : ∀ j, j < all → zrl (v j)) : ∀ (m c f : Nat) (s : zZ), c + m = all → m + 1 ≤ f → (∀ j, j < c → s 22 (20 * r + j) = (v j).tdiv G) → (∀ j, c ≤ j → j < all → s 22 (20 * r + j) = v j) → ∃ z s', d_X12_divideRow_37 r all G f c s = some (z, s') ∧ (∀ q, q ≠ 22 → s' q = s q) ∧ (∀ i, (i < 20 * r ∨ 20 * r + all ≤ i) → s' 22 i = s 22 i) ∧ ∀ j, j < all → s' 22 (20 * r + j) = (v j).tdiv G := by
  intro m
  induction m with
  | zero =>
    intro c f s hc hf h1 h2
    obtain ⟨f, rfl⟩ : ∃ g, f = g + 1 := ⟨f - 1, by omega⟩
    unfold d_X12_divideRow_37
    rw [if_pos (by omega), if_pos (by omega)]
    exact ⟨_, _, rfl, fun _ _ => rfl, fun _ _ => rfl, fun j hj => h1 j (by omega)⟩
  | succ m ih =>
    intro c f s hc hf h1 h2
    obtain ⟨f, rfl⟩ : ∃ g, f = g + 1 := ⟨f - 1, by omega⟩
    unfold d_X12_divideRow_37
    have e1 : (20 * (r : Int) + c).toNat = 20 * r + c := by omega
    have e3 : ((c : Int) + 1) = ((c + 1 : Nat) : Int) := by omega
    have z := hv c (by omega)
    have e := h2 c (Nat.le_refl _) (by omega)
    simp only [e1, e3, e]
    rw [if_pos (by omega), if_neg (by omega), if_pos (by omega), if_neg (by omega), if_pos (by omega), if_pos ⟨z, by omega, by omega⟩, if_pos (by omega)]
    have u : ∀ i, upz s 22 (20 * r + c) ((v c).tdiv G) 22 i = if i = 20 * r + c then (v c).tdiv G else s 22 i := fun i => by rw [upz_at, if_pos rfl]
    obtain ⟨z, s', a1, a2, a3, a4⟩ := ih (c + 1) f (upz s 22 (20 * r + c) ((v c).tdiv G)) (by omega) (by omega) (fun j hj => by
      rw [u]
      by_cases q : j = c
      · rw [if_pos (by omega), q]
      · rw [if_neg (by omega)]
        exact h1 j (by omega)) (fun j x y => by rw [u, if_neg (by omega)]; exact h2 j (by omega) y)
    exact ⟨z, s', a1, fun q hq => by rw [a2 q hq, upz_ne _ _ _ _ hq], fun i hi => by rw [a3 i hi, u, if_neg (by omega)], a4⟩
/-- a row divided by what its numbers share: in proportion, and shared by nothing more -/
theorem e_divide {s : zZ} {r all : Nat} (hr : r < 16) (ha : all ≤ 20) (hv : ∀ j, j < all → -9223372036854775807 ≤ s 22 (20 * r + j) ∧ s 22 (20 * r + j) ≤ 9223372036854775807) : ∃ s', d_X12_divideRow s r all = some s' ∧ (∀ q, q ≠ 22 → s' q = s q) ∧ (∀ i, (i < 20 * r ∨ 20 * r + all ≤ i) → s' 22 i = s 22 i) ∧ ∃ G : Int, G ≠ 0 ∧ (∀ j, j < all → G * s' 22 (20 * r + j) = s 22 (20 * r + j)) ∧ ((∀ j, j < all → s' 22 (20 * r + j) = 0) ∨ ∀ d t : Int, (∀ j, j < all → d ∣ t * s' 22 (20 * r + j)) → d ∣ t) := by
  obtain ⟨z, a1⟩ := e_dv5 hr ha hv all 0 zF (by omega) (by unfold zF; omega)
  rw [show (((gl (fun j => s 22 (20 * r + j)) 0 : Nat) : Int)) = 0 from rfl, show ((0 : Nat) : Int) = 0 from rfl] at a1
  have gb := gl_le (v := fun j => s 22 (20 * r + j)) (M := 9223372036854775807) all (fun j hj => by have := hv j hj; show (s 22 (20 * r + j)).natAbs ≤ _; omega)
  have gd := gl_dvd (fun j => s 22 (20 * r + j)) all
  have ga := fun d t => gl_all (v := fun j => s 22 (20 * r + j)) (d := d) (t := t) all
  have gz := gl_zero (v := fun j => s 22 (20 * r + j)) all
  unfold d_X12_divideRow
  rw [a1, Option.bind_some]
  dsimp only
  generalize gl (fun j => s 22 (20 * r + j)) all = g at *
  by_cases q : 1 < g
  · obtain ⟨z2, s', b1, b2, b3, b4⟩ := e_dv37 hr ha (G := (g : Int)) (by omega) (v := fun j => s 22 (20 * r + j)) (fun j hj => by have := hv j hj; show zrl (s 22 (20 * r + j)); omega) all 0 zF s (by omega) (by unfold zF; omega) (fun j hj => by omega) (fun j _ hj => rfl)
    rw [show ((0 : Nat) : Int) = 0 from rfl] at b1
    rw [b1]
    have ex : ∀ j, j < all → (g : Int) * s' 22 (20 * r + j) = s 22 (20 * r + j) := fun j hj => by
      rw [b4 j hj]
      exact Int.mul_tdiv_cancel' (gd j hj)
    refine ⟨s', rfl, b2, b3, g, by omega, ex, Or.inr (fun d t h => ?_)⟩
    have k : (g : Int) * d ∣ t * g := by
      refine ga (g * d) t (fun j hj => ?_)
      show (g : Int) * d ∣ t * s 22 (20 * r + j)
      rw [← ex j hj, ← Int.mul_assoc, Int.mul_comm t, Int.mul_assoc]
      exact Int.mul_dvd_mul_left _ (h j hj)
    rw [Int.mul_comm t] at k
    exact Int.dvd_of_mul_dvd_mul_left (by omega) k
  · have st : ∃ z2, d_X12_divideRow_37 r all (g : Int) zF 0 s = some (z2, s) := by
      obtain ⟨f, hf⟩ : ∃ f, zF = f + 1 := ⟨99999, rfl⟩
      rw [hf]
      unfold d_X12_divideRow_37
      by_cases q2 : (all : Int) ≤ 0
      · rw [if_pos (by omega), if_pos q2]
        exact ⟨_, rfl⟩
      · rw [if_pos (by omega), if_neg q2, if_pos (by omega), if_pos (by omega)]
        exact ⟨_, rfl⟩
    obtain ⟨z2, hz2⟩ := st
    rw [hz2]
    refine ⟨s, rfl, fun _ _ => rfl, fun _ _ => rfl, 1, by decide, fun j _ => Int.one_mul _, ?_⟩
    by_cases q0 : g = 0
    · exact Or.inl (fun j hj => gz q0 j hj)
    · refine Or.inr (fun d t h => ?_)
      have := ga d t h
      rw [show (g : Int) = 1 by omega, Int.mul_one] at this
      exact this
theorem e_rd141 {rows cols c pv by_ p : Int} {all row k : Nat} (hr : row < 16) (hk : k < 16) (hn : row ≠ k) (ha : all ≤ 20) {v w : Nat → Int} : ∀ (m j0 f : Nat) (s : zZ), j0 + m = all → m + 1 ≤ f → s 0 33 = k → (∀ j, j < all → s 22 (20 * k + j) = w j) → (∀ j, j < j0 → s 22 (20 * row + j) = v j * p - w j * by_) → (∀ j, j0 ≤ j → j < all → s 22 (20 * row + j) = v j) → ∃ z s', d_X12_reduce_141 rows cols all c pv row by_ p f j0 s = some (z, s') ∧ (∀ q, q ≠ 22 → s' q = s q) ∧ (∀ i, (i < 20 * row ∨ 20 * row + all ≤ i) → s' 22 i = s 22 i) ∧ ∀ j, j < all → s' 22 (20 * row + j) = v j * p - w j * by_ := by
  intro m
  induction m with
  | zero =>
    intro j0 f s hj hf h0 hw h1 h2
    obtain ⟨f, rfl⟩ : ∃ g, f = g + 1 := ⟨f - 1, by omega⟩
    unfold d_X12_reduce_141
    rw [if_pos (by omega), if_pos (by omega)]
    exact ⟨_, _, rfl, fun _ _ => rfl, fun _ _ => rfl, fun j hj => h1 j (by omega)⟩
  | succ m ih =>
    intro j0 f s hj hf h0 hw h1 h2
    obtain ⟨f, rfl⟩ : ∃ g, f = g + 1 := ⟨f - 1, by omega⟩
    unfold d_X12_reduce_141
    have e1 : (20 * (row : Int) + j0).toNat = 20 * row + j0 := by omega
    have e2 : (20 * (k : Int) + j0).toNat = 20 * k + j0 := by omega
    have e3 : ((j0 : Int) + 1) = ((j0 + 1 : Nat) : Int) := by omega
    simp only [h0, e1, e2, e3, h2 j0 (Nat.le_refl _) (by omega), hw j0 (by omega)]
    rw [if_pos (by omega), if_neg (by omega), if_pos (by omega), if_pos (by omega), if_pos (by omega)]
    have u : ∀ i, upz s 22 (20 * row + j0) (v j0 * p - w j0 * by_) 22 i = if i = 20 * row + j0 then v j0 * p - w j0 * by_ else s 22 i := fun i => by rw [upz_at, if_pos rfl]
    obtain ⟨z, s', a1, a2, a3, a4⟩ := ih (j0 + 1) f (upz s 22 (20 * row + j0) (v j0 * p - w j0 * by_)) (by omega) (by omega) (by rw [upz_ne _ _ _ _ (by decide)]; exact h0) (fun j hj => by rw [u, if_neg (by omega)]; exact hw j hj) (fun j hj => by
      rw [u]
      by_cases q : j = j0
      · rw [if_pos (by omega), q]
      · rw [if_neg (by omega)]
        exact h1 j (by omega)) (fun j x y => by rw [u, if_neg (by omega)]; exact h2 j (by omega) y)
    exact ⟨z, s', a1, fun q hq => by rw [a2 q hq, upz_ne _ _ _ _ hq], fun i hi => by rw [a3 i hi, u, if_neg (by omega)], a4⟩
theorem e_swr {a b : Nat} (ha : a < 16) (hb : b < 16) : ∀ (m c f : Nat) (s t : zZ), c + m = 20 → m + 1 ≤ f → (∀ q, q ≠ 22 → s q = t q) → (∀ i, s 22 i = if i / 20 = a ∧ i % 20 < c then t 22 (20 * b + i % 20) else if i / 20 = b ∧ i % 20 < c then t 22 (20 * a + i % 20) else t 22 i) → ∃ z s', d_X12_swapRows_2 a b f c s = some (z, s') ∧ (∀ q, q ≠ 22 → s' q = t q) ∧ ∀ i, s' 22 i = if i / 20 = a then t 22 (20 * b + i % 20) else if i / 20 = b then t 22 (20 * a + i % 20) else t 22 i := by
  intro m
  induction m with
  | zero =>
    intro c f s t hc hf h1 h2
    obtain ⟨f, rfl⟩ : ∃ g, f = g + 1 := ⟨f - 1, by omega⟩
    unfold d_X12_swapRows_2
    rw [if_pos (by omega), if_pos (by omega)]
    refine ⟨_, _, rfl, h1, fun i => ?_⟩
    rw [h2 i]
    have e1 : (i / 20 = a ∧ i % 20 < c) = (i / 20 = a) := by apply propext; omega
    have e2 : (i / 20 = b ∧ i % 20 < c) = (i / 20 = b) := by apply propext; omega
    simp only [e1, e2]
  | succ m ih =>
    intro c f s t hc hf h1 h2
    obtain ⟨f, rfl⟩ : ∃ g, f = g + 1 := ⟨f - 1, by omega⟩
    unfold d_X12_swapRows_2
    have e1 : (20 * (a : Int) + c).toNat = 20 * a + c := by omega
    have e2 : (20 * (b : Int) + c).toNat = 20 * b + c := by omega
    have e3 : ((c : Int) + 1) = ((c + 1 : Nat) : Int) := by omega
    simp only [e1, e2, e3]
    rw [if_pos (by omega), if_neg (by omega), if_pos (by omega), if_pos (by omega), if_pos (by omega), if_pos (by omega)]
    refine ih (c + 1) f _ t (by omega) (by omega) (fun q hq => by rw [upz_ne _ _ _ _ hq, upz_ne _ _ _ _ hq]; exact h1 q hq) (fun i => ?_)
    have ra : s 22 (20 * a + c) = t 22 (20 * a + c) := by
      rw [h2]
      have y1 : (20 * a + c) % 20 = c := by omega
      rw [if_neg (by omega), if_neg (by omega)]
    have rb : s 22 (20 * b + c) = t 22 (20 * b + c) := by
      rw [h2]
      rw [if_neg (by omega), if_neg (by omega)]
    rw [upz_at, if_pos rfl, upz_at, if_pos rfl, ra, rb]
    by_cases q1 : i = 20 * b + c
    · rw [if_pos q1]
      by_cases ab : a = b
      · rw [if_pos (by omega), q1]
        congr 1
        omega
      · rw [if_neg (by omega), if_pos (by omega), q1]
        congr 1
        omega
    · rw [if_neg q1]
      by_cases q2 : i = 20 * a + c
      · rw [if_pos q2, if_pos (by omega), q2]
        congr 1
        omega
      · rw [if_neg q2, h2 i]
        have e1 : (i / 20 = a ∧ i % 20 < c) = (i / 20 = a ∧ i % 20 < c + 1) := by apply propext; omega
        have e2 : (i / 20 = b ∧ i % 20 < c) = (i / 20 = b ∧ i % 20 < c + 1) := by apply propext; omega
        simp only [e1, e2]
