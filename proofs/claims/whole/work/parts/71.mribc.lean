/-! the rib: the tables of the class -/
theorem e_sqB_in {n : Nat} (hn : n ≤ 4) {times : Int} (ht : zr times) {row : Nat} (hr : row < n) : ∀ (m c f : Nat) (s : zZ), c + m = n → m + 1 ≤ f → s 0 0 = ((n + 1 : Nat) : Int) → (∀ j, j < 6 → zr (s 31 j)) → ∃ z s', d_X5_addSquareB_13 times (row + 1 : Nat) f (c + 1 : Nat) s = some (z, s') ∧ (∀ q, q ≠ 3 + row → s' q = s q) ∧ ∀ j, s' (3 + row) j = if c ≤ j ∧ j < n then s (3 + row) j + times * s 31 (row + 1) * s 31 (j + 1) else s (3 + row) j := by
  intro m
  induction m with
  | zero =>
    intro c f s hc hf h0 hz
    obtain ⟨f, rfl⟩ : ∃ g, f = g + 1 := ⟨f - 1, by omega⟩
    unfold d_X5_addSquareB_13
    rw [h0, if_pos (by omega), if_pos (by omega)]
    exact ⟨_, _, rfl, fun _ _ => rfl, fun j => by rw [if_neg (by omega)]⟩
  | succ m ih =>
    intro c f s hc hf h0 hz
    obtain ⟨f, rfl⟩ : ∃ g, f = g + 1 := ⟨f - 1, by omega⟩
    unfold d_X5_addSquareB_13
    have e1 : (((c + 1 : Nat) : Int) - 1).toNat = c := by omega
    have e2 : (((row + 1 : Nat) : Int) - 1).toNat = row := by omega
    have e3 : (((c + 1 : Nat) : Int) + 1) = ((c + 1 + 1 : Nat) : Int) := by omega
    simp only [e1, e2, e3, Int.toNat_natCast, h0]
    rw [if_pos (by omega), if_neg (by omega), if_pos (by omega), if_pos (by omega), if_pos ht, if_pos (by omega), if_pos (hz _ (by omega)), if_pos (by omega), if_pos (hz _ (by omega)), if_pos (by omega)]
    obtain ⟨z, s', a1, a2, a3⟩ := ih (c + 1) f (upz s (3 + row) c (s (3 + row) c + times * s 31 (row + 1) * s 31 (c + 1))) (by omega) (by omega) (by rw [upz_ne _ _ _ _ (by omega)]; exact h0) (fun j hj => by rw [upz_ne _ _ _ _ (by omega)]; exact hz j hj)
    refine ⟨z, s', a1, fun q hq => by rw [a2 q hq, upz_ne _ _ _ _ hq], fun j => ?_⟩
    rw [a3 j, upz_at, if_pos rfl, upz_ne _ _ _ _ (show 31 ≠ 3 + row by omega)]
    by_cases q : j = c
    · subst q
      rw [if_neg (by omega), if_pos rfl, if_pos (by omega)]
    · rw [if_neg q]
      by_cases q2 : c + 1 ≤ j ∧ j < n
      · rw [if_pos q2, if_pos (by omega)]
      · rw [if_neg q2, if_neg (by omega)]
theorem e_sqB_out {n : Nat} (hn : n ≤ 4) {times : Int} (ht : zr times) : ∀ (m r f : Nat) (s : zZ), r + m = n → m + 1 ≤ f → s 0 0 = ((n + 1 : Nat) : Int) → (∀ j, j < 6 → zr (s 31 j)) → ∃ z s', d_X5_addSquareB_2 times f (r + 1 : Nat) s = some (z, s') ∧ (∀ q, q < 3 ∨ 7 ≤ q → s' q = s q) ∧ (∀ i, i < r → s' (3 + i) = s (3 + i)) ∧ ∀ i j, r ≤ i → i < n → j < n → s' (3 + i) j = s (3 + i) j + times * s 31 (i + 1) * s 31 (j + 1) := by
  intro m
  induction m with
  | zero =>
    intro r f s hr hf h0 hz
    obtain ⟨f, rfl⟩ : ∃ g, f = g + 1 := ⟨f - 1, by omega⟩
    unfold d_X5_addSquareB_2
    rw [h0, if_pos (by omega), if_pos (by omega)]
    exact ⟨_, _, rfl, fun _ _ => rfl, fun _ _ => rfl, fun i j h1 h2 => by omega⟩
  | succ m ih =>
    intro r f s hr hf h0 hz
    obtain ⟨f, rfl⟩ : ∃ g, f = g + 1 := ⟨f - 1, by omega⟩
    unfold d_X5_addSquareB_2
    obtain ⟨z, s1, a1, a2, a3⟩ := e_sqB_in hn ht (row := r) (by omega) n 0 zF s (by omega) (by unfold zF; omega) h0 hz
    have e1 : ((0 + 1 : Nat) : Int) = 1 := rfl
    rw [e1] at a1
    have e3 : (((r + 1 : Nat) : Int) + 1) = ((r + 1 + 1 : Nat) : Int) := by omega
    rw [h0, if_pos (by omega), if_neg (by omega), a1, Option.bind_some, e3]
    obtain ⟨w, s2, b1, b2, b3, b4⟩ := ih (r + 1) f s1 (by omega) (by omega) (by rw [a2 0 (by omega)]; exact h0) (fun j hj => by rw [a2 31 (by omega)]; exact hz j hj)
    refine ⟨w, s2, b1, fun q hq => by rw [b2 q hq, a2 q (by omega)], fun i hi => by rw [b3 i (by omega), a2 _ (by omega)], fun i j h1 h2 h3 => ?_⟩
    by_cases q : i = r
    · subst q
      rw [b3 i (by omega), a3 j, if_pos (by omega)]
    · rw [b4 i j (by omega) h2 h3, a2 (3 + i) (by omega), a2 31 (by omega)]
theorem e_sqB {n : Nat} (hn : n ≤ 4) {times : Int} (ht : zr times) {s : zZ} (h0 : s 0 0 = ((n + 1 : Nat) : Int)) (hz : ∀ j, j < 6 → zr (s 31 j)) : ∃ s', d_X5_addSquareB s times = some s' ∧ (∀ q, q < 3 ∨ 7 ≤ q → s' q = s q) ∧ ∀ i j, i < n → j < n → s' (3 + i) j = s (3 + i) j + times * s 31 (i + 1) * s 31 (j + 1) := by
  obtain ⟨z, s', a1, a2, a3, a4⟩ := e_sqB_out hn ht n 0 zF s (by omega) (by unfold zF; omega) h0 hz
  have e1 : ((0 + 1 : Nat) : Int) = 1 := rfl
  rw [e1] at a1
  unfold d_X5_addSquareB
  rw [a1]
  exact ⟨s', rfl, a2, fun i j => a4 i j (by omega)⟩
theorem e_sqS_in {n : Nat} (hn : n ≤ 4) {times : Int} (ht : zr times) {row : Nat} (hr : row < n) : ∀ (m c f : Nat) (s : zZ), c + m = n → m + 1 ≤ f → s 0 0 = ((n + 1 : Nat) : Int) → (∀ j, j < 6 → zr (s 31 j)) → ∃ z s', d_X5_addSquareS_13 times (row + 1 : Nat) f (c + 1 : Nat) s = some (z, s') ∧ (∀ q, q ≠ 8 + row → s' q = s q) ∧ ∀ j, s' (8 + row) j = if c ≤ j ∧ j < n then s (8 + row) j + times * s 31 (row + 1) * s 31 (j + 1) else s (8 + row) j := by
  intro m
  induction m with
  | zero =>
    intro c f s hc hf h0 hz
    obtain ⟨f, rfl⟩ : ∃ g, f = g + 1 := ⟨f - 1, by omega⟩
    unfold d_X5_addSquareS_13
    rw [h0, if_pos (by omega), if_pos (by omega)]
    exact ⟨_, _, rfl, fun _ _ => rfl, fun j => by rw [if_neg (by omega)]⟩
  | succ m ih =>
    intro c f s hc hf h0 hz
    obtain ⟨f, rfl⟩ : ∃ g, f = g + 1 := ⟨f - 1, by omega⟩
    unfold d_X5_addSquareS_13
    have e1 : (((c + 1 : Nat) : Int) - 1).toNat = c := by omega
    have e2 : (((row + 1 : Nat) : Int) - 1).toNat = row := by omega
    have e3 : (((c + 1 : Nat) : Int) + 1) = ((c + 1 + 1 : Nat) : Int) := by omega
    simp only [e1, e2, e3, Int.toNat_natCast, h0]
    rw [if_pos (by omega), if_neg (by omega), if_pos (by omega), if_pos (by omega), if_pos ht, if_pos (by omega), if_pos (hz _ (by omega)), if_pos (by omega), if_pos (hz _ (by omega)), if_pos (by omega)]
    obtain ⟨z, s', a1, a2, a3⟩ := ih (c + 1) f (upz s (8 + row) c (s (8 + row) c + times * s 31 (row + 1) * s 31 (c + 1))) (by omega) (by omega) (by rw [upz_ne _ _ _ _ (by omega)]; exact h0) (fun j hj => by rw [upz_ne _ _ _ _ (by omega)]; exact hz j hj)
    refine ⟨z, s', a1, fun q hq => by rw [a2 q hq, upz_ne _ _ _ _ hq], fun j => ?_⟩
    rw [a3 j, upz_at, if_pos rfl, upz_ne _ _ _ _ (show 31 ≠ 8 + row by omega)]
    by_cases q : j = c
    · subst q
      rw [if_neg (by omega), if_pos rfl, if_pos (by omega)]
    · rw [if_neg q]
      by_cases q2 : c + 1 ≤ j ∧ j < n
      · rw [if_pos q2, if_pos (by omega)]
      · rw [if_neg q2, if_neg (by omega)]
theorem e_sqS_out {n : Nat} (hn : n ≤ 4) {times : Int} (ht : zr times) : ∀ (m r f : Nat) (s : zZ), r + m = n → m + 1 ≤ f → s 0 0 = ((n + 1 : Nat) : Int) → (∀ j, j < 6 → zr (s 31 j)) → ∃ z s', d_X5_addSquareS_2 times f (r + 1 : Nat) s = some (z, s') ∧ (∀ q, q < 8 ∨ 12 ≤ q → s' q = s q) ∧ (∀ i, i < r → s' (8 + i) = s (8 + i)) ∧ ∀ i j, r ≤ i → i < n → j < n → s' (8 + i) j = s (8 + i) j + times * s 31 (i + 1) * s 31 (j + 1) := by
  intro m
  induction m with
  | zero =>
    intro r f s hr hf h0 hz
    obtain ⟨f, rfl⟩ : ∃ g, f = g + 1 := ⟨f - 1, by omega⟩
    unfold d_X5_addSquareS_2
    rw [h0, if_pos (by omega), if_pos (by omega)]
    exact ⟨_, _, rfl, fun _ _ => rfl, fun _ _ => rfl, fun i j h1 h2 => by omega⟩
  | succ m ih =>
    intro r f s hr hf h0 hz
    obtain ⟨f, rfl⟩ : ∃ g, f = g + 1 := ⟨f - 1, by omega⟩
    unfold d_X5_addSquareS_2
    obtain ⟨z, s1, a1, a2, a3⟩ := e_sqS_in hn ht (row := r) (by omega) n 0 zF s (by omega) (by unfold zF; omega) h0 hz
    have e1 : ((0 + 1 : Nat) : Int) = 1 := rfl
    rw [e1] at a1
    have e3 : (((r + 1 : Nat) : Int) + 1) = ((r + 1 + 1 : Nat) : Int) := by omega
    rw [h0, if_pos (by omega), if_neg (by omega), a1, Option.bind_some, e3]
    obtain ⟨w, s2, b1, b2, b3, b4⟩ := ih (r + 1) f s1 (by omega) (by omega) (by rw [a2 0 (by omega)]; exact h0) (fun j hj => by rw [a2 31 (by omega)]; exact hz j hj)
    refine ⟨w, s2, b1, fun q hq => by rw [b2 q hq, a2 q (by omega)], fun i hi => by rw [b3 i (by omega), a2 _ (by omega)], fun i j h1 h2 h3 => ?_⟩
    by_cases q : i = r
    · subst q
      rw [b3 i (by omega), a3 j, if_pos (by omega)]
    · rw [b4 i j (by omega) h2 h3, a2 (8 + i) (by omega), a2 31 (by omega)]
theorem e_sqS {n : Nat} (hn : n ≤ 4) {times : Int} (ht : zr times) {s : zZ} (h0 : s 0 0 = ((n + 1 : Nat) : Int)) (hz : ∀ j, j < 6 → zr (s 31 j)) : ∃ s', d_X5_addSquareS s times = some s' ∧ (∀ q, q < 8 ∨ 12 ≤ q → s' q = s q) ∧ ∀ i j, i < n → j < n → s' (8 + i) j = s (8 + i) j + times * s 31 (i + 1) * s 31 (j + 1) := by
  obtain ⟨z, s', a1, a2, a3, a4⟩ := e_sqS_out hn ht n 0 zF s (by omega) (by unfold zF; omega) h0 hz
  have e1 : ((0 + 1 : Nat) : Int) = 1 := rfl
  rw [e1] at a1
  unfold d_X5_addSquareS
  rw [a1]
  exact ⟨s', rfl, a2, fun i j => a4 i j (by omega)⟩
theorem e_fill2 : ∀ (m j f : Nat) (s : zZ), j + m = 4 → m + 1 ≤ f → (∀ i c, i < j → c < 4 → s (3 + i) c = 0 ∧ s (8 + i) c = 0) → ∃ z s', d_X5_fillTables_2 f j s = some (z, s') ∧ (∀ q, q < 3 ∨ 12 ≤ q → s' q = s q) ∧ ∀ i c, i < 4 → c < 4 → s' (3 + i) c = 0 ∧ s' (8 + i) c = 0 := by
  intro m
  induction m with
  | zero =>
    intro j f s hj hf h
    obtain ⟨f, rfl⟩ : ∃ g, f = g + 1 := ⟨f - 1, by omega⟩
    unfold d_X5_fillTables_2
    rw [if_pos (by omega), if_pos (by omega)]
    exact ⟨_, _, rfl, fun _ _ => rfl, fun i c hi hc => h i c (by omega) hc⟩
  | succ m ih =>
    intro j f s hj hf h
    obtain ⟨f, rfl⟩ : ∃ g, f = g + 1 := ⟨f - 1, by omega⟩
    unfold d_X5_fillTables_2
    have e3 : ((j : Int) + 1) = ((j + 1 : Nat) : Int) := by omega
    simp only [Int.toNat_natCast, e3]
    rw [if_pos (by omega), if_neg (by omega), if_pos (by omega), if_pos (by omega), if_pos (by omega), if_pos (by omega)]
    obtain ⟨z, s', a1, a2, a3⟩ := ih (j + 1) f (zfl (zfl s (3 + j) 4 0) (8 + j) 4 0) (by omega) (by omega) (by
      intro i c hi hc
      have := h i c
      simp only [zfl_at]
      grind)
    refine ⟨z, s', a1, fun q hq => ?_, a3⟩
    rw [a2 q hq]
    funext c
    rw [zfl_at, if_neg (by omega), zfl_at, if_neg (by omega)]
theorem e_fill35 {n : Nat} (hn : 1 ≤ n ∧ n ≤ 4) {u : Nat → Int} (hu : ∀ j, 1 ≤ j → j ≤ n → 0 ≤ u j ∧ u j ≤ 20) : ∀ (m j f : Nat) (s : zZ), j + m = n → m + 1 ≤ f → s 0 0 = ((n + 1 : Nat) : Int) → (∀ i, 1 ≤ i → i ≤ n → s 1 i = u i) → (∀ r c, r < n → c < n → s (3 + r) c = Bs u j r c) → ∃ z s', d_X5_fillTables_35 f (j + 1 : Nat) s = some (z, s') ∧ (∀ q, q < 3 ∨ (7 ≤ q ∧ q ≠ 31) → s' q = s q) ∧ ∀ r c, r < n → c < n → s' (3 + r) c = Bs u n r c := by
  intro m
  induction m with
  | zero =>
    intro j f s hj hf h0 h1 h2
    obtain ⟨f, rfl⟩ : ∃ g, f = g + 1 := ⟨f - 1, by omega⟩
    unfold d_X5_fillTables_35
    have : j = n := by omega
    subst this
    rw [h0, if_pos (by omega), if_pos (by omega)]
    exact ⟨_, _, rfl, fun _ _ => rfl, h2⟩
  | succ m ih =>
    intro j f s hj hf h0 h1 h2
    obtain ⟨f, rfl⟩ : ∃ g, f = g + 1 := ⟨f - 1, by omega⟩
    unfold d_X5_fillTables_35
    have e1 : (((j + 1 : Nat) : Int) - 1).toNat = j := by omega
    have e2 : (((j + 1 : Nat) : Int) + 1).toNat = j + 2 := by omega
    have e3 : (((j + 1 : Nat) : Int) + 1) = ((j + 1 + 1 : Nat) : Int) := by omega
    simp only [e1, e2, Int.toNat_natCast, h0]
    rw [if_pos (by omega), if_neg (by omega), if_pos (by omega), if_pos (by omega), if_pos (by omega), if_pos (by omega)]
    have uj := hu (j + 1) (by omega) (by omega)
    have t1 : ∀ q, q ≠ 31 → (upz (upz (upz (zfl s 31 6 0) 31 j 1) 31 (j + 1) (-2)) 31 (j + 2) 1) q = s q := by
      intro q hq
      funext c
      rw [upz_ne _ _ _ _ hq, upz_ne _ _ _ _ hq, upz_ne _ _ _ _ hq, zfl_at, if_neg hq]
    have t2 : ∀ i : Nat, i < 6 → (upz (upz (upz (zfl s 31 6 0) 31 j 1) 31 (j + 1) (-2)) 31 (j + 2) 1) 31 i = bnd ((j + 1 : Nat) : Int) (i : Int) := by
      intro i hi
      simp only [upz_at, zfl_at, ↓reduceIte]
      unfold bnd
      repeat' split
      all_goals first | rfl | (exfalso; omega)
    generalize (upz (upz (upz (zfl s 31 6 0) 31 j 1) 31 (j + 1) (-2)) 31 (j + 2) 1) = t at t1 t2 ⊢
    have t3 : t 1 (j + 1) = u (j + 1) := by rw [t1 1 (by decide)]; exact h1 (j + 1) (by omega) (by omega)
    rw [t3]
    obtain ⟨s', a1, a2, a3⟩ := e_sqB hn.2 (times := u (j + 1)) (s := t) (by omega) (by rw [t1 0 (by decide)]; exact h0) (fun i hi => by rw [t2 i hi]; have := bnd_rng ((j + 1 : Nat) : Int) i; omega)
    rw [a1, Option.bind_some, e3]
    obtain ⟨z, s2, b1, b2, b3⟩ := ih (j + 1) f s' (by omega) (by omega) (by rw [a2 0 (by omega), t1 0 (by decide)]; exact h0) (fun i x y => by rw [a2 1 (by omega), t1 1 (by decide)]; exact h1 i x y) (fun r c hr hc => by
      rw [a3 r c hr hc, t1 _ (by omega), h2 r c hr hc, t2 (r + 1) (by omega), t2 (c + 1) (by omega)]
      rfl)
    exact ⟨z, s2, b1, fun q hq => by rw [b2 q hq, a2 q (by omega), t1 q (by omega)], b3⟩
theorem e_fill99 {n : Nat} (hn : 1 ≤ n ∧ n ≤ 4) : ∀ (m l f : Nat) (s : zZ), l + m = n + 1 → m + 1 ≤ f → s 0 0 = ((n + 1 : Nat) : Int) → (∀ r c, r < n → c < n → s (8 + r) c = Ss l r c) → ∃ z s', d_X5_fillTables_99 f l s = some (z, s') ∧ (∀ q, q < 8 ∨ (12 ≤ q ∧ q ≠ 31) → s' q = s q) ∧ ∀ r c, r < n → c < n → s' (8 + r) c = Ss (n + 1) r c := by
  intro m
  induction m with
  | zero =>
    intro l f s hl hf h0 h2
    obtain ⟨f, rfl⟩ : ∃ g, f = g + 1 := ⟨f - 1, by omega⟩
    unfold d_X5_fillTables_99
    have : l = n + 1 := by omega
    subst this
    rw [h0, if_pos (by omega), if_pos (by omega)]
    exact ⟨_, _, rfl, fun _ _ => rfl, h2⟩
  | succ m ih =>
    intro l f s hl hf h0 h2
    obtain ⟨f, rfl⟩ : ∃ g, f = g + 1 := ⟨f - 1, by omega⟩
    unfold d_X5_fillTables_99
    have e2 : ((l : Int) + 1).toNat = l + 1 := by omega
    have e3 : ((l : Int) + 1) = ((l + 1 : Nat) : Int) := by omega
    simp only [e2, Int.toNat_natCast, h0]
    rw [if_pos (by omega), if_neg (by omega), if_pos (by omega), if_pos (by omega)]
    have t1 : ∀ q, q ≠ 31 → (upz (upz (zfl s 31 6 0) 31 l (-1)) 31 (l + 1) 1) q = s q := by
      intro q hq
      funext c
      rw [upz_ne _ _ _ _ hq, upz_ne _ _ _ _ hq, zfl_at, if_neg hq]
    have t2 : ∀ i : Nat, i < 6 → (upz (upz (zfl s 31 6 0) 31 l (-1)) 31 (l + 1) 1) 31 i = stp (l : Int) (i : Int) := by
      intro i hi
      simp only [upz_at, zfl_at, ↓reduceIte]
      unfold stp
      repeat' split
      all_goals first | rfl | (exfalso; omega)
    have t4 : ∀ l i : Int, -1 ≤ stp l i ∧ stp l i ≤ 1 := by
      intro l i
      unfold stp
      repeat' split
      all_goals omega
    generalize (upz (upz (zfl s 31 6 0) 31 l (-1)) 31 (l + 1) 1) = t at t1 t2 ⊢
    obtain ⟨s', a1, a2, a3⟩ := e_sqS hn.2 (times := 1) (s := t) (by omega) (by rw [t1 0 (by decide)]; exact h0) (fun i hi => by rw [t2 i hi]; have := t4 (l : Int) i; omega)
    rw [a1, Option.bind_some, e3]
    obtain ⟨z, s2, b1, b2, b3⟩ := ih (l + 1) f s' (by omega) (by omega) (by rw [a2 0 (by omega), t1 0 (by decide)]; exact h0) (fun r c hr hc => by
      rw [a3 r c hr hc, t1 _ (by omega), h2 r c hr hc, t2 (r + 1) (by omega), t2 (c + 1) (by omega)]
      rfl)
    exact ⟨z, s2, b1, fun q hq => by rw [b2 q hq, a2 q (by omega), t1 q (by omega)], b3⟩
theorem e_fill {n : Nat} (hn : 1 ≤ n ∧ n ≤ 4) {u : Nat → Int} (hu : ∀ j, 1 ≤ j → j ≤ n → 0 ≤ u j ∧ u j ≤ 20) {s : zZ} (h0 : s 0 0 = ((n + 1 : Nat) : Int)) (h1 : ∀ i, 1 ≤ i → i ≤ n → s 1 i = u i) : ∃ s', d_X5_fillTables s = some s' ∧ (∀ q, q < 3 ∨ (12 ≤ q ∧ q ≠ 31) → s' q = s q) ∧ ∀ r c, r < n → c < n → s' (3 + r) c = Bs u n r c ∧ s' (8 + r) c = Sf r c := by
  unfold d_X5_fillTables
  obtain ⟨z1, s1, a1, a2, a3⟩ := e_fill2 4 0 zF s (by omega) (by unfold zF; omega) (fun i c hi => by omega)
  obtain ⟨z2, s2, b1, b2, b3⟩ := e_fill35 hn hu n 0 zF s1 (by omega) (by unfold zF; omega) (by rw [a2 0 (by omega)]; exact h0) (fun i x y => by rw [a2 1 (by omega)]; exact h1 i x y) (fun r c hr hc => (a3 r c (by omega) (by omega)).1)
  obtain ⟨z3, s3, c1, c2, c3⟩ := e_fill99 hn (n + 1) 0 zF s2 (by omega) (by unfold zF; omega) (by rw [b2 0 (by omega), a2 0 (by omega)]; exact h0) (fun r c hr hc => by rw [b2 (8 + r) (by omega)]; exact (a3 r c (by omega) (by omega)).2)
  have e1 : ((0 + 1 : Nat) : Int) = 1 := rfl
  rw [show ((0 : Nat) : Int) = 0 from rfl] at a1 c1
  rw [e1] at b1
  rw [a1, Option.bind_some, b1, Option.bind_some, c1]
  refine ⟨s3, rfl, fun q hq => by rw [c2 q (by omega), b2 q (by omega), a2 q (by omega)], fun r c hr hc => ⟨?_, ?_⟩⟩
  · rw [c2 (3 + r) (by omega)]
    exact b3 r c hr hc
  · rw [c3 r c hr hc]
    exact Ss_eq n (by omega) r hr c hc
