/-! the rib: the polynomial of the reference -/
theorem e_lay27 {s7 : zZ} {n r c : Nat} (hn : n ≤ 4) (hr : r < 4) (hc : c < 4) {u : Nat → Int} (hu : ∀ j, 1 ≤ j → j ≤ n → 0 ≤ u j ∧ u j ≤ 20) (h9 : ∀ j, 1 ≤ j → j ≤ n → s7 9 j = u j) : ∀ (m j f : Nat), j + m = n → m + 1 ≤ f → ∃ z, d_X12_layTables_27 s7 n (r + 1 : Nat) (c + 1 : Nat) f (Bs u j r c) (j + 1 : Nat) = some (Bs u n r c, z) := by
  intro m
  induction m with
  | zero =>
    intro j f hj hf
    obtain ⟨f, rfl⟩ : ∃ g, f = g + 1 := ⟨f - 1, by omega⟩
    unfold d_X12_layTables_27
    have : j = n := by omega
    subst this
    rw [if_pos (by omega), if_pos (by omega)]
    exact ⟨_, rfl⟩
  | succ m ih =>
    intro j f hj hf
    obtain ⟨f, rfl⟩ : ∃ g, f = g + 1 := ⟨f - 1, by omega⟩
    unfold d_X12_layTables_27
    have uj := hu (j + 1) (by omega) (by omega)
    have e3 : (((j + 1 : Nat) : Int) + 1) = ((j + 1 + 1 : Nat) : Int) := by omega
    simp only [Int.toNat_natCast, h9 (j + 1) (by omega) (by omega)]
    rw [if_pos (by omega), if_neg (by omega), if_pos (by omega), if_pos (by omega), e_bend (by omega) (by omega), Option.bind_some, e_bend (by omega) (by omega), Option.bind_some, e3]
    exact ih (j + 1) f (by omega) (by omega)
def TL (s : zZ) (u : Nat → Int) (n r c : Nat) : Prop := ∀ r' c', r' < n → c' < n → (r' < r ∨ (r' = r ∧ c' < c)) → s 10 (4 * r' + c') = Bs u n r' c' ∧ s 11 (4 * r' + c') = Sf r' c'
theorem TL_put {s : zZ} {u : Nat → Int} {n r c : Nat} (hn : n ≤ 4) (hr : r < n) (hc : c < n) (T : TL s u n r c) : TL (upz (upz s 10 (4 * r + c) (Bs u n r c)) 11 (4 * r + c) (Sf r c)) u n r (c + 1) := by
  intro r' c' h1 h2 h3
  rw [upz_ne _ _ _ _ (show 10 ≠ 11 by decide), upz_at, if_pos rfl, upz_at, if_pos rfl, upz_ne _ _ _ _ (show 11 ≠ 10 by decide)]
  by_cases q : r' = r ∧ c' = c
  · obtain ⟨rfl, rfl⟩ := q
    rw [if_pos rfl, if_pos rfl]
    exact ⟨rfl, rfl⟩
  · rw [if_neg (by omega), if_neg (by omega)]
    exact T r' c' h1 h2 (by omega)
theorem e_lay16 {n r : Nat} (hn : n ≤ 4) (hr : r < n) {u : Nat → Int} (hu : ∀ j, 1 ≤ j → j ≤ n → 0 ≤ u j ∧ u j ≤ 20) : ∀ (m c f : Nat) (s : zZ), c + m = n → m + 1 ≤ f → (∀ j, 1 ≤ j → j ≤ n → s 9 j = u j) → TL s u n r c → ∃ z s', d_X12_layTables_16 n (r + 1 : Nat) f (c + 1 : Nat) s = some (z, s') ∧ (∀ q, q ≠ 10 → q ≠ 11 → s' q = s q) ∧ TL s' u n (r + 1) 0 := by
  intro m
  induction m with
  | zero =>
    intro c f s hc hf h9 T
    obtain ⟨f, rfl⟩ : ∃ g, f = g + 1 := ⟨f - 1, by omega⟩
    unfold d_X12_layTables_16
    rw [if_pos (by omega), if_pos (by omega)]
    exact ⟨_, _, rfl, fun _ _ _ => rfl, fun r' c' h1 h2 h3 => T r' c' h1 h2 (by omega)⟩
  | succ m ih =>
    intro c f s hc hf h9 T
    obtain ⟨f, rfl⟩ : ∃ g, f = g + 1 := ⟨f - 1, by omega⟩
    unfold d_X12_layTables_16
    obtain ⟨z, hz⟩ := e_lay27 (s7 := s) (n := n) (r := r) (c := c) hn (by omega) (by omega) hu h9 n 0 zF (by omega) (by unfold zF; omega)
    have hz' : d_X12_layTables_27 s n (r + 1 : Nat) (c + 1 : Nat) zF 0 1 = some (Bs u n r c, z) := hz
    have e1 : ((4 * (((r + 1 : Nat) : Int) - 1)) + ((c + 1 : Nat) : Int) - 1).toNat = 4 * r + c := by omega
    have e3 : (((c + 1 : Nat) : Int) + 1) = ((c + 1 + 1 : Nat) : Int) := by omega
    rw [if_pos (by omega), if_neg (by omega), hz', Option.bind_some, if_pos (by omega), if_pos (by omega)]
    simp only [e1, e3]
    have fin : ∀ v, v = Sf r c → ∃ z s', d_X12_layTables_16 n (r + 1 : Nat) f (c + 1 + 1 : Nat) (upz (upz s 10 (4 * r + c) (Bs u n r c)) 11 (4 * r + c) v) = some (z, s') ∧ (∀ q, q ≠ 10 → q ≠ 11 → s' q = s q) ∧ TL s' u n (r + 1) 0 := by
      intro v hv
      subst hv
      obtain ⟨z, s', a1, a2, a3⟩ := ih (c + 1) f (upz (upz s 10 (4 * r + c) (Bs u n r c)) 11 (4 * r + c) (Sf r c)) (by omega) (by omega) (fun j x y => by rw [upz_ne _ _ _ _ (by decide), upz_ne _ _ _ _ (by decide)]; exact h9 j x y) (TL_put hn hr (by omega) T)
      exact ⟨z, s', a1, fun q x y => by rw [a2 q x y, upz_ne _ _ _ _ y, upz_ne _ _ _ _ x], a3⟩
    by_cases q1 : r = c
    · rw [if_neg (by omega), if_pos (by omega)]
      exact fin 2 (by unfold Sf; rw [if_pos q1])
    · rw [if_pos (by omega), if_pos (by omega)]
      by_cases q2 : r + 1 = c
      · rw [if_pos (by omega), if_pos (by omega)]
        exact fin (-1) (by unfold Sf; rw [if_neg q1, if_pos q2])
      · rw [if_neg (by omega), if_pos (by omega)]
        by_cases q3 : c + 1 = r
        · rw [if_neg (by omega), if_pos (by omega)]
          exact fin (-1) (by unfold Sf; rw [if_neg q1, if_neg q2, if_pos q3])
        · rw [if_pos (by omega), if_pos (by omega)]
          exact fin 0 (by unfold Sf; rw [if_neg q1, if_neg q2, if_neg q3])
theorem e_lay9 {n : Nat} (hn : n ≤ 4) {u : Nat → Int} (hu : ∀ j, 1 ≤ j → j ≤ n → 0 ≤ u j ∧ u j ≤ 20) : ∀ (m r f : Nat) (s : zZ), r + m = n → m + 1 ≤ f → (∀ j, 1 ≤ j → j ≤ n → s 9 j = u j) → TL s u n r 0 → ∃ z s', d_X12_layTables_9 n f (r + 1 : Nat) s = some (z, s') ∧ (∀ q, q ≠ 10 → q ≠ 11 → s' q = s q) ∧ TL s' u n n 0 := by
  intro m
  induction m with
  | zero =>
    intro r f s hr hf h9 T
    obtain ⟨f, rfl⟩ : ∃ g, f = g + 1 := ⟨f - 1, by omega⟩
    unfold d_X12_layTables_9
    have : r = n := by omega
    subst this
    rw [if_pos (by omega), if_pos (by omega)]
    exact ⟨_, _, rfl, fun _ _ _ => rfl, T⟩
  | succ m ih =>
    intro r f s hr hf h9 T
    obtain ⟨f, rfl⟩ : ∃ g, f = g + 1 := ⟨f - 1, by omega⟩
    unfold d_X12_layTables_9
    obtain ⟨z, s1, a1, a2, a3⟩ := e_lay16 hn (r := r) (by omega) hu n 0 zF s (by omega) (by unfold zF; omega) h9 T
    have a1' : d_X12_layTables_16 n (r + 1 : Nat) zF 1 s = some (z, s1) := a1
    have e3 : (((r + 1 : Nat) : Int) + 1) = ((r + 1 + 1 : Nat) : Int) := by omega
    rw [if_pos (by omega), if_neg (by omega), a1', Option.bind_some, e3]
    obtain ⟨w, s2, b1, b2, b3⟩ := ih (r + 1) f s1 (by omega) (by omega) (fun j x y => by rw [a2 9 (by decide) (by decide)]; exact h9 j x y) a3
    exact ⟨w, s2, b1, fun q x y => by rw [b2 q x y, a2 q x y], b3⟩
theorem e_fp13 {n : Int} : ∀ (m i f : Nat) (s : zZ), i + m = 80 → m + 1 ≤ f → (∀ j, j < i → s 12 j = if j = 0 then 1 else 0) → ∃ z s', d_X12_findPoly_13 n f i s = some (z, s') ∧ (∀ q, q ≠ 12 → s' q = s q) ∧ ∀ j, j < 80 → s' 12 j = if j = 0 then 1 else 0 := by
  intro m
  induction m with
  | zero =>
    intro i f s hi hf h
    obtain ⟨f, rfl⟩ : ∃ g, f = g + 1 := ⟨f - 1, by omega⟩
    unfold d_X12_findPoly_13
    rw [if_pos (by omega), if_pos (by omega)]
    exact ⟨_, _, rfl, fun _ _ => rfl, fun j hj => h j (by omega)⟩
  | succ m ih =>
    intro i f s hi hf h
    obtain ⟨f, rfl⟩ : ∃ g, f = g + 1 := ⟨f - 1, by omega⟩
    unfold d_X12_findPoly_13
    have e3 : ((i : Int) + 1) = ((i + 1 : Nat) : Int) := by omega
    simp only [e3, Int.toNat_natCast]
    rw [if_pos (by omega), if_neg (by omega), if_pos (by omega)]
    have fin : ∀ v, (v = if i = 0 then 1 else 0) → ∃ z s', d_X12_findPoly_13 n f (i + 1 : Nat) (upz s 12 i v) = some (z, s') ∧ (∀ q, q ≠ 12 → s' q = s q) ∧ ∀ j, j < 80 → s' 12 j = if j = 0 then 1 else 0 := by
      intro v hv
      obtain ⟨z, s', a1, a2, a3⟩ := ih (i + 1) f (upz s 12 i v) (by omega) (by omega) (fun j hj => by
        rw [upz_at, if_pos rfl]
        by_cases q : j = i
        · rw [if_pos q, hv, q]
        · rw [if_neg q]
          exact h j (by omega))
      exact ⟨z, s', a1, fun q hq => by rw [a2 q hq, upz_ne _ _ _ _ hq], a3⟩
    by_cases q : i = 0
    · rw [if_neg (by omega), if_pos (by omega)]
      exact fin 1 (by rw [if_pos q])
    · rw [if_pos (by omega), if_pos (by omega)]
      exact fin 0 (by rw [if_neg q])
theorem e_fp112 {n : Int} {set t r c : Nat} {sg : Int} (h16 : set < 16) (ht : t < set) (hr : r < 4) (hc : c < 4) : ∀ (m k f : Nat) (s : zZ), k + m = 5 → m + 1 ≤ f → ∃ z s', d_X12_findPoly_112 n set r c t sg f k s = some (z, s') ∧ (∀ q, q ≠ 12 → s' q = s q) ∧ (∀ j, j < 5 * set ∨ 5 * set + 5 ≤ j → s' 12 j = s 12 j) ∧ ∀ i, i < 5 → s' 12 (5 * set + i) = s 12 (5 * set + i) + (if k ≤ i then sg * s 12 (5 * t + i) * s 10 (4 * r + c) else 0) - (if k + 1 ≤ i then sg * s 12 (5 * t + (i - 1)) * s 11 (4 * r + c) else 0) := by
  intro m
  induction m with
  | zero =>
    intro k f s hk hf
    obtain ⟨f, rfl⟩ : ∃ g, f = g + 1 := ⟨f - 1, by omega⟩
    unfold d_X12_findPoly_112
    rw [if_pos (by omega), if_pos (by omega)]
    refine ⟨_, _, rfl, fun _ _ => rfl, fun _ _ => rfl, fun i hi => ?_⟩
    rw [if_neg (by omega), if_neg (by omega)]
    omega
  | succ m ih =>
    intro k f s hk hf
    obtain ⟨f, rfl⟩ : ∃ g, f = g + 1 := ⟨f - 1, by omega⟩
    unfold d_X12_findPoly_112
    have e1 : (5 * (set : Int) + k).toNat = 5 * set + k := by omega
    have e1' : (5 * (set : Int) + k + 1).toNat = 5 * set + (k + 1) := by omega
    have e2 : (5 * (t : Int) + k).toNat = 5 * t + k := by omega
    have e4 : (4 * (r : Int) + c).toNat = 4 * r + c := by omega
    have e3 : ((k : Int) + 1) = ((k + 1 : Nat) : Int) := by omega
    simp only [e1, e1', e2, e3, e4]
    rw [if_pos (by omega), if_neg (by omega), if_pos (by omega), if_pos (by omega), if_pos (by omega), if_pos (by omega), if_pos (by omega)]
    by_cases k4 : (4 : Int) ≤ k
    · rw [if_pos k4]
      obtain ⟨z, s', a1, a2, a3, a4⟩ := ih (k + 1) f (upz s 12 (5 * set + k) (s 12 (5 * set + k) + sg * s 12 (5 * t + k) * s 10 (4 * r + c))) (by omega) (by omega)
      refine ⟨z, s', a1, fun q hq => by rw [a2 q hq, upz_ne _ _ _ _ hq], fun j hj => by rw [a3 j hj, upz_at, if_pos rfl, if_neg (by omega)], fun i hi => ?_⟩
      rw [a4 i hi, upz_ne _ _ _ _ (show 10 ≠ 12 by decide), upz_ne _ _ _ _ (show 11 ≠ 12 by decide)]
      simp only [upz_at, ↓reduceIte]
      rw [if_neg (show ¬ (5 * t + i = 5 * set + k) by omega), if_neg (show ¬ (5 * t + (i - 1) = 5 * set + k) by omega), if_neg (show ¬ (k + 1 ≤ i) by omega), if_neg (show ¬ (k + 1 + 1 ≤ i) by omega)]
      by_cases q : i = k
      · subst q
        rw [if_pos rfl, if_pos (by omega)]
        omega
      · rw [if_neg (by omega), if_neg (by omega)]
        omega
    · rw [if_neg k4, if_pos (by omega), if_pos (by omega), if_pos (by omega)]
      rw [upz_ne s 12 _ _ (show 11 ≠ 12 by decide)]
      obtain ⟨z, s', a1, a2, a3, a4⟩ := ih (k + 1) f (upz (upz s 12 (5 * set + k) (s 12 (5 * set + k) + sg * s 12 (5 * t + k) * s 10 (4 * r + c))) 12 (5 * set + (k + 1)) ((upz s 12 (5 * set + k) (s 12 (5 * set + k) + sg * s 12 (5 * t + k) * s 10 (4 * r + c))) 12 (5 * set + (k + 1)) - sg * s 12 (5 * t + k) * s 11 (4 * r + c))) (by omega) (by omega)
      refine ⟨z, s', a1, fun q hq => by rw [a2 q hq, upz_ne _ _ _ _ hq, upz_ne _ _ _ _ hq], fun j hj => by rw [a3 j hj, upz_at, if_pos rfl, if_neg (by omega), upz_at, if_pos rfl, if_neg (by omega)], fun i hi => ?_⟩
      rw [a4 i hi]
      have r1 : ∀ q, q ≠ 12 → ∀ i x j y, (upz (upz s 12 i x) 12 j y) q = s q := fun q hq i x j y => by rw [upz_ne _ _ _ _ hq, upz_ne _ _ _ _ hq]
      rw [r1 10 (by decide), r1 11 (by decide)]
      simp only [upz_at, ↓reduceIte]
      rw [if_neg (show ¬ (5 * t + i = 5 * set + (k + 1)) by omega), if_neg (show ¬ (5 * t + (i - 1) = 5 * set + (k + 1)) by omega), if_neg (show ¬ (5 * t + i = 5 * set + k) by omega), if_neg (show ¬ (5 * t + (i - 1) = 5 * set + k) by omega)]
      by_cases q1 : i = k
      · subst q1
        rw [if_neg (show ¬ (5 * set + i = 5 * set + (i + 1)) by omega), if_pos rfl, if_neg (show ¬ (i + 1 ≤ i) by omega), if_neg (show ¬ (i + 1 + 1 ≤ i) by omega), if_pos (Nat.le_refl i)]
        omega
      · by_cases q2 : i = k + 1
        · subst q2
          rw [if_pos rfl, if_neg (show ¬ (5 * set + (k + 1) = 5 * set + k) by omega), if_pos (Nat.le_refl _), if_neg (show ¬ (k + 1 + 1 ≤ k + 1) by omega), if_pos (show k ≤ k + 1 by omega), show k + 1 - 1 = k from rfl]
          omega
        · rw [if_neg (show ¬ (5 * set + i = 5 * set + (k + 1)) by omega), if_neg (show ¬ (5 * set + i = 5 * set + k) by omega)]
          have d1 : (k + 1 ≤ i) = (k ≤ i) := by apply propext; omega
          have d2 : (k + 1 + 1 ≤ i) = (k + 1 ≤ i) := by apply propext; omega
          simp only [d2, d1]
theorem and_sub16 : ∀ set : Nat, set < 16 → ∀ c : Nat, c < 4 → set / 2 ^ c % 2 = 1 → (set &&& 2 ^ c) = 2 ^ c ∧ zpc 12 ((set - 2 ^ c) / 2 ^ c) = zpc 12 (set / 2 ^ (c + 1)) := by decide
theorem e_fp59 {n set r : Nat} (hn : n ≤ 4) (h16 : set < 2 ^ n) (hr : r < n) {B S : Nat → Int} {M : Nat → Nat → Int} : ∀ (m c f : Nat) (s : zZ), c + m = n → m + 1 ≤ f → (∀ d, d < n → s 10 (4 * r + d) = B d ∧ s 11 (4 * r + d) = S d) → (∀ d, d < 4 → set / 2 ^ d % 2 = 1 → ∀ k, k < 5 → s 12 (5 * (set - 2 ^ d) + k) = M (set - 2 ^ d) k) → (∀ k, k < 5 → s 12 (5 * set + k) = psm B S M set k c) → ∃ z s', d_X12_findPoly_59 n set r f c s = some (z, s') ∧ (∀ q, q ≠ 12 → s' q = s q) ∧ (∀ j, j < 5 * set ∨ 5 * set + 5 ≤ j → s' 12 j = s 12 j) ∧ ∀ k, k < 5 → s' 12 (5 * set + k) = psm B S M set k n := by
  have hp16 : 2 ^ n ≤ 16 := by
    have : (2 : Nat) ^ n ≤ 2 ^ 4 := Nat.pow_le_pow_right (by decide) hn
    omega
  intro m
  induction m with
  | zero =>
    intro c f s hc hf h1 h2 h3
    obtain ⟨f, rfl⟩ : ∃ g, f = g + 1 := ⟨f - 1, by omega⟩
    unfold d_X12_findPoly_59
    have : c = n := by omega
    subst this
    rw [if_pos (by omega), if_pos (by omega)]
    exact ⟨_, _, rfl, fun _ _ => rfl, fun _ _ => rfl, h3⟩
  | succ m ih =>
    intro c f s hc hf h1 h2 h3
    obtain ⟨f, rfl⟩ : ∃ g, f = g + 1 := ⟨f - 1, by omega⟩
    unfold d_X12_findPoly_59
    have e3 : ((c : Int) + 1) = ((c + 1 : Nat) : Int) := by omega
    have e4 : ((set : Int) / 2 ^ c % 2) = ((set / 2 ^ c % 2 : Nat) : Int) := by simp
    have p2 := two_pow_rng (a := c) (by omega)
    simp only [e3, Int.toNat_natCast, e4, two_pow_toNat]
    rw [if_pos (by omega), if_neg (by omega), if_pos (by omega), if_pos (by omega)]
    by_cases q : set / 2 ^ c % 2 = 1
    · obtain ⟨x1, x2, x3⟩ := xor_sub16 set (by omega) c (by omega) q
      obtain ⟨y1, y2⟩ := and_sub16 set (by omega) c (by omega) q
      have hT := h1 c (by omega)
      have hW := h2 c (by omega) q
      have l6 := zpc_le 12 (set / 2 ^ (c + 1))
      have hp : 1 ≤ 2 ^ c := Nat.one_le_two_pow
      have e6 : ((set : Int) - ((2 ^ c : Nat) : Int)) = ((set - 2 ^ c : Nat) : Int) := by omega
      have e7 : (((set - 2 ^ c : Nat) : Int) / 2 ^ c) = (((set - 2 ^ c) / 2 ^ c : Nat) : Int) := by simp
      have l7 : (set - 2 ^ c) / 2 ^ c ≤ set - 2 ^ c := Nat.div_le_self _ _
      rw [if_pos (by omega), if_pos (by omega), if_pos (by omega), y1, e6, if_pos (by omega), e7, e_bits (by omega), y2, Option.bind_some, if_pos (by omega), if_pos (by omega)]
      have main : ∀ sg : Int, sg = sgn set c → ∃ z s', ((d_X12_findPoly_112 n set r c (set - 2 ^ c : Nat) sg zF 0 s).bind fun y30 => d_X12_findPoly_59 n set r f (c + 1 : Nat) y30.2) = some (z, s') ∧ (∀ q, q ≠ 12 → s' q = s q) ∧ (∀ j, j < 5 * set ∨ 5 * set + 5 ≤ j → s' 12 j = s 12 j) ∧ ∀ k, k < 5 → s' 12 (5 * set + k) = psm B S M set k n := by
        intro sg hsg
        obtain ⟨z, s1, a1, a2, a3, a4⟩ := e_fp112 (n := (n : Int)) (set := set) (t := set - 2 ^ c) (r := r) (c := c) (sg := sg) (by omega) (by omega) (by omega) (by omega) 5 0 zF s (by omega) (by unfold zF; omega)
        rw [show ((0 : Nat) : Int) = 0 from rfl] at a1
        rw [a1, Option.bind_some]
        obtain ⟨w, s2, b1, b2, b3, b4⟩ := ih (c + 1) f s1 (by omega) (by omega) (fun d d1 => by rw [a2 10 (by decide), a2 11 (by decide)]; exact h1 d d1) (fun d d1 d2 k hk => by
          obtain ⟨v1, v2, v3⟩ := xor_sub16 set (by omega) d d1 d2
          have hp : 1 ≤ 2 ^ d := Nat.one_le_two_pow
          rw [a3 _ (by omega)]
          exact h2 d d1 d2 k hk) (fun k hk => by
          show s1 12 (5 * set + k) = psm B S M set k c + tmr B S M set k c
          rw [a4 k hk, h3 k hk, hT.1, hT.2, hW k hk, if_pos (Nat.zero_le k)]
          unfold tmr
          rw [if_pos q, ← hsg, Int.mul_right_comm]
          by_cases g0 : k = 0
          · rw [if_neg (by omega), if_pos g0]
            omega
          · rw [if_pos (by omega), if_neg g0, hW (k - 1) (by omega), Int.mul_right_comm sg _ (S c)]
            omega)
        exact ⟨w, s2, b1, fun q hq => by rw [b2 q hq, a2 q hq], fun j hj => by rw [b3 j hj, a3 j hj], b4⟩
      by_cases p : ((zpc 12 (set / 2 ^ (c + 1)) : Nat) : Int) % 2 ≠ 0
      · rw [if_pos p]
        exact main (-1) (by unfold sgn; rw [if_neg (by omega)])
      · rw [if_neg p]
        exact main 1 (by unfold sgn; rw [if_pos (by omega)])
    · rw [if_neg (by omega)]
      refine ih (c + 1) f s (by omega) (by omega) h1 h2 (fun k hk => ?_)
      show s 12 (5 * set + k) = psm B S M set k c + tmr B S M set k c
      rw [h3 k hk]
      unfold tmr
      rw [if_neg q, Int.add_zero]
theorem psm_ext {B S : Nat → Int} {m : Nat → Nat → Int} {set k n : Nat} (hz : ∀ c, n ≤ c → c < 4 → set / 2 ^ c % 2 ≠ 1) : ∀ d, n + d ≤ 4 → psm B S m set k (n + d) = psm B S m set k n := by
  intro d
  induction d with
  | zero => intro _; rfl
  | succ d ih =>
    intro h
    show psm B S m set k (n + d) + tmr B S m set k (n + d) = _
    rw [ih (by omega)]
    unfold tmr
    rw [if_neg (hz (n + d) (by omega) (by omega)), Int.add_zero]
theorem e_fp42 {n : Nat} (hn : 1 ≤ n ∧ n ≤ 4) {B S : Nat → Nat → Int} : ∀ (m set f : Nat) (s : zZ), set + m = 2 ^ n → m + 1 ≤ f → 1 ≤ set → (∀ r c, r < n → c < n → s 10 (4 * r + c) = B r c ∧ s 11 (4 * r + c) = S r c) → (∀ t k, t < set → k < 5 → s 12 (5 * t + k) = mnF B S (zpc 12 t) t k) → (∀ j, 5 * set ≤ j → j < 80 → s 12 j = 0) → ∃ z s', d_X12_findPoly_42 n f set s = some (z, s') ∧ (∀ q, q ≠ 12 → s' q = s q) ∧ ∀ t k, t < 2 ^ n → k < 5 → s' 12 (5 * t + k) = mnF B S (zpc 12 t) t k := by
  have hp : 2 ^ n ≤ 16 := by
    have : (2 : Nat) ^ n ≤ 2 ^ 4 := Nat.pow_le_pow_right (by decide) hn.2
    omega
  have e2 : ((2 : Int) ^ n) = ((2 ^ n : Nat) : Int) := by simp
  intro m
  induction m with
  | zero =>
    intro set f s hs hf h0 h1 h2 h3
    obtain ⟨f, rfl⟩ : ∃ g, f = g + 1 := ⟨f - 1, by omega⟩
    unfold d_X12_findPoly_42
    rw [Int.toNat_natCast, e2, if_pos (by omega), if_pos (by omega), if_pos (by omega)]
    exact ⟨_, _, rfl, fun _ _ => rfl, fun t k ht hk => h2 t k (by omega) hk⟩
  | succ m ih =>
    intro set f s hs hf h0 h1 h2 h3
    obtain ⟨f, rfl⟩ : ∃ g, f = g + 1 := ⟨f - 1, by omega⟩
    unfold d_X12_findPoly_42
    have h16 : set < 16 := by omega
    obtain ⟨p1, p2⟩ := pc_n16 n (by omega) set (by omega)
    have p3 := pc_pos16 set h16 h0
    obtain ⟨r, hr⟩ : ∃ r, zpc 12 set = r + 1 := ⟨zpc 12 set - 1, by omega⟩
    rw [Int.toNat_natCast, e2, if_pos (by omega), if_pos (by omega), if_neg (by omega), e_bits (by omega), Option.bind_some, hr, show (((r + 1 : Nat) : Int) - 1) = (r : Int) by omega]
    obtain ⟨z, s1, a1, a2, a3, a4⟩ := e_fp59 (n := n) (set := set) (r := r) hn.2 (by omega) (by omega) (B := B r) (S := S r) (M := mnF B S r) n 0 zF s (by omega) (by unfold zF; omega) (fun d d1 => h1 r d (by omega) d1) (fun d d1 d2 k hk => by
      obtain ⟨y1, y2, y3⟩ := xor_sub16 set h16 d d1 d2
      have hp : 1 ≤ 2 ^ d := Nat.one_le_two_pow
      rw [h2 (set - 2 ^ d) k (by omega) hk, show zpc 12 (set - 2 ^ d) = r by omega]) (fun k hk => by rw [h3 _ (by omega) (by omega)]; rfl)
    rw [show ((0 : Nat) : Int) = 0 from rfl] at a1
    have e3 : ((set : Int) + 1) = ((set + 1 : Nat) : Int) := by omega
    rw [a1, Option.bind_some, e3]
    obtain ⟨w, s2, b1, b2, b3⟩ := ih (set + 1) f s1 (by omega) (by omega) (by omega) (fun r' c' x y => by rw [a2 _ (by decide), a2 _ (by decide)]; exact h1 r' c' x y) (fun t k ht hk => by
      by_cases q : t = set
      · subst q
        rw [a4 k hk, hr]
        have := psm_ext (B := B r) (S := S r) (m := mnF B S r) (set := t) (k := k) (n := n) (fun c c1 c2 c3 => by have := p2 c c2 c3; omega) (4 - n) (by omega)
        rw [show n + (4 - n) = 4 by omega] at this
        exact this.symm
      · rw [a3 _ (by omega)]
        exact h2 t k (by omega) hk) (fun j x y => by rw [a3 _ (by omega)]; exact h3 j (by omega) y)
    exact ⟨w, s2, b1, fun q hq => by rw [b2 q hq, a2 q hq], b3⟩
theorem e_findPoly {n : Nat} (hn : 1 ≤ n ∧ n ≤ 4) {u : Nat → Int} (hu : ∀ j, 1 ≤ j → j ≤ n → 0 ≤ u j ∧ u j ≤ 20) {s : zZ} (h0 : s 0 14 = ((n + 1 : Nat) : Int)) (h9 : ∀ j, 1 ≤ j → j ≤ n → s 9 j = u j) : ∃ s', d_X12_findPoly s = some s' ∧ (∀ q, q ≠ 10 → q ≠ 11 → q ≠ 12 → s' q = s q) ∧ ∀ k, k < 5 → s' 12 (5 * (2 ^ n - 1) + k) = mnF (Bs u n) Sf n (2 ^ n - 1) k := by
  have hp1 : 1 ≤ 2 ^ n := Nat.one_le_two_pow
  have hp : 2 ^ n ≤ 16 := by
    have : (2 : Nat) ^ n ≤ 2 ^ 4 := Nat.pow_le_pow_right (by decide) hn.2
    omega
  obtain ⟨z, s1, a1, a2, a3⟩ := e_lay9 hn.2 hu n 0 zF s (by omega) (by unfold zF; omega) h9 (fun r' c' h1 h2 h3 => by omega)
  have en : (((n + 1 : Nat) : Int) - 1) = (n : Int) := by omega
  have a1' : d_X12_layTables_9 n zF 1 s = some (z, s1) := a1
  have h01 : s1 0 14 = ((n + 1 : Nat) : Int) := by rw [a2 0 (by decide) (by decide)]; exact h0
  obtain ⟨z2, s2, b1, b2, b3⟩ := e_fp13 (n := (n : Int)) 80 0 zF s1 (by omega) (by unfold zF; omega) (fun j hj => by omega)
  obtain ⟨z3, s3, c1, c2, c3⟩ := e_fp42 hn (B := Bs u n) (S := Sf) (2 ^ n - 1) 1 zF s2 (by omega) (by unfold zF; omega) (by omega) (fun r c hr hc => by rw [b2 10 (by decide), b2 11 (by decide)]; exact a3 r c hr hc (Or.inl hr)) (fun t k ht hk => by
    have : t = 0 := by omega
    subst this
    rw [b3 _ (by omega)]
    show (if 5 * 0 + k = 0 then (1 : Int) else 0) = if k = 0 then 1 else 0
    rw [Nat.mul_zero, Nat.zero_add]) (fun j x y => by rw [b3 j y, if_neg (by omega)])
  rw [show ((0 : Nat) : Int) = 0 from rfl] at b1
  rw [show ((1 : Nat) : Int) = 1 from rfl] at c1
  unfold d_X12_findPoly d_X12_layTables
  rw [h0, en, a1', Option.bind_some, Option.bind_some]
  dsimp only
  rw [h01, en, b1, Option.bind_some, c1]
  refine ⟨s3, rfl, fun q x y w => by rw [c2 q w, b2 q w, a2 q x y], fun k hk => ?_⟩
  rw [c3 (2 ^ n - 1) k (by omega) hk, pc_all n (by omega)]
theorem e_coef {n k : Nat} (hn : 1 ≤ n ∧ n ≤ 4) (hk : k < 5) {s : zZ} (h0 : s 0 14 = ((n + 1 : Nat) : Int)) : d_X12_coefficient s k = some (s 12 (5 * (2 ^ n - 1) + k)) := by
  have hp1 : 1 ≤ 2 ^ n := Nat.one_le_two_pow
  have hp : 2 ^ n ≤ 16 := by
    have : (2 : Nat) ^ n ≤ 2 ^ 4 := Nat.pow_le_pow_right (by decide) hn.2
    omega
  have e2 : ((2 : Int) ^ n) = ((2 ^ n : Nat) : Int) := by simp
  have en : (((n + 1 : Nat) : Int) - 1) = (n : Int) := by omega
  have e3 : (5 * (((2 ^ n : Nat) : Int) - 1) + k).toNat = 5 * (2 ^ n - 1) + k := by omega
  unfold d_X12_coefficient
  rw [h0, en, Int.toNat_natCast, e2, if_pos (by omega), if_pos (by omega), e3]
