/-! the rib: the polynomial of the class -/
theorem e_mm77 {set : Int} {w3 w7 row c : Nat} {sg : Int} (h3 : w3 < 16) (h7 : w7 < 16) (hne : w7 ≠ w3) (hrow : row < 4) (hc : c < 4) : ∀ (m k f : Nat) (s : zZ), k + m = row + 1 → m + 1 ≤ f → ∃ z s', d_X5_makeMinor_77 set row w3 c sg w7 f k s = some (z, s') ∧ (∀ q, q ≠ 13 + w3 → s' q = s q) ∧ ∀ i, s' (13 + w3) i = s (13 + w3) i + (if k ≤ i ∧ i ≤ row then sg * s (3 + row) c * s (13 + w7) i else 0) - (if k + 1 ≤ i ∧ i ≤ row + 1 then sg * s (8 + row) c * s (13 + w7) (i - 1) else 0) := by
  intro m
  induction m with
  | zero =>
    intro k f s hk hf
    obtain ⟨f, rfl⟩ : ∃ g, f = g + 1 := ⟨f - 1, by omega⟩
    unfold d_X5_makeMinor_77
    rw [if_pos (by omega), if_pos (by omega)]
    refine ⟨_, _, rfl, fun _ _ => rfl, fun i => ?_⟩
    rw [if_neg (by omega), if_neg (by omega)]
    omega
  | succ m ih =>
    intro k f s hk hf
    obtain ⟨f, rfl⟩ : ∃ g, f = g + 1 := ⟨f - 1, by omega⟩
    unfold d_X5_makeMinor_77
    have e2 : ((k : Int) + 1).toNat = k + 1 := by omega
    have e3 : ((k : Int) + 1) = ((k + 1 : Nat) : Int) := by omega
    simp only [e2, Int.toNat_natCast]
    rw [if_pos (by omega), if_neg (by omega), if_pos (by omega), if_pos (by omega), if_pos (by omega), if_pos (by omega), if_pos (by omega), if_pos (by omega), if_pos (by omega), if_pos (by omega), if_pos (by omega), if_pos (by omega), e3]
    rw [upz_ne s (13 + w3) k _ (show 8 + row ≠ 13 + w3 by omega), upz_ne s (13 + w3) k _ (show 13 + w7 ≠ 13 + w3 by omega)]
    obtain ⟨z, s', a1, a2, a3⟩ := ih (k + 1) f (upz (upz s (13 + w3) k (s (13 + w3) k + sg * s (3 + row) c * s (13 + w7) k)) (13 + w3) (k + 1) ((upz s (13 + w3) k (s (13 + w3) k + sg * s (3 + row) c * s (13 + w7) k)) (13 + w3) (k + 1) - sg * s (8 + row) c * s (13 + w7) k)) (by omega) (by omega)
    refine ⟨z, s', a1, fun q hq => by rw [a2 q hq, upz_ne _ _ _ _ hq, upz_ne _ _ _ _ hq], fun i => ?_⟩
    rw [a3 i]
    have r1 : ∀ q, q ≠ 13 + w3 → ∀ x y, (upz (upz s (13 + w3) k x) (13 + w3) (k + 1) y) q = s q := fun q hq x y => by rw [upz_ne _ _ _ _ hq, upz_ne _ _ _ _ hq]
    rw [r1 (3 + row) (by omega), r1 (8 + row) (by omega), r1 (13 + w7) (by omega)]
    simp only [upz_at, ↓reduceIte]
    by_cases q1 : i = k
    · subst q1
      rw [if_neg (show ¬ (i = i + 1) by omega), if_pos rfl, if_neg (show ¬ (i + 1 ≤ i ∧ i ≤ row) by omega), if_neg (show ¬ (i + 1 + 1 ≤ i ∧ i ≤ row + 1) by omega), if_pos (show i ≤ i ∧ i ≤ row by omega), if_neg (show ¬ (i + 1 ≤ i ∧ i ≤ row + 1) by omega)]
      omega
    · by_cases q2 : i = k + 1
      · subst q2
        rw [if_pos rfl, if_neg (show ¬ (k + 1 = k) by omega), if_neg (show ¬ (k + 1 + 1 ≤ k + 1 ∧ k + 1 ≤ row + 1) by omega), if_pos (show k + 1 ≤ k + 1 ∧ k + 1 ≤ row + 1 by omega), show k + 1 - 1 = k from rfl]
        by_cases q3 : k + 1 ≤ row
        · rw [if_pos (by omega), if_pos (by omega)]
          omega
        · rw [if_neg (by omega), if_neg (by omega)]
          omega
      · rw [if_neg q2, if_neg q1]
        have d1 : (k + 1 ≤ i ∧ i ≤ row) = (k ≤ i ∧ i ≤ row) := by apply propext; omega
        have d2 : (k + 1 + 1 ≤ i ∧ i ≤ row + 1) = (k + 1 ≤ i ∧ i ≤ row + 1) := by apply propext; omega
        simp only [d1, d2]
theorem xor_sub16 : ∀ set : Nat, set < 16 → ∀ c : Nat, c < 4 → set / 2 ^ c % 2 = 1 → set ^^^ 2 ^ c = set - 2 ^ c ∧ 2 ^ c ≤ set ∧ zpc 12 (set - 2 ^ c) + 1 = zpc 12 set := by decide
theorem pc_n16 : ∀ n : Nat, n < 5 → ∀ set : Nat, set < 2 ^ n → zpc 12 set ≤ n ∧ ∀ c : Nat, c < 4 → set / 2 ^ c % 2 = 1 → c < n := by decide
theorem pc_pos16 : ∀ set : Nat, set < 16 → 1 ≤ set → 1 ≤ zpc 12 set := by decide
theorem pc_all : ∀ n : Nat, n < 5 → zpc 12 (2 ^ n - 1) = n := by decide
theorem e_mm22 {set r : Nat} (h16 : set < 16) (hr : r < 4) {B S : Nat → Int} {M : Nat → Nat → Int} (hM : ∀ t i, r < i → M t i = 0) : ∀ (m c f : Nat) (s : zZ), c + m = 4 → m + 1 ≤ f → (∀ d, d < 4 → set / 2 ^ d % 2 = 1 → s (3 + r) d = B d ∧ s (8 + r) d = S d) → (∀ d, d < 4 → set / 2 ^ d % 2 = 1 → ∀ k, k < 5 → s (13 + (set - 2 ^ d)) k = M (set - 2 ^ d) k) → (∀ k, k < 5 → s (13 + set) k = psm B S M set k c) → ∃ z s', d_X5_makeMinor_22 set r set f c s = some (z, s') ∧ (∀ q, q ≠ 13 + set → s' q = s q) ∧ ∀ k, k < 5 → s' (13 + set) k = psm B S M set k 4 := by
  intro m
  induction m with
  | zero =>
    intro c f s hc hf h1 h2 h3
    obtain ⟨f, rfl⟩ : ∃ g, f = g + 1 := ⟨f - 1, by omega⟩
    unfold d_X5_makeMinor_22
    have : c = 4 := by omega
    subst this
    rw [if_pos (by omega), if_pos (by omega)]
    exact ⟨_, _, rfl, fun _ _ => rfl, h3⟩
  | succ m ih =>
    intro c f s hc hf h1 h2 h3
    obtain ⟨f, rfl⟩ : ∃ g, f = g + 1 := ⟨f - 1, by omega⟩
    unfold d_X5_makeMinor_22
    have e3 : ((c : Int) + 1) = ((c + 1 : Nat) : Int) := by omega
    have e4 : ((set : Int) / 2 ^ c % 2) = ((set / 2 ^ c % 2 : Nat) : Int) := by simp
    have e5 : ((set : Int) / 2 ^ (c + 1)) = ((set / 2 ^ (c + 1) : Nat) : Int) := by simp
    have l5 : set / 2 ^ (c + 1) ≤ set := Nat.div_le_self _ _
    have p2 := two_pow_rng (a := c) (by omega)
    simp only [e3, Int.toNat_natCast, e4, e5, two_pow_toNat]
    rw [if_pos (by omega), if_neg (by omega), if_pos (by omega), if_pos (by omega)]
    by_cases q : set / 2 ^ c % 2 = 1
    · obtain ⟨x1, x2, x3⟩ := xor_sub16 set h16 c (by omega) q
      have hT := h1 c (by omega) q
      have hW := h2 c (by omega) q
      have l6 := zpc_le 12 (set / 2 ^ (c + 1))
      have hp : 1 ≤ 2 ^ c := Nat.one_le_two_pow
      rw [if_neg (by omega), if_pos (by omega), e_bc (by omega), Option.bind_some, if_pos (by omega), x1]
      have main : ∀ sg : Int, sg = sgn set c → ∃ z s', ((d_X5_makeMinor_77 set r set c sg (set - 2 ^ c : Nat) zF 0 s).bind fun y20 => d_X5_makeMinor_22 set r set f (c + 1 : Nat) y20.2) = some (z, s') ∧ (∀ q, q ≠ 13 + set → s' q = s q) ∧ ∀ k, k < 5 → s' (13 + set) k = psm B S M set k 4 := by
        intro sg hsg
        obtain ⟨z, s1, a1, a2, a3⟩ := e_mm77 (set := (set : Int)) (w3 := set) (w7 := set - 2 ^ c) (row := r) (c := c) (sg := sg) h16 (by omega) (by omega) hr (by omega) (r + 1) 0 zF s (by omega) (by unfold zF; omega)
        rw [show ((0 : Nat) : Int) = 0 from rfl] at a1
        rw [a1, Option.bind_some]
        obtain ⟨w, s2, b1, b2, b3⟩ := ih (c + 1) f s1 (by omega) (by omega) (fun d d1 d2 => by rw [a2 (3 + r) (by omega), a2 (8 + r) (by omega)]; exact h1 d d1 d2) (fun d d1 d2 k hk => by
          obtain ⟨y1, y2, y3⟩ := xor_sub16 set h16 d d1 d2
          have hp : 1 ≤ 2 ^ d := Nat.one_le_two_pow
          rw [a2 _ (by omega)]
          exact h2 d d1 d2 k hk) (fun k hk => by
          show s1 (13 + set) k = psm B S M set k c + tmr B S M set k c
          rw [a3 k, h3 k hk, hT.1, hT.2, hW k hk]
          unfold tmr
          rw [if_pos q, ← hsg]
          have v1 : (if 0 ≤ k ∧ k ≤ r then sg * B c * M (set - 2 ^ c) k else 0) = sg * B c * M (set - 2 ^ c) k := by
            by_cases g : k ≤ r
            · rw [if_pos (by omega)]
            · rw [if_neg (by omega), hM _ k (by omega), Int.mul_zero]
          have v2 : (if 0 + 1 ≤ k ∧ k ≤ r + 1 then sg * S c * s (13 + (set - 2 ^ c)) (k - 1) else 0) = if k = 0 then 0 else sg * S c * M (set - 2 ^ c) (k - 1) := by
            by_cases g0 : k = 0
            · rw [if_neg (by omega), if_pos g0]
            · rw [if_neg g0, ← hW (k - 1) (by omega)]
              by_cases g : k ≤ r + 1
              · rw [if_pos (by omega)]
              · rw [if_neg (by omega), hW (k - 1) (by omega), hM _ (k - 1) (by omega), Int.mul_zero]
          rw [v1, v2]
          omega)
        exact ⟨w, s2, b1, fun q hq => by rw [b2 q hq, a2 q hq], b3⟩
      by_cases p : ((zpc 12 (set / 2 ^ (c + 1)) : Nat) : Int) % 2 ≠ 0
      · rw [if_pos p, if_pos (by omega), if_pos (by omega), if_pos (by omega)]
        exact main (-1) (by unfold sgn; rw [if_neg (by omega)])
      · rw [if_neg p, if_pos (by omega), if_pos (by omega), if_pos (by omega)]
        exact main 1 (by unfold sgn; rw [if_pos (by omega)])
    · rw [if_pos (by omega)]
      refine ih (c + 1) f s (by omega) (by omega) h1 h2 (fun k hk => ?_)
      show s (13 + set) k = psm B S M set k c + tmr B S M set k c
      rw [h3 k hk]
      unfold tmr
      rw [if_neg q, Int.add_zero]
theorem e_mp32 {n : Nat} (hn : 1 ≤ n ∧ n ≤ 4) {B S : Nat → Nat → Int} : ∀ (m set f : Nat) (s : zZ), set + m = 2 ^ n → m + 1 ≤ f → 1 ≤ set → (∀ r c, r < n → c < n → s (3 + r) c = B r c ∧ s (8 + r) c = S r c) → (∀ t k, t < set → k < 5 → s (13 + t) k = mnF B S (zpc 12 t) t k) → ∃ z s', d_X5_makePolynomial_32 n f set s = some (z, s') ∧ (∀ q, q < 13 ∨ 29 ≤ q → s' q = s q) ∧ ∀ t k, t < 2 ^ n → k < 5 → s' (13 + t) k = mnF B S (zpc 12 t) t k := by
  have hp : 2 ^ n ≤ 16 := by
    have : (2 : Nat) ^ n ≤ 2 ^ 4 := Nat.pow_le_pow_right (by decide) hn.2
    omega
  have e2 : ((2 : Int) ^ n) = ((2 ^ n : Nat) : Int) := by simp
  intro m
  induction m with
  | zero =>
    intro set f s hs hf h0 h1 h2
    obtain ⟨f, rfl⟩ : ∃ g, f = g + 1 := ⟨f - 1, by omega⟩
    unfold d_X5_makePolynomial_32
    rw [Int.toNat_natCast, e2, if_pos (by omega), if_pos (by omega), if_pos (by omega)]
    exact ⟨_, _, rfl, fun _ _ => rfl, fun t k ht hk => h2 t k (by omega) hk⟩
  | succ m ih =>
    intro set f s hs hf h0 h1 h2
    obtain ⟨f, rfl⟩ : ∃ g, f = g + 1 := ⟨f - 1, by omega⟩
    unfold d_X5_makePolynomial_32 d_X5_makeMinor
    have h16 : set < 16 := by omega
    obtain ⟨p1, p2⟩ := pc_n16 n (by omega) set (by omega)
    have p3 := pc_pos16 set h16 h0
    obtain ⟨r, hr⟩ : ∃ r, zpc 12 set = r + 1 := ⟨zpc 12 set - 1, by omega⟩
    rw [Int.toNat_natCast, e2, if_pos (by omega), if_pos (by omega), if_neg (by omega), e_bc (by omega), Option.bind_some, hr, show (((r + 1 : Nat) : Int) - 1) = (r : Int) by omega, if_pos (by omega), Int.toNat_natCast, if_pos h16]
    have z1 : ∀ q, q ≠ 13 + set → zfl s (13 + set) 5 0 q = s q := by
      intro q hq
      funext j
      rw [zfl_at, if_neg hq]
    obtain ⟨z, s1, a1, a2, a3⟩ := e_mm22 (set := set) (r := r) h16 (by omega) (B := B r) (S := S r) (M := mnF B S r) (fun t i hi => mnF_deg B S r t i hi) 4 0 zF (zfl s (13 + set) 5 0) (by omega) (by unfold zF; omega) (fun d d1 d2 => by
      rw [z1 (3 + r) (by omega), z1 (8 + r) (by omega)]
      exact h1 r d (by omega) (p2 d d1 d2)) (fun d d1 d2 k hk => by
      obtain ⟨y1, y2, y3⟩ := xor_sub16 set h16 d d1 d2
      have hp : 1 ≤ 2 ^ d := Nat.one_le_two_pow
      rw [z1 _ (by omega), h2 (set - 2 ^ d) k (by omega) hk, show zpc 12 (set - 2 ^ d) = r by omega]) (fun k hk => by rw [zfl_at, if_pos rfl, if_pos hk]; rfl)
    rw [show ((0 : Nat) : Int) = 0 from rfl] at a1
    have e3 : ((set : Int) + 1) = ((set + 1 : Nat) : Int) := by omega
    rw [a1, Option.bind_some, Option.bind_some, e3]
    obtain ⟨w, s2, b1, b2, b3⟩ := ih (set + 1) f s1 (by omega) (by omega) (by omega) (fun r' c' x y => by rw [a2 _ (by omega), a2 _ (by omega), z1 _ (by omega), z1 _ (by omega)]; exact h1 r' c' x y) (fun t k ht hk => by
      by_cases q : t = set
      · subst q
        rw [a3 k hk, hr]
        rfl
      · rw [a2 _ (by omega), z1 _ (by omega)]
        exact h2 t k (by omega) hk)
    exact ⟨w, s2, b1, fun q hq => by rw [b2 q hq, a2 q (by omega), z1 q (by omega)], b3⟩
theorem e_mp58 {n t : Nat} (hn : n ≤ 4) (ht : t < 16) : ∀ (m k f : Nat) (s : zZ), k + m = n + 1 → m + 1 ≤ f → (∀ i, i < k → s 29 i = s (13 + t) i) → ∃ z s', d_X5_makePolynomial_58 n t f k s = some (z, s') ∧ (∀ q, q ≠ 29 → s' q = s q) ∧ ∀ i, i < n + 1 → s' 29 i = s (13 + t) i := by
  intro m
  induction m with
  | zero =>
    intro k f s hk hf h
    obtain ⟨f, rfl⟩ : ∃ g, f = g + 1 := ⟨f - 1, by omega⟩
    unfold d_X5_makePolynomial_58
    rw [if_pos (by omega), if_pos (by omega)]
    exact ⟨_, _, rfl, fun _ _ => rfl, fun i hi => h i (by omega)⟩
  | succ m ih =>
    intro k f s hk hf h
    obtain ⟨f, rfl⟩ : ∃ g, f = g + 1 := ⟨f - 1, by omega⟩
    unfold d_X5_makePolynomial_58
    have e3 : ((k : Int) + 1) = ((k + 1 : Nat) : Int) := by omega
    simp only [e3, Int.toNat_natCast]
    rw [if_pos (by omega), if_neg (by omega), if_pos (by omega), if_pos (by omega), if_pos (by omega)]
    obtain ⟨z, s', a1, a2, a3⟩ := ih (k + 1) f (upz s 29 k (s (13 + t) k)) (by omega) (by omega) (fun i hi => by
      rw [upz_at, if_pos rfl, upz_ne _ _ _ _ (show 13 + t ≠ 29 by omega)]
      by_cases q : i = k
      · rw [if_pos q, q]
      · rw [if_neg q]
        exact h i (by omega))
    refine ⟨z, s', a1, fun q hq => by rw [a2 q hq, upz_ne _ _ _ _ hq], fun i hi => ?_⟩
    rw [a3 i hi, upz_ne _ _ _ _ (show 13 + t ≠ 29 by omega)]
theorem e_makePoly {n : Nat} (hn : 1 ≤ n ∧ n ≤ 4) {u : Nat → Int} (hu : ∀ j, 1 ≤ j → j ≤ n → 0 ≤ u j ∧ u j ≤ 20) {s : zZ} (h0 : s 0 0 = ((n + 1 : Nat) : Int)) (h1 : ∀ i, 1 ≤ i → i ≤ n → s 1 i = u i) : ∃ s', d_X5_makePolynomial s = some s' ∧ s' 0 = s 0 ∧ s' 1 = s 1 ∧ ∀ k, k < n + 1 → s' 29 k = mnF (Bs u n) Sf n (2 ^ n - 1) k := by
  have hp : 2 ^ n ≤ 16 := by
    have : (2 : Nat) ^ n ≤ 2 ^ 4 := Nat.pow_le_pow_right (by decide) hn.2
    omega
  have hp1 : 1 ≤ 2 ^ n := Nat.one_le_two_pow
  have e2 : ((2 : Int) ^ n) = ((2 ^ n : Nat) : Int) := by simp
  obtain ⟨s1, a1, a2, a3⟩ := e_fill hn hu h0 h1
  have en : (((n + 1 : Nat) : Int) - 1) = (n : Int) := by omega
  unfold d_X5_makePolynomial
  rw [h0, en, a1, Option.bind_some]
  have z1 : ∀ q, q ≠ 13 → upz (zfl s1 13 5 0) 13 0 1 q = s1 q := by
    intro q hq
    funext j
    rw [upz_ne _ _ _ _ hq, zfl_at, if_neg hq]
  obtain ⟨z, s2, b1, b2, b3⟩ := e_mp32 hn (B := Bs u n) (S := Sf) (2 ^ n - 1) 1 zF (upz (zfl s1 13 5 0) 13 0 1) (by omega) (by unfold zF; omega) (by omega) (fun r c x y => by rw [z1 _ (by omega), z1 _ (by omega)]; exact a3 r c x y) (fun t k ht hk => by
    have : t = 0 := by omega
    subst this
    rw [show 13 + 0 = 13 from rfl, upz_at, if_pos rfl, zfl_at, if_pos rfl, if_pos hk]
    rfl)
  obtain ⟨w, s3, c1, c2, c3⟩ := e_mp58 (n := n) (t := 2 ^ n - 1) hn.2 (by omega) (n + 1) 0 zF s2 (by omega) (by unfold zF; omega) (fun i hi => by omega)
  rw [show ((1 : Nat) : Int) = 1 from rfl] at b1
  rw [show ((0 : Nat) : Int) = 0 from rfl] at c1
  rw [b1, Option.bind_some, if_pos (by omega), Int.toNat_natCast, e2, show (((2 ^ n : Nat) : Int) - 1) = ((2 ^ n - 1 : Nat) : Int) by omega, c1]
  refine ⟨s3, rfl, by rw [c2 0 (by decide), b2 0 (by omega), z1 0 (by decide), a2 0 (by omega)], by rw [c2 1 (by decide), b2 1 (by omega), z1 1 (by decide), a2 1 (by omega)], fun k hk => ?_⟩
  rw [c3 k hk, b3 (2 ^ n - 1) k (by omega) (by omega), pc_all n (by omega)]
