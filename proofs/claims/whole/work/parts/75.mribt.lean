/-! the rib: moving, in the class and in the reference -/
theorem e_sh13 {n : Nat} (hn : n ≤ 4) {a b : Int} (hb : zr b) : ∀ (j f : Nat) (pw : Int) (s : zZ), j ≤ n + 1 → j + 1 ≤ f → pw = b ^ (n + 1 - j) → (∀ i, j ≤ i → i ≤ n → s 30 i = s 29 i * b ^ (n - i)) → ∃ w z s', d_X5_shiftTo_13 a b n f pw ((j : Int) - 1) s = some (w, z, s') ∧ (∀ q, q ≠ 30 → s' q = s q) ∧ ∀ i, i ≤ n → s' 30 i = s 29 i * b ^ (n - i) := by
  intro j
  induction j with
  | zero =>
    intro f pw s hj hf hp h
    obtain ⟨f, rfl⟩ : ∃ g, f = g + 1 := ⟨f - 1, by omega⟩
    unfold d_X5_shiftTo_13
    rw [if_pos (by omega), if_pos (by omega)]
    exact ⟨_, _, _, rfl, fun _ _ => rfl, fun i hi => h i (by omega) hi⟩
  | succ j ih =>
    intro f pw s hj hf hp h
    obtain ⟨f, rfl⟩ : ∃ g, f = g + 1 := ⟨f - 1, by omega⟩
    unfold d_X5_shiftTo_13
    have e1 : (((j + 1 : Nat) : Int) - 1) = (j : Int) := by omega
    simp only [e1, Int.toNat_natCast]
    rw [if_pos (by omega), if_neg (by omega), if_pos (by omega), if_pos (by omega), if_pos hb, show (j : Int) + -1 = (j : Int) - 1 by omega]
    obtain ⟨w, z, s', a1, a2, a3⟩ := ih f (pw * b) (upz s 30 j (s 29 j * pw)) (by omega) (by omega) (by rw [hp, show n + 1 - j = (n + 1 - (j + 1)) + 1 by omega, Int.pow_succ]) (fun i x y => by
      rw [upz_at, if_pos rfl, upz_ne _ _ _ _ (show 29 ≠ 30 by decide)]
      by_cases q : i = j
      · rw [if_pos q, hp, q, show n + 1 - (j + 1) = n - j by omega]
      · rw [if_neg q]
        exact h i (by omega) y)
    refine ⟨w, z, s', a1, fun q hq => by rw [a2 q hq, upz_ne _ _ _ _ hq], fun i hi => ?_⟩
    rw [a3 i hi, upz_ne _ _ _ _ (show 29 ≠ 30 by decide)]
theorem e_sh62 {n d : Nat} (hn : n ≤ 4) {a b pw : Int} (ha : zr a) {V : Nat → Int} : ∀ (m j f : Nat) (s : zZ), j = d + m → j ≤ n → m + 1 ≤ f → (∀ i, j ≤ i → i ≤ n → s 30 i = psa a V (n - i) i) → (∀ i, i < j → s 30 i = V i) → ∃ z s', d_X5_shiftTo_62 a b n pw d f ((j : Int) - 1) s = some (z, s') ∧ (∀ q, q ≠ 30 → s' q = s q) ∧ ∀ i, i ≤ n → s' 30 i = if d ≤ i ∧ i < n then psa a V (n - i) i else V i := by
  intro m
  induction m with
  | zero =>
    intro j f s hj hn2 hf h1 h2
    obtain ⟨f, rfl⟩ : ∃ g, f = g + 1 := ⟨f - 1, by omega⟩
    unfold d_X5_shiftTo_62
    rw [if_pos (by omega), if_pos (by omega)]
    refine ⟨_, _, rfl, fun _ _ => rfl, fun i hi => ?_⟩
    by_cases q : d ≤ i ∧ i < n
    · rw [if_pos q]
      exact h1 i (by omega) hi
    · rw [if_neg q]
      by_cases q2 : i = n
      · subst q2
        by_cases q3 : i < j
        · exact h2 i q3
        · rw [h1 i (by omega) hi, Nat.sub_self]
          rfl
      · exact h2 i (by omega)
  | succ m ih =>
    intro j f s hj hn2 hf h1 h2
    obtain ⟨f, rfl⟩ : ∃ g, f = g + 1 := ⟨f - 1, by omega⟩
    obtain ⟨k, rfl⟩ : ∃ k, j = k + 1 := ⟨j - 1, by omega⟩
    unfold d_X5_shiftTo_62
    have e1 : (((k + 1 : Nat) : Int) - 1) = (k : Int) := by omega
    have e2 : ((k : Int) + 1).toNat = k + 1 := by omega
    simp only [e1, e2, Int.toNat_natCast]
    rw [if_pos (by omega), if_neg (by omega), if_pos (by omega), if_pos ha, if_pos (by omega), if_pos (by omega), show (k : Int) + -1 = (k : Int) - 1 by omega]
    have e3 : s 30 k + a * s 30 (k + 1) = psa a V (n - k) k := by
      rw [h2 k (by omega), h1 (k + 1) (by omega) (by omega), show n - k = (n - (k + 1)) + 1 by omega]
      rfl
    rw [e3]
    obtain ⟨z, s', a1, a2, a3⟩ := ih k f (upz s 30 k (psa a V (n - k) k)) (by omega) (by omega) (by omega) (fun i x y => by
      rw [upz_at, if_pos rfl]
      by_cases q : i = k
      · rw [if_pos q, q]
      · rw [if_neg q]
        exact h1 i (by omega) y) (fun i x => by
      rw [upz_at, if_pos rfl, if_neg (by omega)]
      exact h2 i (by omega))
    exact ⟨z, s', a1, fun q hq => by rw [a2 q hq, upz_ne _ _ _ _ hq], a3⟩
theorem e_sh51 {n : Nat} (hn : n ≤ 4) {a b pw : Int} (ha : zr a) {p : Nat → Int} : ∀ (m d f : Nat) (s : zZ), d + m = n → m + 1 ≤ f → (∀ i, i ≤ n → s 30 i = psv a n p d i) → ∃ z s', d_X5_shiftTo_51 a b n pw f d s = some (z, s') ∧ (∀ q, q ≠ 30 → s' q = s q) ∧ ∀ i, i ≤ n → s' 30 i = psv a n p n i := by
  intro m
  induction m with
  | zero =>
    intro d f s hd hf h
    obtain ⟨f, rfl⟩ : ∃ g, f = g + 1 := ⟨f - 1, by omega⟩
    unfold d_X5_shiftTo_51
    have : d = n := by omega
    subst this
    rw [if_pos (by omega), if_pos (by omega)]
    exact ⟨_, _, rfl, fun _ _ => rfl, h⟩
  | succ m ih =>
    intro d f s hd hf h
    obtain ⟨f, rfl⟩ : ∃ g, f = g + 1 := ⟨f - 1, by omega⟩
    unfold d_X5_shiftTo_51
    obtain ⟨z, s1, a1, a2, a3⟩ := e_sh62 (n := n) (d := d) hn (a := a) (b := b) (pw := pw) ha (V := psv a n p d) (n - d) n zF s (by omega) (by omega) (by unfold zF; omega) (fun i x y => by
      have : i = n := by omega
      subst this
      rw [h i (by omega), Nat.sub_self]
      rfl) (fun i x => h i (by omega))
    have e3 : ((d : Int) + 1) = ((d + 1 : Nat) : Int) := by omega
    rw [if_pos (by omega), if_neg (by omega), a1, Option.bind_some, e3]
    obtain ⟨w, s2, b1, b2, b3⟩ := ih (d + 1) f s1 (by omega) (by omega) a3
    exact ⟨w, s2, b1, fun q hq => by rw [b2 q hq, a2 q hq], b3⟩
theorem e_shiftTo {n : Nat} (hn : n ≤ 4) {a b : Int} (ha : zr a) (hb : zr b) {s : zZ} (h0 : s 0 0 = ((n + 1 : Nat) : Int)) : ∃ s', d_X5_shiftTo s a b = some s' ∧ (∀ q, q ≠ 30 → s' q = s q) ∧ ∀ i, i ≤ n → s' 30 i = psv a n (fun j => s 29 j * b ^ (n - j)) n i := by
  obtain ⟨w, z, s1, a1, a2, a3⟩ := e_sh13 hn (a := a) hb (n + 1) zF 1 s (by omega) (by unfold zF; omega) (by rw [Nat.sub_self, Int.pow_zero]) (fun i x y => by omega)
  obtain ⟨z2, s2, b1, b2, b3⟩ := e_sh51 hn (b := b) (pw := w) ha (p := fun j => s 29 j * b ^ (n - j)) n 0 zF s1 (by omega) (by unfold zF; omega) a3
  have en : (((n + 1 : Nat) : Int) - 1) = (n : Int) := by omega
  rw [en] at a1
  rw [show ((0 : Nat) : Int) = 0 from rfl] at b1
  unfold d_X5_shiftTo
  rw [h0, en, a1, Option.bind_some]
  dsimp only
  rw [b1]
  exact ⟨s2, rfl, fun q hq => by rw [b2 q hq, a2 q hq], b3⟩
theorem e_sm14 {a b n : Int} : ∀ (m i f : Nat) (s : zZ), i + m = 5 → m + 1 ≤ f → (∀ j, j < i → s 13 j = 0) → ∃ z s', d_X12_shift_14 a b n f i s = some (z, s') ∧ (∀ q, q ≠ 13 → s' q = s q) ∧ ∀ j, j < 5 → s' 13 j = 0 := by
  intro m
  induction m with
  | zero =>
    intro i f s hi hf h
    obtain ⟨f, rfl⟩ : ∃ g, f = g + 1 := ⟨f - 1, by omega⟩
    unfold d_X12_shift_14
    rw [if_pos (by omega), if_pos (by omega)]
    exact ⟨_, _, rfl, fun _ _ => rfl, fun j hj => h j (by omega)⟩
  | succ m ih =>
    intro i f s hi hf h
    obtain ⟨f, rfl⟩ : ∃ g, f = g + 1 := ⟨f - 1, by omega⟩
    unfold d_X12_shift_14
    have e3 : ((i : Int) + 1) = ((i + 1 : Nat) : Int) := by omega
    simp only [e3, Int.toNat_natCast]
    rw [if_pos (by omega), if_neg (by omega), if_pos (by omega)]
    obtain ⟨z, s', a1, a2, a3⟩ := ih (i + 1) f (upz s 13 i 0) (by omega) (by omega) (fun j hj => by
      rw [upz_at, if_pos rfl]
      by_cases q : j = i
      · rw [if_pos q]
      · rw [if_neg q]
        exact h j (by omega))
    exact ⟨z, s', a1, fun q hq => by rw [a2 q hq, upz_ne _ _ _ _ hq], a3⟩
theorem e_sm48 {a b n by_ k : Int} (ha : zr a) (hb : zr b) {V : Nat → Int} : ∀ (j f : Nat) (s : zZ), j ≤ 5 → j + 1 ≤ f → (∀ i, i < j → s 13 i = V i) → (∀ i, j ≤ i → i < 5 → s 13 i = V i * a - (if i = 0 then 0 else V (i - 1) * b)) → ∃ z s', d_X12_shift_48 a b n by_ k f ((j : Int) - 1) s = some (z, s') ∧ (∀ q, q ≠ 13 → s' q = s q) ∧ ∀ i, i < 5 → s' 13 i = V i * a - (if i = 0 then 0 else V (i - 1) * b) := by
  intro j
  induction j with
  | zero =>
    intro f s hj hf h1 h2
    obtain ⟨f, rfl⟩ : ∃ g, f = g + 1 := ⟨f - 1, by omega⟩
    unfold d_X12_shift_48
    rw [if_pos (by omega), if_pos (by omega)]
    exact ⟨_, _, rfl, fun _ _ => rfl, fun i hi => h2 i (by omega) hi⟩
  | succ j ih =>
    intro f s hj hf h1 h2
    obtain ⟨f, rfl⟩ : ∃ g, f = g + 1 := ⟨f - 1, by omega⟩
    unfold d_X12_shift_48
    have e1 : (((j + 1 : Nat) : Int) - 1) = (j : Int) := by omega
    have e2 : ((j : Int) - 1).toNat = j - 1 := by omega
    simp only [e1, e2, Int.toNat_natCast]
    rw [if_pos (by omega), if_neg (by omega), if_pos (by omega), if_pos ha, if_pos (by omega), show (j : Int) + -1 = (j : Int) - 1 by omega]
    have fin : ∀ v, (v = V j * a - (if j = 0 then 0 else V (j - 1) * b)) → ∃ z s', d_X12_shift_48 a b n by_ k f ((j : Int) - 1) (upz s 13 j v) = some (z, s') ∧ (∀ q, q ≠ 13 → s' q = s q) ∧ ∀ i, i < 5 → s' 13 i = V i * a - (if i = 0 then 0 else V (i - 1) * b) := by
      intro v hv
      obtain ⟨z, s', a1, a2, a3⟩ := ih f (upz s 13 j v) (by omega) (by omega) (fun i x => by
        rw [upz_at, if_pos rfl, if_neg (by omega)]
        exact h1 i (by omega)) (fun i x y => by
        rw [upz_at, if_pos rfl]
        by_cases q : i = j
        · rw [if_pos q, hv, q]
        · rw [if_neg q]
          exact h2 i (by omega) y)
      exact ⟨z, s', a1, fun q hq => by rw [a2 q hq, upz_ne _ _ _ _ hq], a3⟩
    by_cases q : j = 0
    · rw [if_pos (by omega), if_pos (by omega)]
      exact fin _ (by rw [if_pos q, h1 j (by omega)])
    · rw [if_neg (by omega), if_pos (by omega), if_pos hb, if_pos (by omega)]
      exact fin _ (by rw [if_neg q, h1 j (by omega), h1 (j - 1) (by omega)])
theorem e_sm40 {n : Nat} (hn : 1 ≤ n ∧ n ≤ 4) {a b : Int} (ha : zr a) (hb : zr b) {c : Nat → Int} : ∀ (j f : Nat) (by_ : Int) (s : zZ), j ≤ n + 1 → j + 1 ≤ f → by_ = b ^ (n + 1 - j) → s 0 14 = ((n + 1 : Nat) : Int) → (∀ k, k < 5 → s 12 (5 * (2 ^ n - 1) + k) = c k) → (∀ i, i < 5 → s 13 i = hsv a b n (fun j => c j * b ^ (n - j)) (n + 1 - j) i) → ∃ w z s', d_X12_shift_40 a b n f by_ ((j : Int) - 1) s = some (w, z, s') ∧ (∀ q, q ≠ 13 → s' q = s q) ∧ ∀ i, i < 5 → s' 13 i = hsv a b n (fun j => c j * b ^ (n - j)) (n + 1) i := by
  intro j
  induction j with
  | zero =>
    intro f by_ s hj hf hb0 h0 h12 h13
    obtain ⟨f, rfl⟩ : ∃ g, f = g + 1 := ⟨f - 1, by omega⟩
    unfold d_X12_shift_40
    rw [if_pos (by omega), if_pos (by omega)]
    exact ⟨_, _, _, rfl, fun _ _ => rfl, h13⟩
  | succ j ih =>
    intro f by_ s hj hf hb0 h0 h12 h13
    obtain ⟨f, rfl⟩ : ∃ g, f = g + 1 := ⟨f - 1, by omega⟩
    unfold d_X12_shift_40
    have e1 : (((j + 1 : Nat) : Int) - 1) = (j : Int) := by omega
    obtain ⟨z, s1, a1, a2, a3⟩ := e_sm48 (n := n) (by_ := by_) (k := j) ha hb (V := s 13) 5 zF s (by omega) (by unfold zF; omega) (fun i _ => rfl) (fun i x y => by omega)
    have a1' : d_X12_shift_48 a b n by_ j zF 4 s = some (z, s1) := a1
    rw [e1, if_pos (by omega), if_neg (by omega), a1', Option.bind_some]
    dsimp only
    rw [e_coef hn (k := j) (by omega) (s := s1) (by rw [a2 0 (by decide)]; exact h0), Option.bind_some, if_pos hb, show (j : Int) + -1 = (j : Int) - 1 by omega, a2 12 (by decide), h12 j (by omega)]
    obtain ⟨w, z, s', b1, b2, b3⟩ := ih f (by_ * b) (upz s1 13 0 (s1 13 0 + c j * by_)) (by omega) (by omega) (by rw [hb0, show n + 1 - j = (n + 1 - (j + 1)) + 1 by omega, Int.pow_succ]) (by rw [upz_ne _ _ _ _ (by decide), a2 0 (by decide)]; exact h0) (fun k hk => by rw [upz_ne _ _ _ _ (by decide), a2 12 (by decide)]; exact h12 k hk) (fun i hi => by
      rw [show n + 1 - j = (n + 1 - (j + 1)) + 1 by omega]
      show _ = hst a b (c (n - (n + 1 - (j + 1))) * b ^ (n - (n - (n + 1 - (j + 1))))) (hsv a b n (fun j => c j * b ^ (n - j)) (n + 1 - (j + 1))) i
      unfold hst
      rw [upz_at, if_pos rfl, a3 0 (by omega), if_pos rfl]
      rw [show n - (n + 1 - (j + 1)) = j by omega, show n - j = n + 1 - (j + 1) by omega, ← hb0]
      by_cases q : i = 0
      · subst q
        rw [if_pos rfl, if_pos rfl, if_pos rfl, h13 0 (by omega)]
      · rw [if_neg q, if_neg q, if_neg q, a3 i hi, if_neg q, h13 i hi, h13 (i - 1) (by omega), Int.add_zero])
    exact ⟨w, z, s', b1, fun q hq => by rw [b2 q hq, upz_ne _ _ _ _ hq, a2 q hq], b3⟩
theorem e_shift {n : Nat} (hn : 1 ≤ n ∧ n ≤ 4) {u : Nat → Int} (hu : ∀ j, 1 ≤ j → j ≤ n → 0 ≤ u j ∧ u j ≤ 20) {a b : Int} (ha : zr a) (hb : zr b) {s : zZ} (h0 : s 0 14 = ((n + 1 : Nat) : Int)) (h9 : ∀ j, 1 ≤ j → j ≤ n → s 9 j = u j) : ∃ s', d_X12_shift s a b = some s' ∧ (∀ q, q ≠ 10 → q ≠ 11 → q ≠ 12 → q ≠ 13 → s' q = s q) ∧ ∀ i, i < 5 → s' 13 i = hsv a b n (fun j => mnF (Bs u n) Sf n (2 ^ n - 1) j * b ^ (n - j)) (n + 1) i := by
  obtain ⟨s1, a1, a2, a3⟩ := e_findPoly hn hu h0 h9
  have en : (((n + 1 : Nat) : Int) - 1) = (n : Int) := by omega
  have h01 : s1 0 14 = ((n + 1 : Nat) : Int) := by rw [a2 0 (by decide) (by decide) (by decide)]; exact h0
  obtain ⟨z2, s2, b1, b2, b3⟩ := e_sm14 (a := a) (b := b) (n := n) 5 0 zF s1 (by omega) (by unfold zF; omega) (fun j hj => by omega)
  obtain ⟨w, z, s3, c1, c2, c3⟩ := e_sm40 hn ha hb (c := fun k => mnF (Bs u n) Sf n (2 ^ n - 1) k) (n + 1) zF 1 s2 (by omega) (by unfold zF; omega) (by rw [Nat.sub_self, Int.pow_zero]) (by rw [b2 0 (by decide)]; exact h01) (fun k hk => by rw [b2 12 (by decide)]; exact a3 k hk) (fun i hi => by rw [b3 i hi, Nat.sub_self]; rfl)
  rw [en] at c1
  rw [show ((0 : Nat) : Int) = 0 from rfl] at b1
  unfold d_X12_shift
  rw [a1, Option.bind_some]
  simp only [h01, en]
  rw [b1, Option.bind_some]
  dsimp only
  rw [c1]
  exact ⟨s3, rfl, fun q x y z w => by rw [c2 q w, b2 q w, a2 q x y z], c3⟩
/-! counting changes of sign -/
def sg3 (x : Int) : Int := if 0 < x then 1 else if x < 0 then -1 else 0
def fcl (w : Nat → Int) : Nat → Nat → Int → Int → Int
  | 0, _, ch, _ => ch
  | m + 1, k, ch, bef => if w k = 0 then fcl w m (k + 1) ch bef else fcl w m (k + 1) (if bef * sg3 (w k) < 0 then ch + 1 else ch) (sg3 (w k))
theorem e_cmp {x : Int} (h : zrl x) : d_J13_compare_74951 x 0 = some (sg3 x) := by
  unfold d_J13_compare_74951 sg3
  repeat' split
  all_goals first | rfl | (exfalso; omega)
theorem sg3_rng (x : Int) : sg3 x = 0 ∧ x = 0 ∨ sg3 x = 1 ∧ 0 < x ∨ sg3 x = -1 ∧ x < 0 := by
  unfold sg3
  repeat' split
  all_goals omega
theorem pow_m1 (k : Nat) : ((-1 : Int)) ^ k = if k % 2 = 0 then 1 else -1 := by
  induction k with
  | zero => rfl
  | succ k ih =>
    rw [Int.pow_succ, ih]
    by_cases h : k % 2 = 0
    · rw [if_pos h, if_neg (by omega)]
      rfl
    · rw [if_neg h, if_pos (by omega)]
      rfl
theorem e_fb14 {n : Nat} (hn : n ≤ 4) {a b : Int} {s : zZ} (h0 : s 0 0 = ((n + 1 : Nat) : Int)) {q : Nat → Int} (hq : ∀ k, k ≤ n → s 30 k = q k ∧ -9223372036854775807 ≤ q k ∧ q k ≤ 9223372036854775807) : ∀ (m k f : Nat) (ch bef : Int), k + m = n + 1 → m + 1 ≤ f → (bef = 0 ∨ bef = 1 ∨ bef = -1) → ∃ z w, d_X5_foldsBelow_14 s a b f ch bef k = some (fcl (fun k => (-1) ^ k * q k) m k ch bef, z, w) := by
  intro m
  induction m with
  | zero =>
    intro k f ch bef hk hf hb
    obtain ⟨f, rfl⟩ : ∃ g, f = g + 1 := ⟨f - 1, by omega⟩
    unfold d_X5_foldsBelow_14
    rw [h0, if_pos (by omega), if_pos (by omega)]
    exact ⟨_, _, rfl⟩
  | succ m ih =>
    intro k f ch bef hk hf hb
    obtain ⟨f, rfl⟩ : ∃ g, f = g + 1 := ⟨f - 1, by omega⟩
    unfold d_X5_foldsBelow_14
    have Q := hq k (by omega)
    have e3 : ((k : Int) + 1) = ((k + 1 : Nat) : Int) := by omega
    simp only [e3, Int.toNat_natCast, h0, Q.1]
    rw [if_pos (by omega), if_neg (by omega), if_pos (by omega)]
    show ∃ z w, _ = some (if (-1) ^ k * q k = 0 then fcl (fun k => (-1) ^ k * q k) m (k + 1) ch bef else fcl (fun k => (-1) ^ k * q k) m (k + 1) (if bef * sg3 ((-1) ^ k * q k) < 0 then ch + 1 else ch) (sg3 ((-1) ^ k * q k)), z, w)
    have core : ∀ x : Int, x = (-1) ^ k * q k → zrl x → ∃ z w, ((d_J13_compare_74951 x 0).bind fun y12 => if (zr y12) then (if y12 = 0 then (d_X5_foldsBelow_14 s a b f ch bef (k + 1 : Nat)) else (if (zr (bef * y12)) then (if (0 : Int) ≤ (bef * y12) then (d_X5_foldsBelow_14 s a b f (ch + 0) y12 (k + 1 : Nat)) else (d_X5_foldsBelow_14 s a b f (ch + 1) y12 (k + 1 : Nat))) else none)) else none) = some (if x = 0 then fcl (fun k => (-1) ^ k * q k) m (k + 1) ch bef else fcl (fun k => (-1) ^ k * q k) m (k + 1) (if bef * sg3 x < 0 then ch + 1 else ch) (sg3 x), z, w) := by
      intro x _ hz
      rw [e_cmp hz, Option.bind_some]
      have R := sg3_rng x
      have P : bef * sg3 x = 0 ∨ bef * sg3 x = 1 ∨ bef * sg3 x = -1 := by
        rcases hb with rfl | rfl | rfl <;> rcases R with r | r | r <;> rw [r.1] <;> decide
      rw [if_pos (by omega)]
      by_cases x0 : x = 0
      · rw [if_pos (by omega), if_pos x0]
        exact ih (k + 1) f ch bef (by omega) (by omega) hb
      · rw [if_neg (by omega), if_neg x0, if_pos (by omega)]
        by_cases x1 : 0 ≤ bef * sg3 x
        · rw [if_pos x1, if_neg (by omega), Int.add_zero]
          exact ih (k + 1) f ch (sg3 x) (by omega) (by omega) (by omega)
        · rw [if_neg x1, if_pos (by omega)]
          exact ih (k + 1) f (ch + 1) (sg3 x) (by omega) (by omega) (by omega)
    by_cases k2 : k % 2 = 0
    · rw [if_neg (by omega), if_pos (by omega)]
      have e : (-1) ^ k * q k = q k := by rw [pow_m1, if_pos k2, Int.one_mul]
      rw [e]
      exact core (q k) e.symm (by omega)
    · rw [if_pos (by omega), if_pos (by omega)]
      have e : (-1) ^ k * q k = - q k := by rw [pow_m1, if_neg k2, Int.neg_one_mul]
      rw [e]
      exact core (- q k) e.symm (by omega)
theorem e_fo14 {n : Nat} (hn : n ≤ 4) {a b : Int} {s : zZ} (h0 : s 0 14 = ((n + 1 : Nat) : Int)) {w v : Nat → Int} (hv : ∀ k, k ≤ n → s 13 k = v k ∧ zrl (v k) ∧ sg3 (v k) = sg3 (w k)) : ∀ (m k f : Nat) (ch last : Int), k + m = n + 1 → m + 1 ≤ f → zrl last → ∃ y z, d_X12_foldsOf_14 s a b f ch last k = some (fcl w m k ch (sg3 last), y, z) := by
  intro m
  induction m with
  | zero =>
    intro k f ch last hk hf hl
    obtain ⟨f, rfl⟩ : ∃ g, f = g + 1 := ⟨f - 1, by omega⟩
    unfold d_X12_foldsOf_14
    rw [h0, if_pos (by omega), if_pos (by omega)]
    exact ⟨_, _, rfl⟩
  | succ m ih =>
    intro k f ch last hk hf hl
    obtain ⟨f, rfl⟩ : ∃ g, f = g + 1 := ⟨f - 1, by omega⟩
    unfold d_X12_foldsOf_14
    have Q := hv k (by omega)
    have e3 : ((k : Int) + 1) = ((k + 1 : Nat) : Int) := by omega
    simp only [e3, Int.toNat_natCast, h0, Q.1]
    rw [if_pos (by omega), if_neg (by omega), if_pos (by omega), if_pos Q.2.1]
    show ∃ y z, _ = some (if w k = 0 then fcl w m (k + 1) ch (sg3 last) else fcl w m (k + 1) (if sg3 last * sg3 (w k) < 0 then ch + 1 else ch) (sg3 (w k)), y, z)
    have R1 := sg3_rng (v k)
    have R2 := sg3_rng (w k)
    have R3 := sg3_rng last
    by_cases v0 : v k = 0
    · rw [if_neg (by omega), if_pos (by omega)]
      exact ih (k + 1) f ch last (by omega) (by omega) hl
    · rw [if_pos v0, if_pos hl, if_neg (show ¬ (w k = 0) by omega), ← Q.2.2]
      have step : ∀ c, (c = if sg3 last * sg3 (v k) < 0 then ch + 1 else ch) → ∃ y z, d_X12_foldsOf_14 s a b f c (v k) (k + 1 : Nat) = some (fcl w m (k + 1) (if sg3 last * sg3 (v k) < 0 then ch + 1 else ch) (sg3 (v k)), y, z) := by
        intro c hc
        rw [hc]
        exact ih (k + 1) f _ (v k) (by omega) (by omega) Q.2.1
      have sgv : sg3 (v k) = 1 ∧ 0 < v k ∨ sg3 (v k) = -1 ∧ v k < 0 := by omega
      by_cases l0 : last = 0
      · have : sg3 last = 0 := by omega
        rw [if_pos l0, if_pos (by omega)]
        exact step _ (by rw [this, Int.zero_mul, if_neg (by omega), Int.add_zero])
      · rw [if_neg l0, if_pos hl]
        by_cases l1 : last ≤ 0
        · have : sg3 last = -1 := by omega
          rw [if_pos l1, if_pos (by omega), if_pos Q.2.1]
          by_cases v1 : v k ≤ 0
          · have : sg3 (v k) = -1 := by omega
            rw [if_pos v1, if_pos (by omega)]
            exact step _ (by rw [‹sg3 last = -1›, this, if_neg (by decide), Int.add_zero])
          · have : sg3 (v k) = 1 := by omega
            rw [if_neg v1, if_pos (by omega)]
            exact step _ (by rw [‹sg3 last = -1›, this, if_pos (by decide)])
        · have : sg3 last = 1 := by omega
          rw [if_neg l1, if_pos (by omega), if_pos Q.2.1]
          by_cases v1 : v k ≤ 0
          · have : sg3 (v k) = -1 := by omega
            rw [if_pos v1, if_pos (by omega)]
            exact step _ (by rw [‹sg3 last = 1›, this, if_pos (by decide)])
          · have : sg3 (v k) = 1 := by omega
            rw [if_neg v1, if_pos (by omega)]
            exact step _ (by rw [‹sg3 last = 1›, this, if_neg (by decide), Int.add_zero])
theorem fcl_zero (w : Nat → Int) : ∀ (m k : Nat) (ch bef : Int), (bef = 0 ∨ bef = 1 ∨ bef = -1) → ch ≤ fcl w m k ch bef ∧ (fcl w m k ch bef = ch ↔ ((bef ≠ -1 ∧ ∀ i, k ≤ i → i < k + m → 0 ≤ w i) ∨ (bef ≠ 1 ∧ ∀ i, k ≤ i → i < k + m → w i ≤ 0))) := by
  intro m
  induction m with
  | zero =>
    intro k ch bef hb
    refine ⟨Int.le_refl _, fun _ => ?_, fun _ => rfl⟩
    by_cases q : bef = -1
    · exact Or.inr ⟨by omega, fun i x y => by omega⟩
    · exact Or.inl ⟨q, fun i x y => by omega⟩
  | succ m ih =>
    intro k ch bef hb
    show ch ≤ (if w k = 0 then fcl w m (k + 1) ch bef else fcl w m (k + 1) (if bef * sg3 (w k) < 0 then ch + 1 else ch) (sg3 (w k))) ∧ ((if w k = 0 then fcl w m (k + 1) ch bef else fcl w m (k + 1) (if bef * sg3 (w k) < 0 then ch + 1 else ch) (sg3 (w k))) = ch ↔ _)
    have R := sg3_rng (w k)
    have spl : ∀ (P : Int → Prop), (∀ i, k ≤ i → i < k + (m + 1) → P (w i)) ↔ (P (w k) ∧ ∀ i, k + 1 ≤ i → i < k + 1 + m → P (w i)) := by
      intro P
      refine ⟨fun h => ⟨h k (by omega) (by omega), fun i x y => h i (by omega) (by omega)⟩, fun h i x y => ?_⟩
      by_cases q : i = k
      · rw [q]; exact h.1
      · exact h.2 i (by omega) (by omega)
    rw [spl (fun x => 0 ≤ x), spl (fun x => x ≤ 0)]
    by_cases w0 : w k = 0
    · rw [if_pos w0]
      obtain ⟨h1, h2⟩ := ih (k + 1) ch bef hb
      refine ⟨h1, ?_⟩
      rw [h2]
      simp only [w0]
      simp
    · rw [if_neg w0]
      by_cases c : bef * sg3 (w k) < 0
      · rw [if_pos c]
        obtain ⟨h1, h2⟩ := ih (k + 1) (ch + 1) (sg3 (w k)) (by omega)
        refine ⟨by omega, fun h => by omega, fun h => ?_⟩
        exfalso
        rcases hb with rfl | rfl | rfl <;> rcases R with r | r | r <;> rw [r.1] at c <;> simp at c <;> omega
      · rw [if_neg c]
        obtain ⟨h1, h2⟩ := ih (k + 1) ch (sg3 (w k)) (by omega)
        refine ⟨h1, ?_⟩
        rw [h2]
        rcases R with r | r | r
        · omega
        · rw [r.1]
          rw [r.1] at c
          have hb' : bef = 0 ∨ bef = 1 := by omega
          constructor
          · intro h
            rcases h with h | h
            · exact Or.inl ⟨by omega, by omega, h.2⟩
            · exact absurd rfl h.1
          · intro h
            rcases h with h | h
            · exact Or.inl ⟨by decide, h.2.2⟩
            · omega
        · rw [r.1]
          rw [r.1] at c
          have hb' : bef = 0 ∨ bef = -1 := by omega
          constructor
          · intro h
            rcases h with h | h
            · exact absurd rfl h.1
            · exact Or.inr ⟨by omega, by omega, h.2⟩
          · intro h
            rcases h with h | h
            · omega
            · exact Or.inr ⟨by decide, h.2.2⟩
