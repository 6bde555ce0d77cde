/-! the rib: its promises -/
def RRb (s2 : zZ) (nl : Int) (sp : Nat → Int) : Prop := ∃ n : Nat, (1 ≤ n ∧ n ≤ 4) ∧ nl = ((n + 1 : Nat) : Int) ∧ s2 0 0 = ((n + 1 : Nat) : Int) ∧ (∀ j, 1 ≤ j → j ≤ 4 → sp j = s2 1 j ∧ 1 ≤ s2 1 j ∧ s2 1 j ≤ 20) ∧ ∀ k, k < n + 1 → s2 29 k = mnF (Bs (s2 1) n) Sf n (2 ^ n - 1) k
theorem psa_congr {a : Int} {v w : Nat → Int} {n : Nat} (h : ∀ i, i ≤ n → v i = w i) : ∀ f i, f + i ≤ n → psa a v f i = psa a w f i := by
  intro f
  induction f with
  | zero => intro i hi; exact h i (by omega)
  | succ f ih =>
    intro i hi
    show v i + a * psa a v f (i + 1) = w i + a * psa a w f (i + 1)
    rw [h i (by omega), ih (i + 1) (by omega)]
theorem psv_congr {a : Int} {p r : Nat → Int} {n : Nat} (h : ∀ i, i ≤ n → p i = r i) : ∀ d i, i ≤ n → psv a n p d i = psv a n r d i := by
  intro d
  induction d with
  | zero => intro i hi; exact h i hi
  | succ d ih =>
    intro i hi
    show (if d ≤ i ∧ i < n then psa a (psv a n p d) (n - i) i else psv a n p d i) = (if d ≤ i ∧ i < n then psa a (psv a n r d) (n - i) i else psv a n r d i)
    split
    · exact psa_congr (fun i hi => ih i hi) (n - i) i (by omega)
    · exact ih i hi
theorem pow_rng99 {b : Int} (hb : 1 ≤ b ∧ b ≤ 99) : ∀ m : Nat, 1 ≤ b ^ m ∧ b ^ m ≤ 99 ^ m := by
  intro m
  induction m with
  | zero => rw [Int.pow_zero, Int.pow_zero]; decide
  | succ m ih =>
    rw [Int.pow_succ, Int.pow_succ]
    have h1 : 1 * 1 ≤ b ^ m * b := Int.mul_le_mul ih.1 hb.1 (by decide) (by omega)
    have h2 : b ^ m * b ≤ 99 ^ m * 99 := Int.mul_le_mul ih.2 hb.2 (by omega) (by omega)
    exact ⟨by omega, h2⟩
theorem neg_pow_eq (b : Int) : ∀ k : Nat, (-b) ^ k = (-1) ^ k * b ^ k := by
  intro k
  induction k with
  | zero => rw [Int.pow_zero, Int.pow_zero, Int.pow_zero]; rfl
  | succ k ih =>
    rw [Int.pow_succ, Int.pow_succ, Int.pow_succ, ih]
    grind
theorem sg3_mul {c x : Int} (hc : 0 < c) : sg3 (c * x) = sg3 x := by
  have R := sg3_rng x
  have R2 := sg3_rng (c * x)
  rcases R with r | r | r
  · rw [r.2, Int.mul_zero]
  · have := Int.mul_pos hc r.2
    omega
  · have : c * (- x) > 0 := Int.mul_pos hc (by omega)
    rw [Int.mul_neg] at this
    omega
def pp (n : Nat) (u : Nat → Int) (b : Int) (j : Nat) : Int := mnF (Bs u n) Sf n (2 ^ n - 1) j * b ^ (n - j)
def KR (n : Nat) (u : Nat → Int) : Prop := (1 ≤ n ∧ n ≤ 4) ∧ ∀ j, 1 ≤ j → j ≤ 4 → 1 ≤ u j ∧ u j ≤ 20
def cnt (n : Nat) (u : Nat → Int) (b a : Int) : Int := fcl (fun k => (-1) ^ k * psv a n (pp n u b) n k) (n + 1) 0 0 0
theorem q_rng {n : Nat} {u : Nat → Int} (K : KR n u) {a b : Int} (ha : 0 ≤ a ∧ a ≤ 999) (hb : 1 ≤ b ∧ b ≤ 99) {k : Nat} (hk : k ≤ n) : wi (psv a n (pp n u b) n k) 9000000000000000000 ∧ wi (b ^ k * ((-1) ^ k * psv a n (pp n u b) n k)) 9000000000000000000 := by
  have hB := Bs_sum (u := u) (fun j x y => by have := K.2 j x y; omega) n K.1.2
  have hp : ∀ i, i ≤ n → wi (pp n u b i) ((bdn n i : Nat) * 99 ^ (n - i)) := by
    intro i hi
    have h1 := mnF_bd hB Sf_sum n K.1.2 (2 ^ n - 1) i
    have h2 : wi (mnF (Bs u n) Sf n (2 ^ n - 1) i) ((bdn n i : Nat) : Int) := ⟨by omega, by omega⟩
    have h3 := pow_rng99 hb (n - i)
    have h4 := wi_mul (a := b ^ (n - i)) (A := 99 ^ (n - i)) (by omega) h2
    unfold pp
    rw [Int.mul_comm, Int.mul_comm ((bdn n i : Nat) : Int)]
    exact h4
  have h5 := psv_wi (a := a) (A := 999) ha hp n k hk
  have h6 := psv_num n (by have := K.1.2; omega) k (by have := K.1.2; omega)
  have h7 := pow_rng99 hb k
  have h8 : (1 : Int) ≤ 99 ^ k := by omega
  generalize hX : psv 999 n (fun j => (bdn n j : Nat) * 99 ^ (n - j)) n k = X at h5 h6
  generalize psv a n (pp n u b) n k = x at h5 ⊢
  have hX0 : 0 ≤ X := by have := h5.1; have := h5.2; omega
  have h9 : X * 1 ≤ X * 99 ^ k := Int.mul_le_mul_of_nonneg_left h8 hX0
  refine ⟨⟨by omega, by omega⟩, ?_⟩
  have h10 : wi ((-1) ^ k * x) X := by
    rw [pow_m1]
    split
    · rw [Int.one_mul]; exact h5
    · rw [Int.neg_one_mul]; exact ⟨by omega, by omega⟩
  have h11 := wi_mul (a := b ^ k) (A := 99 ^ k) (by omega) h10
  rw [Int.mul_comm (99 ^ k) X] at h11
  exact ⟨by omega, by omega⟩
theorem e_clsh {n : Nat} {u : Nat → Int} (K : KR n u) {a b : Int} (ha : 0 ≤ a ∧ a ≤ 999) (hb : 1 ≤ b ∧ b ≤ 99) {s : zZ} (h0 : s 0 0 = ((n + 1 : Nat) : Int)) (h29 : ∀ k, k < n + 1 → s 29 k = mnF (Bs u n) Sf n (2 ^ n - 1) k) : ∃ s', d_X5_shiftTo s a b = some s' ∧ (∀ q, q ≠ 30 → s' q = s q) ∧ ∀ i, i ≤ n → s' 30 i = psv a n (pp n u b) n i := by
  obtain ⟨s', a1, a2, a3⟩ := e_shiftTo (n := n) K.1.2 (a := a) (b := b) (by omega) (by omega) h0
  refine ⟨s', a1, a2, fun i hi => ?_⟩
  rw [a3 i hi]
  exact psv_congr (fun j hj => by unfold pp; rw [h29 j (by omega)]) n i hi
theorem e_clcnt {n : Nat} {u : Nat → Int} (K : KR n u) {a b : Int} (ha : 0 ≤ a ∧ a ≤ 999) (hb : 1 ≤ b ∧ b ≤ 99) {s : zZ} (h0 : s 0 0 = ((n + 1 : Nat) : Int)) (h29 : ∀ k, k < n + 1 → s 29 k = mnF (Bs u n) Sf n (2 ^ n - 1) k) : ∃ s', d_X5_foldsBelow s a b = some (cnt n u b a, s') ∧ ∀ q, q ≠ 30 → s' q = s q := by
  obtain ⟨s', a1, a2, a3⟩ := e_clsh K ha hb h0 h29
  obtain ⟨z, w, hz⟩ := e_fb14 (n := n) K.1.2 (a := a) (b := b) (s := s') (by rw [a2 0 (by decide)]; exact h0) (q := fun k => psv a n (pp n u b) n k) (fun k hk => by
    have := (q_rng K ha hb hk).1
    exact ⟨a3 k hk, by have := this.1; show _ ≤ psv a n (pp n u b) n k; omega, by have := this.2; show psv a n (pp n u b) n k ≤ _; omega⟩) (n + 1) 0 zF 0 0 (by omega) (by unfold zF; have := K.1.2; omega) (Or.inl rfl)
  unfold d_X5_foldsBelow
  rw [show ((0 : Nat) : Int) = 0 from rfl] at hz
  rw [a1, Option.bind_some, hz]
  exact ⟨s', rfl, a2⟩
theorem e_mosh {n : Nat} {u : Nat → Int} (K : KR n u) {a b : Int} (ha : 0 ≤ a ∧ a ≤ 999) (hb : 1 ≤ b ∧ b ≤ 99) {s : zZ} (h0 : s 0 14 = ((n + 1 : Nat) : Int)) (h9 : ∀ j, 1 ≤ j → j ≤ 4 → s 9 j = u j) : ∃ s', d_X12_shift s a b = some s' ∧ Fr [10, 11, 12, 13] [] s s' ∧ ∀ i, i ≤ n → s' 13 i = b ^ i * ((-1) ^ i * psv a n (pp n u b) n i) := by
  obtain ⟨s', a1, a2, a3⟩ := e_shift (n := n) K.1 (u := u) (fun j x y => by have := K.2 j x (by have := K.1.2; omega); omega) (a := a) (b := b) (by omega) (by omega) h0 (fun j x y => h9 j x (by have := K.1.2; omega))
  refine ⟨s', a1, ⟨fun q x y => ?_, fun j _ => by rw [a2 0 (by decide) (by decide) (by decide) (by decide)]⟩, fun i hi => ?_⟩
  · simp only [List.mem_cons, List.not_mem_nil, or_false, not_or] at y
    exact a2 q y.1 y.2.1 y.2.2.1 y.2.2.2
  · rw [a3 i (by have := K.1.2; omega)]
    have := hs_all a b (pp n u b) K.1 hi
    have e : (fun j => mnF (Bs u n) Sf n (2 ^ n - 1) j * b ^ (n - j)) = pp n u b := rfl
    rw [e, this, neg_pow_eq]
    generalize psv a n (pp n u b) n i = x
    grind
theorem e_mocnt {n : Nat} {u : Nat → Int} (K : KR n u) {a b : Int} (ha : 0 ≤ a ∧ a ≤ 999) (hb : 1 ≤ b ∧ b ≤ 99) {s : zZ} (h0 : s 0 14 = ((n + 1 : Nat) : Int)) (h9 : ∀ j, 1 ≤ j → j ≤ 4 → s 9 j = u j) : ∃ s', d_X12_foldsOf s a b = some (cnt n u b a, s') ∧ Fr [10, 11, 12, 13] [] s s' := by
  obtain ⟨s', a1, a2, a3⟩ := e_mosh K ha hb h0 h9
  obtain ⟨z, w, hz⟩ := e_fo14 (n := n) K.1.2 (a := a) (b := b) (s := s') (by rw [a2.2 14 (by decide)]; exact h0) (w := fun k => (-1) ^ k * psv a n (pp n u b) n k) (v := fun k => b ^ k * ((-1) ^ k * psv a n (pp n u b) n k)) (fun k hk => by
    have := (q_rng K ha hb hk).2
    exact ⟨a3 k hk, ⟨by have := this.1; show _ ≤ b ^ k * ((-1) ^ k * psv a n (pp n u b) n k); omega, by have := this.2; show b ^ k * ((-1) ^ k * psv a n (pp n u b) n k) ≤ _; omega⟩, sg3_mul (by have := pow_rng99 hb k; omega)⟩) (n + 1) 0 zF 0 0 (by omega) (by unfold zF; have := K.1.2; omega) (by omega)
  unfold d_X12_foldsOf
  rw [show ((0 : Nat) : Int) = 0 from rfl, show sg3 0 = 0 from rfl] at hz
  rw [a1, Option.bind_some, hz]
  exact ⟨s', rfl, a2⟩
theorem cnt_nn (n : Nat) (u : Nat → Int) (b a : Int) : 0 ≤ cnt n u b a ∧ (cnt n u b a = 0 ↔ ((∀ i, i ≤ n → 0 ≤ (-1) ^ i * psv a n (pp n u b) n i) ∨ (∀ i, i ≤ n → (-1) ^ i * psv a n (pp n u b) n i ≤ 0))) := by
  obtain ⟨h1, h2⟩ := fcl_zero (fun k => (-1) ^ k * psv a n (pp n u b) n k) (n + 1) 0 0 0 (Or.inl rfl)
  refine ⟨h1, ?_⟩
  unfold cnt
  rw [h2]
  constructor
  · intro h
    rcases h with h | h
    · exact Or.inl (fun i hi => h.2 i (by omega) (by omega))
    · exact Or.inr (fun i hi => h.2 i (by omega) (by omega))
  · intro h
    rcases h with h | h
    · exact Or.inl ⟨by decide, fun i x y => h i (by omega)⟩
    · exact Or.inr ⟨by decide, fun i x y => h i (by omega)⟩
theorem cnt_le : ∀ (w : Nat → Int) (m k : Nat) (ch bef : Int), fcl w m k ch bef ≤ ch + m := by
  intro w m
  induction m with
  | zero => intro k ch bef; show ch ≤ ch + 0; omega
  | succ m ih =>
    intro k ch bef
    show (if w k = 0 then fcl w m (k + 1) ch bef else fcl w m (k + 1) (if bef * sg3 (w k) < 0 then ch + 1 else ch) (sg3 (w k))) ≤ _
    have h1 := ih (k + 1) ch bef
    have h2 := ih (k + 1) (if bef * sg3 (w k) < 0 then ch + 1 else ch) (sg3 (w k))
    split
    · omega
    · omega
theorem cnt_mono {n : Nat} {u : Nat → Int} (K : KR n u) {b a c : Int} (h : a ≤ c) (hc : cnt n u b c = 0) : cnt n u b a = 0 := by
  rw [(cnt_nn n u b a).2]
  have hc' := (cnt_nn n u b c).2.mp hc
  have e : ∀ i, i ≤ n → (-1) ^ i * psv a n (pp n u b) n i = psv (c - a) n (fun j => (-1) ^ j * psv c n (pp n u b) n j) n i := by
    intro i hi
    have := mv_all a (c - a) (pp n u b) K.1 hi
    rw [show a + (c - a) = c by omega] at this
    exact this
  rcases hc' with h1 | h1
  · refine Or.inl (fun i hi => ?_)
    rw [e i hi]
    exact psv_nn (by omega) h1 n i hi
  · refine Or.inr (fun i hi => ?_)
    rw [e i hi]
    have := psv_nn (a := c - a) (n := n) (p := fun j => - ((-1) ^ j * psv c n (pp n u b) n j)) (by omega) (fun i hi => by have := h1 i hi; omega) n i hi
    rw [psv_neg] at this
    omega
theorem e_clbs {n : Nat} {u : Nat → Int} (K : KR n u) {b : Int} (hb : 1 ≤ b ∧ b ≤ 99) : ∀ (m f : Nat) (wo be step : Int) (s : zZ), m + 1 ≤ f → s 0 0 = ((n + 1 : Nat) : Int) → (∀ k, k < n + 1 → s 29 k = mnF (Bs u n) Sf n (2 ^ n - 1) k) → 0 ≤ wo → wo < be → be ≤ 1000 → be - wo ≤ 2 ^ m → 0 ≤ step → step + m ≤ 19 → (wo = 0 ∨ cnt n u b wo = 0) → (be = 1000 ∨ cnt n u b be ≠ 0) → ∃ W y z s', d_X5_greatestWithoutFold_9 b f wo be step s = some (W, y, z, s') ∧ (∀ q, q ≠ 30 → s' q = s q) ∧ 0 ≤ W ∧ W ≤ 999 ∧ (W = 0 ∨ cnt n u b W = 0) ∧ (W + 1 = 1000 ∨ cnt n u b (W + 1) ≠ 0) := by
  intro m
  induction m with
  | zero =>
    intro f wo be step s hf h0 h29 h1 h2 h3 h4 h5 h6 h7 h8
    obtain ⟨f, rfl⟩ : ∃ g, f = g + 1 := ⟨f - 1, by omega⟩
    unfold d_X5_greatestWithoutFold_9
    rw [Int.pow_zero] at h4
    rw [if_pos (by omega), if_neg (by omega), if_pos (by omega), if_pos (by omega)]
    refine ⟨_, _, _, _, rfl, fun _ _ => rfl, h1, by omega, h7, ?_⟩
    rw [show wo + 1 = be by omega]
    exact h8
  | succ m ih =>
    intro f wo be step s hf h0 h29 h1 h2 h3 h4 h5 h6 h7 h8
    obtain ⟨f, rfl⟩ : ∃ g, f = g + 1 := ⟨f - 1, by omega⟩
    unfold d_X5_greatestWithoutFold_9
    rw [Int.pow_succ] at h4
    rw [if_pos (by omega), if_neg (by omega), if_pos (by omega)]
    by_cases q : be - wo ≤ 1
    · rw [if_pos q]
      refine ⟨_, _, _, _, rfl, fun _ _ => rfl, h1, by omega, h7, ?_⟩
      rw [show wo + 1 = be by omega]
      exact h8
    · rw [if_neg q, if_pos (by omega)]
      obtain ⟨s1, a1, a2⟩ := e_clcnt K (a := (wo + be) / 2) (b := b) (by omega) hb h0 h29
      have r1 := (cnt_nn n u b ((wo + be) / 2)).1
      have r2 := cnt_le (fun k => (-1) ^ k * psv ((wo + be) / 2) n (pp n u b) n k) (n + 1) 0 0 0
      have r3 : cnt n u b ((wo + be) / 2) ≤ 5 := by
        have := K.1.2
        unfold cnt
        omega
      rw [a1, Option.bind_some]
      dsimp only
      rw [if_pos (by omega)]
      have k0 : s1 0 0 = ((n + 1 : Nat) : Int) := by rw [a2 0 (by decide)]; exact h0
      have k29 : ∀ k, k < n + 1 → s1 29 k = mnF (Bs u n) Sf n (2 ^ n - 1) k := by rw [a2 29 (by decide)]; exact h29
      by_cases c : cnt n u b ((wo + be) / 2) = 0
      · rw [if_neg (by omega)]
        obtain ⟨W, y, z, s', b1, b2, b3⟩ := ih f ((wo + be) / 2) be (step + 1) s1 (by omega) k0 k29 (by omega) (by omega) h3 (by omega) (by omega) (by omega) (Or.inr c) h8
        exact ⟨W, y, z, s', b1, fun q hq => by rw [b2 q hq, a2 q hq], b3⟩
      · rw [if_pos c]
        obtain ⟨W, y, z, s', b1, b2, b3⟩ := ih f wo ((wo + be) / 2) (step + 1) s1 (by omega) k0 k29 h1 (by omega) (by omega) (by omega) (by omega) (by omega) h7 (Or.inr c)
        exact ⟨W, y, z, s', b1, fun q hq => by rw [b2 q hq, a2 q hq], b3⟩
theorem e_mobs {n : Nat} {u : Nat → Int} (K : KR n u) {b : Int} (hb : 1 ≤ b ∧ b ≤ 99) : ∀ (m a f : Nat) (s : zZ), a + m = 999 → m + 1 ≤ f → s 0 14 = ((n + 1 : Nat) : Int) → (∀ j, 1 ≤ j → j ≤ 4 → s 9 j = u j) → (∀ c : Int, 1 ≤ c → c ≤ a → cnt n u b c = 0) → ∃ A s', d_X12_bound_17 b f a s = some (A, s') ∧ Fr [10, 11, 12, 13] [] s s' ∧ 0 ≤ A ∧ A ≤ 999 ∧ (∀ c : Int, 1 ≤ c → c ≤ A → cnt n u b c = 0) ∧ (A = 999 ∨ cnt n u b (A + 1) ≠ 0) := by
  intro m
  induction m with
  | zero =>
    intro a f s ha hf h0 h9 h1
    obtain ⟨f, rfl⟩ : ∃ g, f = g + 1 := ⟨f - 1, by omega⟩
    unfold d_X12_bound_17
    rw [if_pos (by omega), if_pos (by omega)]
    exact ⟨_, _, rfl, Fr_refl _ _ _, by omega, by omega, h1, Or.inl (by omega)⟩
  | succ m ih =>
    intro a f s ha hf h0 h9 h1
    obtain ⟨f, rfl⟩ : ∃ g, f = g + 1 := ⟨f - 1, by omega⟩
    unfold d_X12_bound_17
    obtain ⟨s1, a1, a2⟩ := e_mocnt K (a := (a : Int) + 1) (b := b) (by omega) hb h0 h9
    have r1 := (cnt_nn n u b ((a : Int) + 1)).1
    have r2 := cnt_le (fun k => (-1) ^ k * psv ((a : Int) + 1) n (pp n u b) n k) (n + 1) 0 0 0
    have r3 : cnt n u b ((a : Int) + 1) ≤ 5 := by
      have := K.1.2
      unfold cnt
      omega
    rw [if_pos (by omega), if_neg (by omega), a1, Option.bind_some]
    dsimp only
    rw [if_pos (by omega)]
    by_cases c : cnt n u b ((a : Int) + 1) = 0
    · rw [if_neg (by omega), show (a : Int) + 1 = ((a + 1 : Nat) : Int) by omega]
      obtain ⟨A, s', b1, b2, b3⟩ := ih (a + 1) f s1 (by omega) (by omega) (by rw [a2.2 14 (by decide)]; exact h0) (by rw [a2.1 9 (by decide) (by decide)]; exact h9) (fun d x y => by
        by_cases q : d = (a : Int) + 1
        · rw [q]; exact c
        · exact h1 d x (by omega))
      exact ⟨A, s', b1, Fr_trans a2 b2, b3⟩
    · rw [if_pos c]
      exact ⟨_, _, rfl, a2, by omega, by omega, h1, Or.inr c⟩
theorem RRb_K {s2 : zZ} {nl : Int} {sp : Nat → Int} (R : RRb s2 nl sp) : ∃ n : Nat, KR n (s2 1) ∧ nl = ((n + 1 : Nat) : Int) ∧ s2 0 0 = ((n + 1 : Nat) : Int) ∧ (∀ j, 1 ≤ j → j ≤ 4 → sp j = s2 1 j) ∧ ∀ k, k < n + 1 → s2 29 k = mnF (Bs (s2 1) n) Sf n (2 ^ n - 1) k := by
  obtain ⟨n, h1, h2, h3, h4, h5⟩ := R
  exact ⟨n, ⟨h1, fun j x y => (h4 j x y).2⟩, h2, h3, fun j x y => (h4 j x y).1, h5⟩
theorem RRb_keep {s2 s2' : zZ} {nl nl' : Int} {sp sp' : Nat → Int} (R : RRb s2 nl sp) (h : ∀ q, q ≠ 30 → s2' q = s2 q) (h1 : nl' = nl) (h2 : sp' = sp) : RRb s2' nl' sp' := by
  subst h1 h2
  unfold RRb
  rw [h 0 (by decide), h 1 (by decide), h 29 (by decide)]
  exact R
theorem Fr_RRb {s2 s7 s7' : zZ} (R : RRb s2 (s7 0 14) (s7 9)) (h : Fr [10, 11, 12, 13] [] s7 s7') : RRb s2 (s7' 0 14) (s7' 9) := by
  rw [h.2 14 (by decide), h.1 9 (by decide) (by decide)]
  exact R
theorem m_folds {s0 s2 s7 : zZ} {a b : Int} (ha : zr a) (hb : zr b) (R : RRb s2 (s7 0 14) (s7 9)) : ∃ r s2' s7', d_X11_folds s0 s2 a b = some (r, s2') ∧ d_X12_folds s7 a b = some (r, s7') ∧ RRb s2' (s7' 0 14) (s7' 9) ∧ Fr [10, 11, 12, 13] [] s7 s7' := by
  obtain ⟨n, K, h1, h2, h3, h4⟩ := RRb_K R
  unfold d_X11_folds d_X12_folds d_X5_isShare d_X12_isShare
  rw [e_X12_within (by omega), e_X12_within (by omega)]
  by_cases q1 : 0 ≤ a ∧ a ≤ 999
  · by_cases q2 : 1 ≤ b ∧ b ≤ 99
    · obtain ⟨s2', a1, a2⟩ := e_clcnt K q1 q2 h2 h4
      obtain ⟨s7', b1, b2⟩ := e_mocnt K q1 q2 h1 h3
      rw [a1, b1]
      simp (disch := omega) only [↓if_pos, ↓if_neg, ↓Option.bind_some, ite_self]
      exact ⟨_, _, _, rfl, rfl, Fr_RRb (RRb_keep R a2 rfl rfl) b2, b2⟩
    · by_cases q3 : b < 1
      · simp (disch := omega) only [↓if_pos, ↓if_neg, ↓Option.bind_some, ite_self]
        exact ⟨_, _, _, rfl, rfl, R, Fr_refl _ _ _⟩
      · simp (disch := omega) only [↓if_pos, ↓if_neg, ↓Option.bind_some, ite_self]
        exact ⟨_, _, _, rfl, rfl, R, Fr_refl _ _ _⟩
  · by_cases q3 : a < 0
    · simp (disch := omega) only [↓if_pos, ↓if_neg, ↓Option.bind_some, ite_self]
      exact ⟨_, _, _, rfl, rfl, R, Fr_refl _ _ _⟩
    · simp (disch := omega) only [↓if_pos, ↓if_neg, ↓Option.bind_some, ite_self]
      exact ⟨_, _, _, rfl, rfl, R, Fr_refl _ _ _⟩
theorem e_at {n : Nat} (hn : n ≤ 4) {a b : Int} {s t : zZ} (h0 : s 0 0 = ((n + 1 : Nat) : Int)) (h1 : t 0 14 = ((n + 1 : Nat) : Int)) (hz : ∀ k, k ≤ n → zrl (s 30 k) ∧ zrl (t 13 k) ∧ (s 30 k = 0 ↔ t 13 k = 0)) : ∀ (m k f g : Nat), k + m = n → m + 1 ≤ f → m + 1 ≤ g → ∃ r, d_X5_foldsAt_8 s a b f k = some r ∧ d_X12_fold_19 t a b g k = some r := by
  intro m
  induction m with
  | zero =>
    intro k f g hk hf hg
    obtain ⟨f, rfl⟩ : ∃ g, f = g + 1 := ⟨f - 1, by omega⟩
    obtain ⟨g, rfl⟩ : ∃ h, g = h + 1 := ⟨g - 1, by omega⟩
    unfold d_X5_foldsAt_8 d_X12_fold_19
    rw [h0, h1, if_pos (by omega), if_pos (by omega), if_pos (by omega), if_pos (by omega)]
    exact ⟨_, rfl, rfl⟩
  | succ m ih =>
    intro k f g hk hf hg
    obtain ⟨f, rfl⟩ : ∃ g, f = g + 1 := ⟨f - 1, by omega⟩
    obtain ⟨g, rfl⟩ : ∃ h, g = h + 1 := ⟨g - 1, by omega⟩
    unfold d_X5_foldsAt_8 d_X12_fold_19
    have Z := hz k (by omega)
    have e3 : ((k : Int) + 1) = ((k + 1 : Nat) : Int) := by omega
    simp only [h0, h1, e3, Int.toNat_natCast]
    by_cases q : s 30 k = 0
    · have q' := Z.2.2.mp q
      simp (disch := omega) only [↓if_pos, ↓if_neg]
      exact ih (k + 1) f g (by omega) (by omega) (by omega)
    · have q' : t 13 k ≠ 0 := fun e => q (Z.2.2.mpr e)
      simp (disch := omega) only [↓if_pos, ↓if_neg]
      exact ⟨_, rfl, rfl⟩
theorem m_fold {s0 s2 s7 : zZ} {a b : Int} (ha : zr a) (hb : zr b) (R : RRb s2 (s7 0 14) (s7 9)) : ∃ r s2' s7', d_X11_fold s0 s2 a b = some (r, s2') ∧ d_X12_fold s7 a b = some (r, s7') ∧ RRb s2' (s7' 0 14) (s7' 9) ∧ Fr [10, 11, 12, 13] [] s7 s7' := by
  obtain ⟨n, K, h1, h2, h3, h4⟩ := RRb_K R
  unfold d_X11_fold d_X12_fold d_X5_isShare d_X12_isShare
  rw [e_X12_within (by omega), e_X12_within (by omega)]
  by_cases q1 : 0 ≤ a ∧ a ≤ 999
  · by_cases q2 : 1 ≤ b ∧ b ≤ 99
    · obtain ⟨s2', a1, a2, a3⟩ := e_clsh K q1 q2 h2 h4
      obtain ⟨s7', b1, b2, b3⟩ := e_mosh K q1 q2 h1 h3
      obtain ⟨r, r1, r2⟩ := e_at (n := n) K.1.2 (a := a) (b := b) (s := s2') (t := s7') (by rw [a2 0 (by decide)]; exact h2) (by rw [b2.2 14 (by decide)]; exact h1) (fun k hk => by
        have Q := q_rng K q1 q2 hk
        have S := sg3_mul (c := b ^ k) (x := (-1) ^ k * psv a n (pp n (s2 1) b) n k) (by have := pow_rng99 q2 k; omega)
        have S1 := sg3_rng (b ^ k * ((-1) ^ k * psv a n (pp n (s2 1) b) n k))
        have S2 := sg3_rng ((-1) ^ k * psv a n (pp n (s2 1) b) n k)
        rw [a3 k hk, b3 k hk]
        refine ⟨⟨by have := Q.1.1; omega, by have := Q.1.2; omega⟩, ⟨by have := Q.2.1; omega, by have := Q.2.2; omega⟩, ?_⟩
        have e : ((-1) ^ k * psv a n (pp n (s2 1) b) n k = 0) ↔ (psv a n (pp n (s2 1) b) n k = 0) := by
          rw [pow_m1]
          split
          · rw [Int.one_mul]
          · rw [Int.neg_one_mul]
            omega
        rw [← e]
        omega) n 0 zF zF (by omega) (by unfold zF; have := K.1.2; omega) (by unfold zF; have := K.1.2; omega)
      rw [show ((0 : Nat) : Int) = 0 from rfl] at r1 r2
      unfold d_X5_foldsAt
      rw [a1, b1]
      simp (disch := omega) only [↓if_pos, ↓if_neg, ↓Option.bind_some, ite_self]
      rw [r1, r2]
      exact ⟨_, _, _, rfl, rfl, Fr_RRb (RRb_keep R a2 rfl rfl) b2, b2⟩
    · by_cases q3 : b < 1
      · simp (disch := omega) only [↓if_pos, ↓if_neg, ↓Option.bind_some, ite_self]
        exact ⟨_, _, _, rfl, rfl, R, Fr_refl _ _ _⟩
      · simp (disch := omega) only [↓if_pos, ↓if_neg, ↓Option.bind_some, ite_self]
        exact ⟨_, _, _, rfl, rfl, R, Fr_refl _ _ _⟩
  · by_cases q3 : a < 0
    · simp (disch := omega) only [↓if_pos, ↓if_neg, ↓Option.bind_some, ite_self]
      exact ⟨_, _, _, rfl, rfl, R, Fr_refl _ _ _⟩
    · simp (disch := omega) only [↓if_pos, ↓if_neg, ↓Option.bind_some, ite_self]
      exact ⟨_, _, _, rfl, rfl, R, Fr_refl _ _ _⟩
theorem m_bound {s0 s2 s7 : zZ} {b : Int} (hb : zr b) (R : RRb s2 (s7 0 14) (s7 9)) : ∃ r s2' s7', d_X11_bound s0 s2 b = some (r, s2') ∧ d_X12_bound s7 b = some (r, s7') ∧ RRb s2' (s7' 0 14) (s7' 9) ∧ Fr [10, 11, 12, 13] [] s7 s7' := by
  obtain ⟨n, K, h1, h2, h3, h4⟩ := RRb_K R
  unfold d_X11_bound d_X12_bound d_X5_isShare
  rw [e_X12_within (by omega)]
  by_cases q2 : 1 ≤ b ∧ b ≤ 99
  · obtain ⟨W, y, z, s2', a1, a2, a3, a4, a5, a6⟩ := e_clbs K q2 10 zF 0 1000 0 s2 (by unfold zF; omega) h2 h4 (by omega) (by omega) (by omega) (by decide) (by omega) (by omega) (Or.inl rfl) (Or.inl rfl)
    obtain ⟨A, s7', b1, b2, b3, b4, b5, b6⟩ := e_mobs K q2 999 0 zF s7 (by omega) (by unfold zF; omega) h1 h3 (fun c x y => by omega)
    rw [show ((0 : Nat) : Int) = 0 from rfl] at b1
    have WA : W = A := by
      rcases Int.lt_trichotomy W A with h | h | h
      · exfalso
        rcases a6 with a6 | a6
        · omega
        · exact a6 (b5 (W + 1) (by omega) (by omega))
      · exact h
      · exfalso
        rcases b6 with b6 | b6
        · omega
        · rcases a5 with a5 | a5
          · omega
          · exact b6 (cnt_mono K (by omega) a5)
    subst WA
    unfold d_X5_greatestWithoutFold
    rw [a1, b1]
    simp (disch := omega) only [↓if_pos, ↓if_neg, ↓Option.bind_some, ite_self]
    exact ⟨_, _, _, rfl, rfl, Fr_RRb (RRb_keep R a2 rfl rfl) b2, b2⟩
  · by_cases q3 : b < 1
    · simp (disch := omega) only [↓if_pos, ↓if_neg, ↓Option.bind_some, ite_self]
      exact ⟨_, _, _, rfl, rfl, R, Fr_refl _ _ _⟩
    · simp (disch := omega) only [↓if_pos, ↓if_neg, ↓Option.bind_some, ite_self]
      exact ⟨_, _, _, rfl, rfl, R, Fr_refl _ _ _⟩
theorem m_poly {s0 s2 s7 : zZ} {k : Int} (hk : zr k) (R : RRb s2 (s7 0 14) (s7 9)) : ∃ r s7', d_X11_poly s0 s2 k = some r ∧ d_X12_poly s7 k = some (r, s7') ∧ RRb s2 (s7' 0 14) (s7' 9) ∧ Fr [10, 11, 12, 13] [] s7 s7' := by
  obtain ⟨n, K, h1, h2, h3, h4⟩ := RRb_K R
  have hn := K.1.2
  unfold d_X11_poly d_X12_poly d_X5_numberByPower d_X5_isPower
  rw [h1, h2, e_X12_within (by omega)]
  by_cases q : 0 ≤ k ∧ k < ((n + 1 : Nat) : Int)
  · obtain ⟨j, rfl⟩ : ∃ j : Nat, k = j := ⟨k.toNat, by omega⟩
    obtain ⟨s7', a1, a2, a3⟩ := e_findPoly K.1 (u := s2 1) (fun j x y => by have := K.2 j x (by omega); omega) h1 (fun j x y => h3 j x (by omega))
    have h0' : s7' 0 14 = ((n + 1 : Nat) : Int) := by rw [a2 0 (by decide) (by decide) (by decide)]; exact h1
    rw [a1]
    simp (disch := omega) only [↓if_pos, ↓if_neg, ↓Option.bind_some, ite_self]
    rw [e_coef K.1 (k := j) (by omega) h0', a3 j (by omega), Option.bind_some, Int.toNat_natCast, h4 j (by omega)]
    have F : Fr [10, 11, 12, 13] [] s7 s7' := ⟨fun q x y => by
      simp only [List.mem_cons, List.not_mem_nil, or_false, not_or] at y
      exact a2 q y.1 y.2.1 y.2.2.1, fun j _ => by rw [a2 0 (by decide) (by decide) (by decide)]⟩
    exact ⟨_, _, rfl, rfl, Fr_RRb R F, F⟩
  · by_cases q3 : k < 0
    · simp (disch := omega) only [↓if_pos, ↓if_neg, ↓Option.bind_some, ite_self]
      exact ⟨_, _, rfl, rfl, R, Fr_refl _ _ _⟩
    · simp (disch := omega) only [↓if_pos, ↓if_neg, ↓Option.bind_some, ite_self]
      exact ⟨_, _, rfl, rfl, R, Fr_refl _ _ _⟩
theorem e_rib24 {nl : Int} : ∀ (m j f : Nat) (s : zZ), j + m = 5 → m + 1 ≤ f → (∀ i, 1 ≤ i → i < j → s 9 i = 1) → ∃ z s', d_X12_rib_24 nl f j s = some (z, s') ∧ (∀ q, q ≠ 9 → s' q = s q) ∧ ∀ i, 1 ≤ i → i < 5 → s' 9 i = 1 := by
  intro m
  induction m with
  | zero =>
    intro j f s hj hf h
    obtain ⟨f, rfl⟩ : ∃ g, f = g + 1 := ⟨f - 1, by omega⟩
    unfold d_X12_rib_24
    rw [if_pos (by omega), if_pos (by omega)]
    exact ⟨_, _, rfl, fun _ _ => rfl, fun i x y => h i x (by omega)⟩
  | succ m ih =>
    intro j f s hj hf h
    obtain ⟨f, rfl⟩ : ∃ g, f = g + 1 := ⟨f - 1, by omega⟩
    unfold d_X12_rib_24
    have e3 : ((j : Int) + 1) = ((j + 1 : Nat) : Int) := by omega
    simp only [e3, Int.toNat_natCast]
    rw [if_pos (by omega), if_neg (by omega), if_pos (by omega)]
    obtain ⟨z, s', a1, a2, a3⟩ := ih (j + 1) f (upz s 9 j 1) (by omega) (by omega) (fun i x y => by
      rw [upz_at, if_pos rfl]
      by_cases q : i = j
      · rw [if_pos q]
      · rw [if_neg q]
        exact h i x (by omega))
    exact ⟨z, s', a1, fun q hq => by rw [a2 q hq, upz_ne _ _ _ _ hq], a3⟩
theorem m_rib {s0 s2 s7 : zZ} {nl : Int} (hl : zr nl) (R : RRb s2 (s7 0 14) (s7 9)) : ∃ r s2' s7', d_X11_rib s0 s2 nl = some (r, s2') ∧ d_X12_rib s7 nl = some (r, s7') ∧ RRb s2' (s7' 0 14) (s7' 9) ∧ Fr [9] [14] s7 s7' := by
  unfold d_X11_rib d_X12_rib
  rw [e_X12_within (by omega)]
  by_cases q : 2 ≤ nl ∧ nl ≤ 5
  · obtain ⟨n, hn⟩ : ∃ n : Nat, nl = ((n + 1 : Nat) : Int) := ⟨(nl - 1).toNat, by omega⟩
    subst hn
    unfold d_X5_begin
    have m1 : d_J9_min_7cf53 ((n + 1 : Nat) : Int) 5 = some ((n + 1 : Nat) : Int) := by
      rw [e_J9min (by omega) (by omega), if_pos (by omega)]
    have m2 : d_J9_max_7cf53 2 ((n + 1 : Nat) : Int) = some ((n + 1 : Nat) : Int) := by
      rw [e_J9max (by omega) (by omega), if_pos (by omega)]
    rw [m1, Option.bind_some, m2, Option.bind_some]
    obtain ⟨s2', a1, a2, a3, a4⟩ := e_makePoly (n := n) (by omega) (u := zfl (upz s2 0 0 ((n + 1 : Nat) : Int)) 1 5 1 1) (fun j x y => by
      rw [zfl_at, if_pos rfl, if_pos (by omega)]
      omega) (s := zfl (upz s2 0 0 ((n + 1 : Nat) : Int)) 1 5 1) (by rw [zfl_at, if_neg (by decide), upz_hit]) (fun i x y => rfl)
    obtain ⟨z, s7', b1, b2, b3⟩ := e_rib24 (nl := ((n + 1 : Nat) : Int)) 4 1 zF (upz s7 0 14 ((n + 1 : Nat) : Int)) (by omega) (by unfold zF; omega) (fun i x y => by omega)
    rw [show ((1 : Nat) : Int) = 1 from rfl] at b1
    have c0 : s2' 0 0 = ((n + 1 : Nat) : Int) := by rw [a2, zfl_at, if_neg (by decide), upz_hit]
    rw [a1, b1]
    simp (disch := omega) only [↓if_pos, ↓if_neg, ↓Option.bind_some, ite_self]
    rw [c0]
    refine ⟨_, _, _, rfl, rfl, ⟨n, by omega, ?_, c0, fun j x y => ?_, fun k hk => ?_⟩, ?_⟩
    · rw [b2 0 (by decide), upz_hit]
    · rw [b3 j x (by omega), a3, zfl_at, if_pos rfl, if_pos (by omega)]
      omega
    · rw [a4 k hk, a3]
    · refine ⟨fun q x y => ?_, fun j hj => ?_⟩
      · simp only [List.mem_cons, List.not_mem_nil, or_false] at y
        rw [b2 q y, upz_ne _ _ _ _ x]
      · simp only [List.mem_cons, List.not_mem_nil, or_false] at hj
        rw [b2 0 (by decide), upz_at, if_pos rfl, if_neg hj]
  · by_cases q3 : nl < 2
    · simp (disch := omega) only [↓if_pos, ↓if_neg, ↓Option.bind_some, ite_self]
      exact ⟨_, _, _, rfl, rfl, R, Fr_refl _ _ _⟩
    · simp (disch := omega) only [↓if_pos, ↓if_neg, ↓Option.bind_some, ite_self]
      exact ⟨_, _, _, rfl, rfl, R, Fr_refl _ _ _⟩
theorem m_spring {s0 s2 s7 : zZ} {j k : Int} (hj : zr j) (hk : zr k) (R : RRb s2 (s7 0 14) (s7 9)) : ∃ r s2' s7', d_X11_spring s0 s2 j k = some (r, s2') ∧ d_X12_spring s7 j k = some (r, s7') ∧ RRb s2' (s7' 0 14) (s7' 9) ∧ Fr [9] [14] s7 s7' := by
  obtain ⟨n, K, h1, h2, h3, h4⟩ := RRb_K R
  have hn := K.1.2
  unfold d_X11_spring d_X12_spring d_X5_changeSpring d_X5_isJoint
  rw [h1, h2, e_X12_within (by omega), e_X12_within (by omega)]
  by_cases q : 1 ≤ j ∧ j < ((n + 1 : Nat) : Int)
  · by_cases q2 : 1 ≤ k ∧ k ≤ 20
    · obtain ⟨i, rfl⟩ : ∃ i : Nat, j = i := ⟨j.toNat, by omega⟩
      simp only [Int.toNat_natCast]
      obtain ⟨s2', a1, a2, a3, a4⟩ := e_makePoly (n := n) K.1 (u := upz s2 1 i k 1) (fun j x y => by
        have := K.2 j x (by omega)
        rw [upz_at, if_pos rfl]
        split <;> omega) (s := upz s2 1 i k) (by rw [upz_ne _ _ _ _ (by decide)]; exact h2) (fun i x y => rfl)
      rw [a1]
      simp (disch := omega) only [↓if_pos, ↓if_neg, ↓Option.bind_some, ite_self]
      refine ⟨_, _, _, rfl, by rw [h3 i (by omega) (by omega)], ⟨n, K.1, ?_, ?_, fun m x y => ?_, fun m hm => ?_⟩, Fr_upz (by decide) (by decide) (Fr_refl _ _ _)⟩
      · rw [upz_ne _ _ _ _ (by decide)]; exact h1
      · rw [a2, upz_ne _ _ _ _ (by decide)]; exact h2
      · have := K.2 m x y
        have := h3 m x y
        rw [a3, upz_at, if_pos rfl, upz_at, if_pos rfl]
        split <;> omega
      · rw [a4 m hm, a3]
    · by_cases q3 : k < 1
      · simp (disch := omega) only [↓if_pos, ↓if_neg, ↓Option.bind_some, ite_self]
        exact ⟨_, _, _, rfl, rfl, R, Fr_refl _ _ _⟩
      · simp (disch := omega) only [↓if_pos, ↓if_neg, ↓Option.bind_some, ite_self]
        exact ⟨_, _, _, rfl, rfl, R, Fr_refl _ _ _⟩
  · by_cases q3 : j < 1
    · simp (disch := omega) only [↓if_pos, ↓if_neg, ↓Option.bind_some, ite_self]
      exact ⟨_, _, _, rfl, rfl, R, Fr_refl _ _ _⟩
    · simp (disch := omega) only [↓if_pos, ↓if_neg, ↓Option.bind_some, ite_self]
      exact ⟨_, _, _, rfl, rfl, R, Fr_refl _ _ _⟩
