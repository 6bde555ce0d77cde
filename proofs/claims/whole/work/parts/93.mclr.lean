/-! clearing, as a function -/
def fpw (T : Nat → Nat → Int) (col : Nat) : Nat → Nat → Nat
  | 0, r => r
  | m + 1, r => if T r col = 0 then fpw T col m (r + 1) else r
theorem fpw_rng (T : Nat → Nat → Int) (col : Nat) : ∀ m r : Nat, r ≤ fpw T col m r ∧ fpw T col m r ≤ r + m ∧ (fpw T col m r < r + m → T (fpw T col m r) col ≠ 0) ∧ ∀ i, r ≤ i → i < fpw T col m r → T i col = 0 := by
  intro m
  induction m with
  | zero => intro r; exact ⟨Nat.le_refl _, Nat.le_refl _, fun h => absurd h (Nat.lt_irrefl _), fun i h1 h2 => absurd (Nat.lt_of_le_of_lt h1 h2) (Nat.lt_irrefl _)⟩
  | succ m ih =>
    intro r
    have h := ih (r + 1)
    show r ≤ (if T r col = 0 then fpw T col m (r + 1) else r) ∧ (if T r col = 0 then fpw T col m (r + 1) else r) ≤ r + (m + 1) ∧ ((if T r col = 0 then fpw T col m (r + 1) else r) < r + (m + 1) → T (if T r col = 0 then fpw T col m (r + 1) else r) col ≠ 0) ∧ ∀ i, r ≤ i → i < (if T r col = 0 then fpw T col m (r + 1) else r) → T i col = 0
    by_cases q : T r col = 0
    · rw [if_pos q]
      refine ⟨by omega, by omega, fun k => h.2.2.1 (by omega), fun i h1 h2 => ?_⟩
      by_cases e : i = r
      · rw [e]; exact q
      · exact h.2.2.2 i (by omega) h2
    · rw [if_neg q]
      exact ⟨Nat.le_refl _, by omega, fun _ => q, fun i h1 h2 => by omega⟩
def elm (k p : Nat) (D : Int) (T : Nat → Nat → Int) (i j : Nat) : Int := if i = k then T k j else (T k p * T i j - T i p * T k j).tdiv D
def swT (p q : Nat) (T : Nat → Nat → Int) (r j : Nat) : Int := T (if r = p then q else if r = q then p else r) j
def clr1 (n col : Nat) (st : Nat × Int × (Nat → Nat → Int) × (Nat → Int)) : Nat × Int × (Nat → Nat → Int) × (Nat → Int) := if fpw st.2.2.1 col (n - st.1) st.1 < n then (st.1 + 1, swT st.1 (fpw st.2.2.1 col (n - st.1) st.1) st.2.2.1 st.1 col, elm st.1 col st.2.1 (swT st.1 (fpw st.2.2.1 col (n - st.1) st.1) st.2.2.1), fun j => if j = col then (st.1 : Int) else st.2.2.2 j) else st
def clr (n : Nat) (st : Nat × Int × (Nat → Nat → Int) × (Nat → Int)) : Nat → Nat × Int × (Nat → Nat → Int) × (Nat → Int)
  | 0 => st
  | c + 1 => clr1 n c (clr n st c)
theorem clr_le (n : Nat) (st : Nat × Int × (Nat → Nat → Int) × (Nat → Int)) (h : st.1 ≤ n) : ∀ c, (clr n st c).1 ≤ n := by
  intro c
  induction c with
  | zero => exact h
  | succ c ih =>
    show (clr1 n c (clr n st c)).1 ≤ n
    unfold clr1
    split
    · next q =>
      have := (fpw_rng (clr n st c).2.2.1 c (n - (clr n st c).1) (clr n st c).1).1
      show (clr n st c).1 + 1 ≤ n
      omega
    · exact ih
theorem clr_stop (n : Nat) (st : Nat × Int × (Nat → Nat → Int) × (Nat → Int)) {c : Nat} (h : (clr n st c).1 = n) : ∀ m, clr n st (c + m) = clr n st c := by
  intro m
  induction m with
  | zero => rfl
  | succ m ih =>
    show clr1 n (c + m) (clr n st (c + m)) = clr n st c
    rw [ih]
    unfold clr1
    rw [h, Nat.sub_self]
    exact if_neg (Nat.lt_irrefl n)
/-- all numbers that a step meets are in range -/
def Okc (n c col : Nat) (st : Nat × Int × (Nat → Nat → Int) × (Nat → Int)) : Prop := st.2.1 ≠ 0 ∧ zrl st.2.1 ∧ (∀ r j, r < n → j < c → zrl (st.2.2.1 r j)) ∧ (fpw st.2.2.1 col (n - st.1) st.1 < n → ∀ i j, i < n → i ≠ st.1 → j < c → zrl (swT st.1 (fpw st.2.2.1 col (n - st.1) st.1) st.2.2.1 st.1 col * swT st.1 (fpw st.2.2.1 col (n - st.1) st.1) st.2.2.1 i j - swT st.1 (fpw st.2.2.1 col (n - st.1) st.1) st.2.2.1 i col * swT st.1 (fpw st.2.2.1 col (n - st.1) st.1) st.2.2.1 st.1 j))
theorem TSf_congr {s : zZ} {n c k : Nat} {D : Int} {T T' : Nat → Nat → Int} {L L' : Nat → Int} (H : TSf s n c k D T L) (h : ∀ r j, r < n → j < c → T r j = T' r j) (h2 : ∀ j, j < c → L j = L' j) : TSf s n c k D T' L' := by
  obtain ⟨h0, h1, h2', h4, h5, h6, h7, hp, ht, hl⟩ := H
  exact ⟨h0, h1, h2', h4, h5, h6, h7, hp, fun r j hr hj => (ht r j hr hj).trans (h r j hr hj), fun j hj => (hl j hj).trans (h2 j hj)⟩
theorem e_rtlf {s : zZ} {n c k : Nat} {D : Int} {T : Nat → Nat → Int} {L : Nat → Int} (H : TSf s n c k D T L) {col : Nat} (hc : col < c) (hz : ∀ r, r < n → zrl (T r col)) : ∀ (m r f : Nat), r + m = n → m + 1 ≤ f → d_X9f_rowToLead_5 s col f r = some (if fpw T col m r < n then .inr (fpw T col m r : Nat) else .inl (n : Int)) := by
  obtain ⟨h0, h1, h2, h4, h5, h6, h7, hp, ht, hl⟩ := H
  intro m
  induction m with
  | zero =>
    intro r f hr hf
    obtain ⟨f, rfl⟩ : ∃ g, f = g + 1 := ⟨f - 1, by omega⟩
    unfold d_X9f_rowToLead_5
    have : r = n := by omega
    subst this
    rw [h4, if_pos (by omega), if_pos (by omega)]
    show _ = some (if r < r then _ else _)
    rw [if_neg (Nat.lt_irrefl _)]
  | succ m ih =>
    intro r f hr hf
    obtain ⟨f, rfl⟩ : ∃ g, f = g + 1 := ⟨f - 1, by omega⟩
    unfold d_X9f_rowToLead_5
    have P := hp r (by omega)
    have e := ht r col (by omega) hc
    have z := hz r (by omega)
    unfold tbf at e
    have e3 : ((r : Int) + 1) = ((r + 1 : Nat) : Int) := by omega
    simp only [Int.toNat_natCast, h4, e3, e]
    rw [if_pos (by omega), if_neg (by omega), if_pos (by omega), if_pos (by omega), if_pos z]
    show _ = some (if (if T r col = 0 then fpw T col m (r + 1) else r) < n then (Sum.inr ((if T r col = 0 then fpw T col m (r + 1) else r : Nat) : Int) : Sum Int Int) else Sum.inl (n : Int))
    by_cases q : T r col = 0
    · rw [if_pos q]
      simp only [if_pos q]
      exact ih (r + 1) f (by omega) (by omega)
    · rw [if_neg q]
      simp only [if_neg q]
      rw [if_pos (by omega)]
theorem e_co62f {n c k : Nat} {D : Int} {L : Nat → Int} (hD : D ≠ 0) (hz : zrl D) {row : Nat} (hr : row < n) (hk : k < n) (hn : row ≠ k) {col rw_ lead times : Int} : ∀ (m j0 f : Nat) (s : zZ) (T : Nat → Nat → Int), j0 + m = c → m + 1 ≤ f → TSf s n c k D T L → (∀ j, j0 ≤ j → j < c → zrl (lead * T row j - times * T k j)) → ∃ z s', d_X9f_clearOthers_62 col (s 14 k) lead rw_ (s 14 row) times f j0 s = some (z, s') ∧ TSf s' n c k D (fun r j => if r = row ∧ j0 ≤ j then (lead * T row j - times * T k j).tdiv D else T r j) L ∧ (∀ q, q < 15 ∨ 23 ≤ q → s' q = s q) := by
  intro m
  induction m with
  | zero =>
    intro j0 f s T hj hf H hN
    obtain ⟨f, rfl⟩ : ∃ g, f = g + 1 := ⟨f - 1, by omega⟩
    unfold d_X9f_clearOthers_62
    have H' := H
    obtain ⟨h0, h1, h2, h4, h5, h6, h7, hp, ht, hl⟩ := H'
    rw [h5, if_pos (by omega), if_pos (by omega)]
    exact ⟨_, _, rfl, TSf_congr H (fun r j _ hj2 => by rw [if_neg (by omega)]) (fun _ _ => rfl), fun _ _ => rfl⟩
  | succ m ih =>
    intro j0 f s T hj hf H hN
    obtain ⟨f, rfl⟩ : ∃ g, f = g + 1 := ⟨f - 1, by omega⟩
    unfold d_X9f_clearOthers_62
    have H' := H
    obtain ⟨h0, h1, h2, h4, h5, h6, h7, hp, ht, hl⟩ := H'
    have P := hp row (by omega)
    have P2 := hp k (by omega)
    have e := ht row j0 hr (by omega)
    have e' := ht k j0 hk (by omega)
    unfold tbf at e e'
    have zN := hN j0 (Nat.le_refl _) (by omega)
    have e3 : ((j0 : Int) + 1) = ((j0 + 1 : Nat) : Int) := by omega
    simp only [Int.toNat_natCast, h5, e3, e, e', h7]
    rw [if_pos (by omega), if_neg (by omega), if_pos (by omega), if_pos (by omega), if_pos ⟨zN, hD, hz⟩, if_pos (by omega)]
    have H1 := TSf_put H (r0 := row) (j0 := j0) (by omega) (x := (lead * T row j0 - times * T k j0).tdiv D)
    have u : ∀ q, (q < 15 ∨ 23 ≤ q) → upz s (15 + (s 14 row).toNat) j0 ((lead * T row j0 - times * T k j0).tdiv D) q = s q := fun q hq => upz_ne _ _ _ _ (by omega)
    have T1k : ∀ j, (if k = row ∧ j = j0 then (lead * T row j0 - times * T k j0).tdiv D else T k j) = T k j := fun j => if_neg (fun h => hn h.1.symm)
    have T1r : ∀ j, j0 + 1 ≤ j → (if row = row ∧ j = j0 then (lead * T row j0 - times * T k j0).tdiv D else T row j) = T row j := fun j hj => if_neg (by omega)
    obtain ⟨z, s', a1, a2, a3⟩ := ih (j0 + 1) f _ _ (by omega) (by omega) H1 (fun j x y => by
      rw [T1k j, T1r j x]
      exact hN j (by omega) y)
    rw [u 14 (by omega)] at a1
    refine ⟨z, s', a1, TSf_congr a2 (fun r j hr2 hj2 => ?_) (fun _ _ => rfl), fun q hq => by rw [a3 q hq, u q hq]⟩
    try dsimp only
    by_cases q : r = row
    · subst q
      by_cases q2 : j0 + 1 ≤ j
      · rw [if_pos ⟨rfl, q2⟩, T1k j, T1r j q2, if_pos ⟨rfl, by omega⟩]
      · rw [if_neg (fun h => q2 h.2)]
        by_cases q3 : j = j0
        · subst q3
          rw [if_pos ⟨rfl, rfl⟩, if_pos ⟨rfl, Nat.le_refl _⟩]
        · rw [if_neg (fun h => q3 h.2), if_neg (by omega)]
    · rw [if_neg (fun h => q h.1), if_neg (fun h => q h.1), if_neg (fun h => q h.1)]
theorem e_co17f {n c k : Nat} {D : Int} {L : Nat → Int} (hD : D ≠ 0) (hz : zrl D) (hk : k < n) {p : Nat} (hp2 : p < c) {T : Nat → Nat → Int} (hN : ∀ i j, i < n → i ≠ k → j < c → zrl (T k p * T i j - T i p * T k j)) : ∀ (m r0 f : Nat) (s : zZ), r0 + m = n → m + 1 ≤ f → TSf s n c k D (fun r j => if r < r0 ∧ r ≠ k then (T k p * T r j - T r p * T k j).tdiv D else T r j) L → ∃ z s', d_X9f_clearOthers_17 p (s 14 k) (T k p) f r0 s = some (z, s') ∧ TSf s' n c k D (elm k p D T) L ∧ (∀ q, q < 15 ∨ 23 ≤ q → s' q = s q) := by
  intro m
  induction m with
  | zero =>
    intro r0 f s hr hf H
    obtain ⟨f, rfl⟩ : ∃ g, f = g + 1 := ⟨f - 1, by omega⟩
    unfold d_X9f_clearOthers_17
    have H' := H
    obtain ⟨h0, h1, h2, h4, h5, h6, h7, hp, ht, hl⟩ := H'
    rw [h4, if_pos (by omega), if_pos (by omega)]
    refine ⟨_, _, rfl, TSf_congr H (fun r j hr2 hj2 => ?_) (fun _ _ => rfl), fun _ _ => rfl⟩
    try dsimp only
    unfold elm
    by_cases q : r = k
    · rw [if_neg (fun h => h.2 q), if_pos q, q]
    · rw [if_pos ⟨by omega, q⟩, if_neg q]
  | succ m ih =>
    intro r0 f s hr hf H
    obtain ⟨f, rfl⟩ : ∃ g, f = g + 1 := ⟨f - 1, by omega⟩
    unfold d_X9f_clearOthers_17
    have H' := H
    obtain ⟨h0, h1, h2, h4, h5, h6, h7, hp, ht, hl⟩ := H'
    have P := hp r0 (by omega)
    have e := ht r0 p (by omega) hp2
    unfold tbf at e
    dsimp only at e
    rw [if_neg (fun h => Nat.lt_irrefl _ h.1)] at e
    have e3 : ((r0 : Int) + 1) = ((r0 + 1 : Nat) : Int) := by omega
    simp only [Int.toNat_natCast, h4, h6, h7, e3, e]
    rw [if_pos (by omega), if_neg (by omega), if_pos (by omega)]
    by_cases q : r0 = k
    · rw [if_pos (by omega)]
      refine ih (r0 + 1) f s (by omega) (by omega) (TSf_congr H (fun r j hr2 hj2 => ?_) (fun _ _ => rfl))
      try dsimp only
      by_cases q2 : r < r0 ∧ r ≠ k
      · rw [if_pos q2, if_pos ⟨by omega, q2.2⟩]
      · rw [if_neg q2, if_neg (by omega)]
    · rw [if_neg (by omega), if_pos hz, if_neg hD, if_pos (by omega), if_pos (by omega)]
      have k1 : ∀ j, (if k < r0 ∧ k ≠ k then (T k p * T k j - T k p * T k j).tdiv D else T k j) = T k j := fun j => if_neg (fun h => h.2 rfl)
      have r1 : ∀ j, (if r0 < r0 ∧ r0 ≠ k then (T k p * T r0 j - T r0 p * T k j).tdiv D else T r0 j) = T r0 j := fun j => if_neg (fun h => Nat.lt_irrefl _ h.1)
      obtain ⟨z, s1, a1, a2, a3⟩ := e_co62f (row := r0) hD hz (by omega) hk q (col := (p : Int)) (rw_ := (r0 : Int)) (lead := T k p) (times := T r0 p) c 0 zF s _ (by omega) (by unfold zF; omega) H (fun j _ y => by rw [k1, r1]; exact hN r0 j (by omega) q y)
      rw [show ((0 : Nat) : Int) = 0 from rfl] at a1
      rw [a1, Option.bind_some]
      dsimp only
      have pm : s1 14 k = s 14 k := by rw [a3 14 (by omega)]
      rw [← pm]
      obtain ⟨w, s2, b1, b2, b3⟩ := ih (r0 + 1) f s1 (by omega) (by omega) (TSf_congr a2 (fun r j hr2 hj2 => by
        try dsimp only
        by_cases q1 : r = r0
        · subst q1
          rw [if_pos ⟨rfl, Nat.zero_le _⟩, k1, r1, if_pos ⟨by omega, q⟩]
        · rw [if_neg (fun h => q1 h.1)]
          by_cases q2 : r < r0 ∧ r ≠ k
          · rw [if_pos q2, if_pos ⟨by omega, q2.2⟩]
          · rw [if_neg q2, if_neg (by omega)]) (fun _ _ => rfl))
      exact ⟨w, s2, b1, b2, fun q hq => by rw [b3 q hq, a3 q hq]⟩
theorem e_cof {s : zZ} {n c k : Nat} {D : Int} {T : Nat → Nat → Int} {L : Nat → Int} (H : TSf s n c k D T L) (hD : D ≠ 0) (hz : zrl D) (hk : k < n) {p : Nat} (hp2 : p < c) (hN : ∀ i j, i < n → i ≠ k → j < c → zrl (T k p * T i j - T i p * T k j)) : ∃ s', d_X9f_clearOthers s p = some s' ∧ TSf s' n c k D (elm k p D T) L ∧ (∀ q, q < 15 ∨ 23 ≤ q → s' q = s q) := by
  have H' := H
  obtain ⟨h0, h1, h2, h4, h5, h6, h7, hp, ht, hl⟩ := H'
  have P := hp k (by omega)
  have e := ht k p hk hp2
  unfold tbf at e
  unfold d_X9f_clearOthers
  rw [h6, Int.toNat_natCast, Int.toNat_natCast, e, if_pos (by omega), if_pos (by omega)]
  obtain ⟨z, s1, a1, a2, a3⟩ := e_co17f hD hz hk hp2 hN n 0 zF s (by omega) (by unfold zF; omega) (TSf_congr H (fun r j _ _ => by rw [if_neg (fun h => Nat.not_lt_zero _ h.1)]) (fun _ _ => rfl))
  rw [show ((0 : Nat) : Int) = 0 from rfl] at a1
  rw [a1]
  exact ⟨s1, rfl, a2, a3⟩
theorem TSf_sw {s : zZ} {n c k : Nat} {D : Int} {T : Nat → Nat → Int} {L : Nat → Int} (H : TSf s n c k D T L) {q : Nat} (hk : k < n) (hq : q < n) : TSf (upz (upz s 14 q (s 14 k)) 14 k (s 14 q)) n c k D (swT k q T) L := by
  obtain ⟨h0, h1, h2, h4, h5, h6, h7, hp, ht, hl⟩ := H
  have u : ∀ x, x ≠ 14 → upz (upz s 14 q (s 14 k)) 14 k (s 14 q) x = s x := fun x hx => by rw [upz_ne _ _ _ _ hx, upz_ne _ _ _ _ hx]
  have v : ∀ r, upz (upz s 14 q (s 14 k)) 14 k (s 14 q) 14 r = s 14 (if r = k then q else if r = q then k else r) := by
    intro r
    rw [upz_at, if_pos rfl, upz_at, if_pos rfl]
    by_cases a : r = k
    · rw [if_pos a, if_pos a]
    · rw [if_neg a, if_neg a]
      by_cases b : r = q
      · rw [if_pos b, if_pos b]
      · rw [if_neg b, if_neg b]
  have sl : ∀ r, r < 8 → (if r = k then q else if r = q then k else r) < 8 := by
    intro r hr
    repeat' split
    all_goals omega
  refine ⟨h0, by rw [u 13 (by decide)]; exact h1, by rw [u 13 (by decide)]; exact h2, by rw [u 13 (by decide)]; exact h4, by rw [u 13 (by decide)]; exact h5, by rw [u 13 (by decide)]; exact h6, by rw [u 13 (by decide)]; exact h7, fun r hr => ?_, fun r j hr hj => ?_, by rw [u 23 (by decide)]; exact hl⟩
  · have Q := hp _ (sl r hr)
    rw [v]
    refine ⟨Q.1, Q.2.1, fun r' hr' h => ?_⟩
    rw [v] at h
    have := Q.2.2 _ (sl r' hr') h
    clear h Q v u
    revert this
    repeat' split
    all_goals omega
  · unfold tbf swT
    have hr2 : (if r = k then q else if r = q then k else r) < n := by
      repeat' split
      all_goals omega
    have Q := hp _ (sl r (by omega))
    have e := ht _ j hr2 hj
    unfold tbf at e
    rw [v, u _ (by omega)]
    exact e
theorem e_ccf {n c ld : Nat} (hn : n ≤ 8) (hc : c ≤ 22) (hl2 : ld ≤ c) {st0 : Nat × Int × (Nat → Nat → Int) × (Nat → Int)} (hok : ∀ q, q < ld → Okc n c q (clr n st0 q)) : ∀ (m q f : Nat) (s : zZ), q + m = ld → m + 1 ≤ f → TSf s n c (clr n st0 q).1 (clr n st0 q).2.1 (clr n st0 q).2.2.1 (clr n st0 q).2.2.2 → ∃ z s', d_X9f_clearColumns_2 ld f q s = some (z, s') ∧ TSf s' n c (clr n st0 ld).1 (clr n st0 ld).2.1 (clr n st0 ld).2.2.1 (clr n st0 ld).2.2.2 ∧ (∀ x, x < 13 ∨ 23 < x → s' x = s x) := by
  intro m
  induction m with
  | zero =>
    intro q f s hq hf H
    obtain ⟨f, rfl⟩ : ∃ g, f = g + 1 := ⟨f - 1, by omega⟩
    unfold d_X9f_clearColumns_2
    have : q = ld := by omega
    subst this
    rw [if_pos (by omega), if_pos (by omega)]
    exact ⟨_, _, rfl, H, fun _ _ => rfl⟩
  | succ m ih =>
    intro q f s hq hf H
    obtain ⟨f, rfl⟩ : ∃ g, f = g + 1 := ⟨f - 1, by omega⟩
    unfold d_X9f_clearColumns_2
    have H' := H
    obtain ⟨h0, h1, h2, h4, h5, h6, h7, hp, ht, hl⟩ := H'
    have ok := hok q (by omega)
    obtain ⟨ok1, ok2, ok3, ok4⟩ := ok
    have st1 : clr n st0 (q + 1) = clr1 n q (clr n st0 q) := rfl
    generalize clr n st0 q = st at *
    obtain ⟨k, D, T, L⟩ := st
    dsimp only at *
    have e3 : ((q : Int) + 1) = ((q + 1 : Nat) : Int) := by omega
    rw [h4, h5, h6, if_pos (by omega), if_neg (by omega), if_pos (by omega), if_neg (by omega), if_pos (by omega)]
    by_cases kn : (n : Int) ≤ k
    · rw [if_pos kn]
      have : clr n st0 ld = (k, D, T, L) := by
        have e1 : clr n st0 (q + 1) = (k, D, T, L) := by
          rw [st1]
          unfold clr1
          dsimp only
          have : k = n := by omega
          rw [this, Nat.sub_self]
          exact if_neg (Nat.lt_irrefl n)
        have e2 := clr_stop n st0 (c := q + 1) (by rw [e1]; dsimp only; omega) m
        rw [show q + 1 + m = ld by omega] at e2
        rw [e2, e1]
      rw [this]
      exact ⟨_, _, rfl, H, fun _ _ => rfl⟩
    · rw [if_neg kn]
      have rt := e_rtlf H (col := q) (by omega) (fun r hr => ok3 r q hr (by omega)) (n - k) k zF (by omega) (by unfold zF; omega)
      unfold d_X9f_rowToLead
      rw [h6, rt, Option.bind_some]
      have fr := fpw_rng T q (n - k) k
      unfold clr1 at st1
      dsimp only at st1
      generalize fpw T q (n - k) k = w at *
      by_cases wn : w < n
      · rw [if_pos wn] at st1
        rw [if_pos wn]
        dsimp only
        rw [Option.bind_some]
        simp only [Int.toNat_natCast]
        have Pw := hp w (by omega)
        have Pk := hp k (by omega)
        have u6 : ∀ v, upz s 14 w v 13 6 = (k : Int) := fun v => by rw [upz_ne _ _ _ _ (by decide)]; exact h6
        have t1 : (((s 14 k).toNat : Nat) : Int) = s 14 k := by omega
        have t2 : (((s 14 w).toNat : Nat) : Int) = s 14 w := by omega
        simp only [u6, t1, t2, Int.toNat_natCast]
        rw [if_pos (by omega), if_neg (by omega), if_pos (by omega), if_pos (by omega), if_pos (by omega), if_pos (by omega)]
        have H1 := TSf_sw H (q := w) (by omega) wn
        obtain ⟨s1, a1, a2, a3⟩ := e_cof H1 ok1 ok2 (by omega) (p := q) (by omega) (fun i j hi hn2 hj => ok4 wn i j hi hn2 hj)
        rw [a1, Option.bind_some, if_pos (by omega), if_pos (by omega)]
        obtain ⟨g0, g1, g2, g4, g5, g6, g7, gp, gt, gl⟩ := a2
        have pmk : s1 14 k = s 14 w := by rw [a3 14 (by omega), upz_hit]
        have ln : s1 (15 + (s 14 w).toNat) q = swT k w T k q := by
          have := gt k q (by omega) (by omega)
          unfold tbf at this
          rw [pmk] at this
          rw [this]
          unfold elm
          rw [if_pos rfl]
        simp only [ln]
        have x6 : ∀ v, upz s1 13 7 v 13 6 = (k : Int) := fun v => by rw [upz_at, if_pos rfl, if_neg (by decide)]; exact g6
        have y6 : ∀ v w2, upz (upz s1 13 7 v) 23 q w2 13 6 = (k : Int) := fun v w2 => by rw [upz_ne _ _ _ _ (by decide)]; exact x6 v
        simp only [x6, y6]
        have H2 : TSf (upz (upz (upz s1 13 7 (swT k w T k q)) 23 q k) 13 6 ((k : Int) + 1)) n c (k + 1) (swT k w T k q) (elm k q D (swT k w T)) (fun j => if j = q then (k : Int) else L j) := by
          have z : ∀ x, x ≠ 13 → x ≠ 23 → upz (upz (upz s1 13 7 (swT k w T k q)) 23 q k) 13 6 ((k : Int) + 1) x = s1 x := fun x hx hy => by rw [upz_ne _ _ _ _ hx, upz_ne _ _ _ _ hy, upz_ne _ _ _ _ hx]
          have zo : ∀ j, upz (upz (upz s1 13 7 (swT k w T k q)) 23 q k) 13 6 ((k : Int) + 1) 13 j = if j = 6 then (k : Int) + 1 else if j = 7 then swT k w T k q else s1 13 j := fun j => by
            rw [upz_at, if_pos rfl, upz_ne _ _ _ _ (show 13 ≠ 23 by decide), upz_at, if_pos rfl]
          refine ⟨⟨g0.1, g0.2.1, by omega⟩, by rw [zo]; exact g1, by rw [zo]; exact g2, by rw [zo]; exact g4, by rw [zo]; exact g5, by rw [zo, if_pos rfl]; omega, by rw [zo]; rfl, ?_, fun r j hr hj => ?_, fun j hj => ?_⟩
          · unfold PVf
            rw [z 14 (by decide) (by decide)]
            exact gp
          · have Q := gp r (by omega)
            have := gt r j hr hj
            unfold tbf at this ⊢
            rw [z 14 (by decide) (by decide), z _ (by omega) (by omega)]
            exact this
          · show _ = if j = q then (k : Int) else L j
            rw [upz_ne _ _ _ _ (show 23 ≠ 13 by decide), upz_at, if_pos rfl]
            by_cases jq : j = q
            · rw [if_pos jq, if_pos jq]
            · rw [if_neg jq, if_neg jq, upz_ne _ _ _ _ (show 23 ≠ 13 by decide)]
              exact gl j hj
        rw [e3]
        obtain ⟨z, s2, b1, b2, b3⟩ := ih (q + 1) f _ (by omega) (by omega) (by rw [st1]; exact H2)
        refine ⟨z, s2, b1, b2, fun x hx => ?_⟩
        rw [b3 x hx, upz_ne _ _ _ _ (by omega), upz_ne _ _ _ _ (by omega), upz_ne _ _ _ _ (by omega), a3 x (by omega), upz_ne _ _ _ _ (by omega), upz_ne _ _ _ _ (by omega)]
      · rw [if_neg wn] at st1
        rw [if_neg wn]
        dsimp only
        rw [Option.bind_some, if_pos (by omega), if_pos (by omega), e3]
        exact ih (q + 1) f s (by omega) (by omega) (by rw [st1]; exact H)
theorem e_clearf {n c ld : Nat} (hn : n ≤ 8) (hc : c ≤ 22) (hl2 : ld ≤ c) {st0 : Nat × Int × (Nat → Nat → Int) × (Nat → Int)} (hok : ∀ q, q < ld → Okc n c q (clr n st0 q)) {s : zZ} (H : TSf s n c st0.1 st0.2.1 st0.2.2.1 st0.2.2.2) : ∃ s', d_X9f_clearColumns s ld = some s' ∧ TSf s' n c (clr n st0 ld).1 (clr n st0 ld).2.1 (clr n st0 ld).2.2.1 (clr n st0 ld).2.2.2 ∧ (∀ x, x < 13 ∨ 23 < x → s' x = s x) := by
  obtain ⟨z, s', a1, a2, a3⟩ := e_ccf hn hc hl2 hok ld 0 zF s (by omega) (by unfold zF; omega) H
  rw [show ((0 : Nat) : Int) = 0 from rfl] at a1
  unfold d_X9f_clearColumns
  rw [a1]
  exact ⟨s', rfl, a2, a3⟩
theorem TSg_congr {s : zZ} {n c k : Nat} {D : Int} {T T' : Nat → Nat → Int} {L L' : Nat → Int} (H : TSg s n c k D T L) (h : ∀ r j, r < n → j < c → T r j = T' r j) (h2 : ∀ j, j < c → L j = L' j) : TSg s n c k D T' L' := by
  obtain ⟨h0, h1, h2', h4, h5, h6, h7, hp, ht, hl⟩ := H
  exact ⟨h0, h1, h2', h4, h5, h6, h7, hp, fun r j hr hj => (ht r j hr hj).trans (h r j hr hj), fun j hj => (hl j hj).trans (h2 j hj)⟩
theorem e_rtlg {s : zZ} {n c k : Nat} {D : Int} {T : Nat → Nat → Int} {L : Nat → Int} (H : TSg s n c k D T L) {col : Nat} (hc : col < c) (hz : ∀ r, r < n → zrl (T r col)) : ∀ (m r f : Nat), r + m = n → m + 1 ≤ f → d_X9g_rowToLead_5 s col f r = some (if fpw T col m r < n then .inr (fpw T col m r : Nat) else .inl (n : Int)) := by
  obtain ⟨h0, h1, h2, h4, h5, h6, h7, hp, ht, hl⟩ := H
  intro m
  induction m with
  | zero =>
    intro r f hr hf
    obtain ⟨f, rfl⟩ : ∃ g, f = g + 1 := ⟨f - 1, by omega⟩
    unfold d_X9g_rowToLead_5
    have : r = n := by omega
    subst this
    rw [h4, if_pos (by omega), if_pos (by omega)]
    show _ = some (if r < r then _ else _)
    rw [if_neg (Nat.lt_irrefl _)]
  | succ m ih =>
    intro r f hr hf
    obtain ⟨f, rfl⟩ : ∃ g, f = g + 1 := ⟨f - 1, by omega⟩
    unfold d_X9g_rowToLead_5
    have P := hp r (by omega)
    have e := ht r col (by omega) hc
    have z := hz r (by omega)
    unfold tbg at e
    have e3 : ((r : Int) + 1) = ((r + 1 : Nat) : Int) := by omega
    simp only [Int.toNat_natCast, h4, e3, e]
    rw [if_pos (by omega), if_neg (by omega), if_pos (by omega), if_pos (by omega), if_pos z]
    show _ = some (if (if T r col = 0 then fpw T col m (r + 1) else r) < n then (Sum.inr ((if T r col = 0 then fpw T col m (r + 1) else r : Nat) : Int) : Sum Int Int) else Sum.inl (n : Int))
    by_cases q : T r col = 0
    · rw [if_pos q]
      simp only [if_pos q]
      exact ih (r + 1) f (by omega) (by omega)
    · rw [if_neg q]
      simp only [if_neg q]
      rw [if_pos (by omega)]
theorem e_co62g {n c k : Nat} {D : Int} {L : Nat → Int} (hD : D ≠ 0) (hz : zrl D) {row : Nat} (hr : row < n) (hk : k < n) (hn : row ≠ k) {col rw_ lead times : Int} : ∀ (m j0 f : Nat) (s : zZ) (T : Nat → Nat → Int), j0 + m = c → m + 1 ≤ f → TSg s n c k D T L → (∀ j, j0 ≤ j → j < c → zrl (lead * T row j - times * T k j)) → ∃ z s', d_X9g_clearOthers_62 col (s 25 k) lead rw_ (s 25 row) times f j0 s = some (z, s') ∧ TSg s' n c k D (fun r j => if r = row ∧ j0 ≤ j then (lead * T row j - times * T k j).tdiv D else T r j) L ∧ (∀ q, q < 26 ∨ 42 ≤ q → s' q = s q) := by
  intro m
  induction m with
  | zero =>
    intro j0 f s T hj hf H hN
    obtain ⟨f, rfl⟩ : ∃ g, f = g + 1 := ⟨f - 1, by omega⟩
    unfold d_X9g_clearOthers_62
    have H' := H
    obtain ⟨h0, h1, h2, h4, h5, h6, h7, hp, ht, hl⟩ := H'
    rw [h5, if_pos (by omega), if_pos (by omega)]
    exact ⟨_, _, rfl, TSg_congr H (fun r j _ hj2 => by rw [if_neg (by omega)]) (fun _ _ => rfl), fun _ _ => rfl⟩
  | succ m ih =>
    intro j0 f s T hj hf H hN
    obtain ⟨f, rfl⟩ : ∃ g, f = g + 1 := ⟨f - 1, by omega⟩
    unfold d_X9g_clearOthers_62
    have H' := H
    obtain ⟨h0, h1, h2, h4, h5, h6, h7, hp, ht, hl⟩ := H'
    have P := hp row (by omega)
    have P2 := hp k (by omega)
    have e := ht row j0 hr (by omega)
    have e' := ht k j0 hk (by omega)
    unfold tbg at e e'
    have zN := hN j0 (Nat.le_refl _) (by omega)
    have e3 : ((j0 : Int) + 1) = ((j0 + 1 : Nat) : Int) := by omega
    simp only [Int.toNat_natCast, h5, e3, e, e', h7]
    rw [if_pos (by omega), if_neg (by omega), if_pos (by omega), if_pos (by omega), if_pos ⟨zN, hD, hz⟩, if_pos (by omega)]
    have H1 := TSg_put H (r0 := row) (j0 := j0) (by omega) (x := (lead * T row j0 - times * T k j0).tdiv D)
    have u : ∀ q, (q < 26 ∨ 42 ≤ q) → upz s (26 + (s 25 row).toNat) j0 ((lead * T row j0 - times * T k j0).tdiv D) q = s q := fun q hq => upz_ne _ _ _ _ (by omega)
    have T1k : ∀ j, (if k = row ∧ j = j0 then (lead * T row j0 - times * T k j0).tdiv D else T k j) = T k j := fun j => if_neg (fun h => hn h.1.symm)
    have T1r : ∀ j, j0 + 1 ≤ j → (if row = row ∧ j = j0 then (lead * T row j0 - times * T k j0).tdiv D else T row j) = T row j := fun j hj => if_neg (by omega)
    obtain ⟨z, s', a1, a2, a3⟩ := ih (j0 + 1) f _ _ (by omega) (by omega) H1 (fun j x y => by
      rw [T1k j, T1r j x]
      exact hN j (by omega) y)
    rw [u 25 (by omega)] at a1
    refine ⟨z, s', a1, TSg_congr a2 (fun r j hr2 hj2 => ?_) (fun _ _ => rfl), fun q hq => by rw [a3 q hq, u q hq]⟩
    try dsimp only
    by_cases q : r = row
    · subst q
      by_cases q2 : j0 + 1 ≤ j
      · rw [if_pos ⟨rfl, q2⟩, T1k j, T1r j q2, if_pos ⟨rfl, by omega⟩]
      · rw [if_neg (fun h => q2 h.2)]
        by_cases q3 : j = j0
        · subst q3
          rw [if_pos ⟨rfl, rfl⟩, if_pos ⟨rfl, Nat.le_refl _⟩]
        · rw [if_neg (fun h => q3 h.2), if_neg (by omega)]
    · rw [if_neg (fun h => q h.1), if_neg (fun h => q h.1), if_neg (fun h => q h.1)]
theorem e_co17g {n c k : Nat} {D : Int} {L : Nat → Int} (hD : D ≠ 0) (hz : zrl D) (hk : k < n) {p : Nat} (hp2 : p < c) {T : Nat → Nat → Int} (hN : ∀ i j, i < n → i ≠ k → j < c → zrl (T k p * T i j - T i p * T k j)) : ∀ (m r0 f : Nat) (s : zZ), r0 + m = n → m + 1 ≤ f → TSg s n c k D (fun r j => if r < r0 ∧ r ≠ k then (T k p * T r j - T r p * T k j).tdiv D else T r j) L → ∃ z s', d_X9g_clearOthers_17 p (s 25 k) (T k p) f r0 s = some (z, s') ∧ TSg s' n c k D (elm k p D T) L ∧ (∀ q, q < 26 ∨ 42 ≤ q → s' q = s q) := by
  intro m
  induction m with
  | zero =>
    intro r0 f s hr hf H
    obtain ⟨f, rfl⟩ : ∃ g, f = g + 1 := ⟨f - 1, by omega⟩
    unfold d_X9g_clearOthers_17
    have H' := H
    obtain ⟨h0, h1, h2, h4, h5, h6, h7, hp, ht, hl⟩ := H'
    rw [h4, if_pos (by omega), if_pos (by omega)]
    refine ⟨_, _, rfl, TSg_congr H (fun r j hr2 hj2 => ?_) (fun _ _ => rfl), fun _ _ => rfl⟩
    try dsimp only
    unfold elm
    by_cases q : r = k
    · rw [if_neg (fun h => h.2 q), if_pos q, q]
    · rw [if_pos ⟨by omega, q⟩, if_neg q]
  | succ m ih =>
    intro r0 f s hr hf H
    obtain ⟨f, rfl⟩ : ∃ g, f = g + 1 := ⟨f - 1, by omega⟩
    unfold d_X9g_clearOthers_17
    have H' := H
    obtain ⟨h0, h1, h2, h4, h5, h6, h7, hp, ht, hl⟩ := H'
    have P := hp r0 (by omega)
    have e := ht r0 p (by omega) hp2
    unfold tbg at e
    dsimp only at e
    rw [if_neg (fun h => Nat.lt_irrefl _ h.1)] at e
    have e3 : ((r0 : Int) + 1) = ((r0 + 1 : Nat) : Int) := by omega
    simp only [Int.toNat_natCast, h4, h6, h7, e3, e]
    rw [if_pos (by omega), if_neg (by omega), if_pos (by omega)]
    by_cases q : r0 = k
    · rw [if_pos (by omega)]
      refine ih (r0 + 1) f s (by omega) (by omega) (TSg_congr H (fun r j hr2 hj2 => ?_) (fun _ _ => rfl))
      try dsimp only
      by_cases q2 : r < r0 ∧ r ≠ k
      · rw [if_pos q2, if_pos ⟨by omega, q2.2⟩]
      · rw [if_neg q2, if_neg (by omega)]
    · rw [if_neg (by omega), if_pos hz, if_neg hD, if_pos (by omega), if_pos (by omega)]
      have k1 : ∀ j, (if k < r0 ∧ k ≠ k then (T k p * T k j - T k p * T k j).tdiv D else T k j) = T k j := fun j => if_neg (fun h => h.2 rfl)
      have r1 : ∀ j, (if r0 < r0 ∧ r0 ≠ k then (T k p * T r0 j - T r0 p * T k j).tdiv D else T r0 j) = T r0 j := fun j => if_neg (fun h => Nat.lt_irrefl _ h.1)
      obtain ⟨z, s1, a1, a2, a3⟩ := e_co62g (row := r0) hD hz (by omega) hk q (col := (p : Int)) (rw_ := (r0 : Int)) (lead := T k p) (times := T r0 p) c 0 zF s _ (by omega) (by unfold zF; omega) H (fun j _ y => by rw [k1, r1]; exact hN r0 j (by omega) q y)
      rw [show ((0 : Nat) : Int) = 0 from rfl] at a1
      rw [a1, Option.bind_some]
      dsimp only
      have pm : s1 25 k = s 25 k := by rw [a3 25 (by omega)]
      rw [← pm]
      obtain ⟨w, s2, b1, b2, b3⟩ := ih (r0 + 1) f s1 (by omega) (by omega) (TSg_congr a2 (fun r j hr2 hj2 => by
        try dsimp only
        by_cases q1 : r = r0
        · subst q1
          rw [if_pos ⟨rfl, Nat.zero_le _⟩, k1, r1, if_pos ⟨by omega, q⟩]
        · rw [if_neg (fun h => q1 h.1)]
          by_cases q2 : r < r0 ∧ r ≠ k
          · rw [if_pos q2, if_pos ⟨by omega, q2.2⟩]
          · rw [if_neg q2, if_neg (by omega)]) (fun _ _ => rfl))
      exact ⟨w, s2, b1, b2, fun q hq => by rw [b3 q hq, a3 q hq]⟩
theorem e_cog {s : zZ} {n c k : Nat} {D : Int} {T : Nat → Nat → Int} {L : Nat → Int} (H : TSg s n c k D T L) (hD : D ≠ 0) (hz : zrl D) (hk : k < n) {p : Nat} (hp2 : p < c) (hN : ∀ i j, i < n → i ≠ k → j < c → zrl (T k p * T i j - T i p * T k j)) : ∃ s', d_X9g_clearOthers s p = some s' ∧ TSg s' n c k D (elm k p D T) L ∧ (∀ q, q < 26 ∨ 42 ≤ q → s' q = s q) := by
  have H' := H
  obtain ⟨h0, h1, h2, h4, h5, h6, h7, hp, ht, hl⟩ := H'
  have P := hp k (by omega)
  have e := ht k p hk hp2
  unfold tbg at e
  unfold d_X9g_clearOthers
  rw [h6, Int.toNat_natCast, Int.toNat_natCast, e, if_pos (by omega), if_pos (by omega)]
  obtain ⟨z, s1, a1, a2, a3⟩ := e_co17g hD hz hk hp2 hN n 0 zF s (by omega) (by unfold zF; omega) (TSg_congr H (fun r j _ _ => by rw [if_neg (fun h => Nat.not_lt_zero _ h.1)]) (fun _ _ => rfl))
  rw [show ((0 : Nat) : Int) = 0 from rfl] at a1
  rw [a1]
  exact ⟨s1, rfl, a2, a3⟩
theorem TSg_sw {s : zZ} {n c k : Nat} {D : Int} {T : Nat → Nat → Int} {L : Nat → Int} (H : TSg s n c k D T L) {q : Nat} (hk : k < n) (hq : q < n) : TSg (upz (upz s 25 q (s 25 k)) 25 k (s 25 q)) n c k D (swT k q T) L := by
  obtain ⟨h0, h1, h2, h4, h5, h6, h7, hp, ht, hl⟩ := H
  have u : ∀ x, x ≠ 25 → upz (upz s 25 q (s 25 k)) 25 k (s 25 q) x = s x := fun x hx => by rw [upz_ne _ _ _ _ hx, upz_ne _ _ _ _ hx]
  have v : ∀ r, upz (upz s 25 q (s 25 k)) 25 k (s 25 q) 25 r = s 25 (if r = k then q else if r = q then k else r) := by
    intro r
    rw [upz_at, if_pos rfl, upz_at, if_pos rfl]
    by_cases a : r = k
    · rw [if_pos a, if_pos a]
    · rw [if_neg a, if_neg a]
      by_cases b : r = q
      · rw [if_pos b, if_pos b]
      · rw [if_neg b, if_neg b]
  have sl : ∀ r, r < 16 → (if r = k then q else if r = q then k else r) < 16 := by
    intro r hr
    repeat' split
    all_goals omega
  refine ⟨h0, by rw [u 24 (by decide)]; exact h1, by rw [u 24 (by decide)]; exact h2, by rw [u 24 (by decide)]; exact h4, by rw [u 24 (by decide)]; exact h5, by rw [u 24 (by decide)]; exact h6, by rw [u 24 (by decide)]; exact h7, fun r hr => ?_, fun r j hr hj => ?_, by rw [u 42 (by decide)]; exact hl⟩
  · have Q := hp _ (sl r hr)
    rw [v]
    refine ⟨Q.1, Q.2.1, fun r' hr' h => ?_⟩
    rw [v] at h
    have := Q.2.2 _ (sl r' hr') h
    clear h Q v u
    revert this
    repeat' split
    all_goals omega
  · unfold tbg swT
    have hr2 : (if r = k then q else if r = q then k else r) < n := by
      repeat' split
      all_goals omega
    have Q := hp _ (sl r (by omega))
    have e := ht _ j hr2 hj
    unfold tbg at e
    rw [v, u _ (by omega)]
    exact e
theorem e_ccg {n c ld : Nat} (hn : n ≤ 16) (hc : c ≤ 8) (hl2 : ld ≤ c) {st0 : Nat × Int × (Nat → Nat → Int) × (Nat → Int)} (hok : ∀ q, q < ld → Okc n c q (clr n st0 q)) : ∀ (m q f : Nat) (s : zZ), q + m = ld → m + 1 ≤ f → TSg s n c (clr n st0 q).1 (clr n st0 q).2.1 (clr n st0 q).2.2.1 (clr n st0 q).2.2.2 → ∃ z s', d_X9g_clearColumns_2 ld f q s = some (z, s') ∧ TSg s' n c (clr n st0 ld).1 (clr n st0 ld).2.1 (clr n st0 ld).2.2.1 (clr n st0 ld).2.2.2 ∧ (∀ x, x < 24 ∨ 42 < x → s' x = s x) := by
  intro m
  induction m with
  | zero =>
    intro q f s hq hf H
    obtain ⟨f, rfl⟩ : ∃ g, f = g + 1 := ⟨f - 1, by omega⟩
    unfold d_X9g_clearColumns_2
    have : q = ld := by omega
    subst this
    rw [if_pos (by omega), if_pos (by omega)]
    exact ⟨_, _, rfl, H, fun _ _ => rfl⟩
  | succ m ih =>
    intro q f s hq hf H
    obtain ⟨f, rfl⟩ : ∃ g, f = g + 1 := ⟨f - 1, by omega⟩
    unfold d_X9g_clearColumns_2
    have H' := H
    obtain ⟨h0, h1, h2, h4, h5, h6, h7, hp, ht, hl⟩ := H'
    have ok := hok q (by omega)
    obtain ⟨ok1, ok2, ok3, ok4⟩ := ok
    have st1 : clr n st0 (q + 1) = clr1 n q (clr n st0 q) := rfl
    generalize clr n st0 q = st at *
    obtain ⟨k, D, T, L⟩ := st
    dsimp only at *
    have e3 : ((q : Int) + 1) = ((q + 1 : Nat) : Int) := by omega
    rw [h4, h5, h6, if_pos (by omega), if_neg (by omega), if_pos (by omega), if_neg (by omega), if_pos (by omega)]
    by_cases kn : (n : Int) ≤ k
    · rw [if_pos kn]
      have : clr n st0 ld = (k, D, T, L) := by
        have e1 : clr n st0 (q + 1) = (k, D, T, L) := by
          rw [st1]
          unfold clr1
          dsimp only
          have : k = n := by omega
          rw [this, Nat.sub_self]
          exact if_neg (Nat.lt_irrefl n)
        have e2 := clr_stop n st0 (c := q + 1) (by rw [e1]; dsimp only; omega) m
        rw [show q + 1 + m = ld by omega] at e2
        rw [e2, e1]
      rw [this]
      exact ⟨_, _, rfl, H, fun _ _ => rfl⟩
    · rw [if_neg kn]
      have rt := e_rtlg H (col := q) (by omega) (fun r hr => ok3 r q hr (by omega)) (n - k) k zF (by omega) (by unfold zF; omega)
      unfold d_X9g_rowToLead
      rw [h6, rt, Option.bind_some]
      have fr := fpw_rng T q (n - k) k
      unfold clr1 at st1
      dsimp only at st1
      generalize fpw T q (n - k) k = w at *
      by_cases wn : w < n
      · rw [if_pos wn] at st1
        rw [if_pos wn]
        dsimp only
        rw [Option.bind_some]
        simp only [Int.toNat_natCast]
        have Pw := hp w (by omega)
        have Pk := hp k (by omega)
        have u6 : ∀ v, upz s 25 w v 24 6 = (k : Int) := fun v => by rw [upz_ne _ _ _ _ (by decide)]; exact h6
        have t1 : (((s 25 k).toNat : Nat) : Int) = s 25 k := by omega
        have t2 : (((s 25 w).toNat : Nat) : Int) = s 25 w := by omega
        simp only [u6, t1, t2, Int.toNat_natCast]
        rw [if_pos (by omega), if_neg (by omega), if_pos (by omega), if_pos (by omega), if_pos (by omega), if_pos (by omega)]
        have H1 := TSg_sw H (q := w) (by omega) wn
        obtain ⟨s1, a1, a2, a3⟩ := e_cog H1 ok1 ok2 (by omega) (p := q) (by omega) (fun i j hi hn2 hj => ok4 wn i j hi hn2 hj)
        rw [a1, Option.bind_some, if_pos (by omega), if_pos (by omega)]
        obtain ⟨g0, g1, g2, g4, g5, g6, g7, gp, gt, gl⟩ := a2
        have pmk : s1 25 k = s 25 w := by rw [a3 25 (by omega), upz_hit]
        have ln : s1 (26 + (s 25 w).toNat) q = swT k w T k q := by
          have := gt k q (by omega) (by omega)
          unfold tbg at this
          rw [pmk] at this
          rw [this]
          unfold elm
          rw [if_pos rfl]
        simp only [ln]
        have x6 : ∀ v, upz s1 24 7 v 24 6 = (k : Int) := fun v => by rw [upz_at, if_pos rfl, if_neg (by decide)]; exact g6
        have y6 : ∀ v w2, upz (upz s1 24 7 v) 42 q w2 24 6 = (k : Int) := fun v w2 => by rw [upz_ne _ _ _ _ (by decide)]; exact x6 v
        simp only [x6, y6]
        have H2 : TSg (upz (upz (upz s1 24 7 (swT k w T k q)) 42 q k) 24 6 ((k : Int) + 1)) n c (k + 1) (swT k w T k q) (elm k q D (swT k w T)) (fun j => if j = q then (k : Int) else L j) := by
          have z : ∀ x, x ≠ 24 → x ≠ 42 → upz (upz (upz s1 24 7 (swT k w T k q)) 42 q k) 24 6 ((k : Int) + 1) x = s1 x := fun x hx hy => by rw [upz_ne _ _ _ _ hx, upz_ne _ _ _ _ hy, upz_ne _ _ _ _ hx]
          have zo : ∀ j, upz (upz (upz s1 24 7 (swT k w T k q)) 42 q k) 24 6 ((k : Int) + 1) 24 j = if j = 6 then (k : Int) + 1 else if j = 7 then swT k w T k q else s1 24 j := fun j => by
            rw [upz_at, if_pos rfl, upz_ne _ _ _ _ (show 24 ≠ 42 by decide), upz_at, if_pos rfl]
          refine ⟨⟨g0.1, g0.2.1, by omega⟩, by rw [zo]; exact g1, by rw [zo]; exact g2, by rw [zo]; exact g4, by rw [zo]; exact g5, by rw [zo, if_pos rfl]; omega, by rw [zo]; rfl, ?_, fun r j hr hj => ?_, fun j hj => ?_⟩
          · unfold PVg
            rw [z 25 (by decide) (by decide)]
            exact gp
          · have Q := gp r (by omega)
            have := gt r j hr hj
            unfold tbg at this ⊢
            rw [z 25 (by decide) (by decide), z _ (by omega) (by omega)]
            exact this
          · show _ = if j = q then (k : Int) else L j
            rw [upz_ne _ _ _ _ (show 42 ≠ 24 by decide), upz_at, if_pos rfl]
            by_cases jq : j = q
            · rw [if_pos jq, if_pos jq]
            · rw [if_neg jq, if_neg jq, upz_ne _ _ _ _ (show 42 ≠ 24 by decide)]
              exact gl j hj
        rw [e3]
        obtain ⟨z, s2, b1, b2, b3⟩ := ih (q + 1) f _ (by omega) (by omega) (by rw [st1]; exact H2)
        refine ⟨z, s2, b1, b2, fun x hx => ?_⟩
        rw [b3 x hx, upz_ne _ _ _ _ (by omega), upz_ne _ _ _ _ (by omega), upz_ne _ _ _ _ (by omega), a3 x (by omega), upz_ne _ _ _ _ (by omega), upz_ne _ _ _ _ (by omega)]
      · rw [if_neg wn] at st1
        rw [if_neg wn]
        dsimp only
        rw [Option.bind_some, if_pos (by omega), if_pos (by omega), e3]
        exact ih (q + 1) f s (by omega) (by omega) (by rw [st1]; exact H)
theorem e_clearg {n c ld : Nat} (hn : n ≤ 16) (hc : c ≤ 8) (hl2 : ld ≤ c) {st0 : Nat × Int × (Nat → Nat → Int) × (Nat → Int)} (hok : ∀ q, q < ld → Okc n c q (clr n st0 q)) {s : zZ} (H : TSg s n c st0.1 st0.2.1 st0.2.2.1 st0.2.2.2) : ∃ s', d_X9g_clearColumns s ld = some s' ∧ TSg s' n c (clr n st0 ld).1 (clr n st0 ld).2.1 (clr n st0 ld).2.2.1 (clr n st0 ld).2.2.2 ∧ (∀ x, x < 24 ∨ 42 < x → s' x = s x) := by
  obtain ⟨z, s', a1, a2, a3⟩ := e_ccg hn hc hl2 hok ld 0 zF s (by omega) (by unfold zF; omega) H
  rw [show ((0 : Nat) : Int) = 0 from rfl] at a1
  unfold d_X9g_clearColumns
  rw [a1]
  exact ⟨s', rfl, a2, a3⟩
