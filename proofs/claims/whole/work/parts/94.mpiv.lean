/-! clearing: what leads, and ranges -/
def Pvt (n k q : Nat) (D : Int) (T : Nat → Nat → Int) (L : Nat → Int) (a c : Nat → Nat → Int) (pc : Nat → Nat) : Prop := (∀ i, i < k → pc i < q ∧ L (pc i) = i ∧ c i = a (pc i) ∧ ∀ r, r < n → T r (pc i) = if r = i then D else 0) ∧ (∀ j, j < q → (L j = -1 ∧ ∀ r, k ≤ r → r < n → T r j = 0) ∨ ∃ i, i < k ∧ j = pc i) ∧ ∀ j, q ≤ j → L j = -1
def CI (n J q : Nat) (a : Nat → Nat → Int) (K : Int) (st : Nat × Int × (Nat → Nat → Int) × (Nat → Int)) : Prop := ∃ (c : Nat → Nat → Int) (u z pc : Nat → Nat), bI n st.1 J a c st.2.1 st.2.2.1 K u z ∧ Pvt n st.1 q st.2.1 st.2.2.1 st.2.2.2 a c pc
theorem CI_0 {n J : Nat} {T0 : Nat → Nat → Int} {K : Int} : CI n J 0 (fun j r => T0 r j) K (0, 1, T0, fun _ => -1) := by
  refine ⟨fun _ _ => 0, id, id, fun _ => 0, bI_0 (fun _ _ _ _ => rfl), fun i hi => absurd hi (Nat.not_lt_zero _), fun j hj => absurd hj (Nat.not_lt_zero _), fun _ _ => rfl⟩
theorem CI_step {n J q : Nat} {a : Nat → Nat → Int} {K : Int} (hK : 0 ≤ K) {st : Nat × Int × (Nat → Nat → Int) × (Nat → Int)} (C : CI n J q a K st) (hq : q < J) (hA : nv n (a q) ≤ K) : CI n J (q + 1) a K (clr1 n q st) ∧ (fpw st.2.2.1 q (n - st.1) st.1 < n → ∀ i j, i < n → i ≠ st.1 → j < J → st.2.1 ∣ (swT st.1 (fpw st.2.2.1 q (n - st.1) st.1) st.2.2.1 st.1 q * swT st.1 (fpw st.2.2.1 q (n - st.1) st.1) st.2.2.1 i j - swT st.1 (fpw st.2.2.1 q (n - st.1) st.1) st.2.2.1 i q * swT st.1 (fpw st.2.2.1 q (n - st.1) st.1) st.2.2.1 st.1 j)) := by
  obtain ⟨k, D, T, L⟩ := st
  obtain ⟨c, u, z, pc, B, P1, P2, P3⟩ := C
  dsimp only at *
  have kn : k ≤ n := B.1
  have D0 : D ≠ 0 := B.2.1
  have fr := fpw_rng T q (n - k) k
  unfold clr1
  dsimp only
  generalize fpw T q (n - k) k = w at *
  by_cases wn : w < n
  · rw [if_pos wn]
    have B1 := bI_swap B (p := k) (q := w) ⟨Nat.le_refl _, by omega⟩ ⟨fr.1, wn⟩
    have lead : swT k w T k q ≠ 0 := by
      unfold swT
      rw [if_pos rfl]
      exact fr.2.2.1 (by omega)
    obtain ⟨S1, S2⟩ := bI_step hK B1 (p := q) hq (by omega) lead hA
    refine ⟨⟨_, _, _, fun i => if i = k then q else pc i, S2, fun i hi => ?_, fun j hj => ?_, fun j hj => ?_⟩, fun _ => S1⟩
    · dsimp only
      by_cases e : i = k
      · rw [if_pos e]
        refine ⟨by omega, by rw [if_pos rfl, e], by rw [if_pos e], fun r hr => ?_⟩
        show elm k q D (swT k w T) r q = _
        unfold elm
        by_cases er : r = k
        · rw [if_pos er, if_pos (by omega)]
        · rw [if_neg er, if_neg (by omega), Int.mul_comm (swT k w T k q), Int.sub_self, Int.zero_tdiv]
      · rw [if_neg e]
        obtain ⟨p1, p2, p3, p4⟩ := P1 i (by omega)
        have sw : ∀ r, r < n → swT k w T r (pc i) = if r = i then D else 0 := by
          intro r hr
          unfold swT
          have : (if r = k then w else if r = w then k else r) < n := by
            repeat' split
            all_goals omega
          rw [p4 _ this]
          have e2 : ((if r = k then w else if r = w then k else r) = i) = (r = i) := by
            apply propext
            repeat' split
            all_goals omega
          simp only [e2]
        refine ⟨by omega, by rw [if_neg (by omega)]; exact p2, by rw [if_neg e]; exact p3, fun r hr => ?_⟩
        show elm k q D (swT k w T) r (pc i) = _
        unfold elm
        rw [sw k (by omega), if_neg (show ¬ (k = i) by omega), Int.mul_zero, Int.sub_zero]
        by_cases er : r = k
        · rw [if_pos er, if_neg (by omega)]
        · rw [if_neg er, sw r hr]
          by_cases ei : r = i
          · rw [if_pos ei, if_pos ei, Int.mul_tdiv_cancel _ D0]
          · rw [if_neg ei, if_neg ei, Int.mul_zero, Int.zero_tdiv]
    · dsimp only
      by_cases e : j = q
      · exact Or.inr ⟨k, by omega, by rw [if_pos rfl]; exact e⟩
      · rcases P2 j (by omega) with h | ⟨i, i1, i2⟩
        · refine Or.inl ⟨by rw [if_neg e]; exact h.1, fun r h1 h2 => ?_⟩
          show elm k q D (swT k w T) r j = 0
          unfold elm swT
          rw [if_neg (show ¬ (r = k) by omega)]
          have z1 : ∀ x, k ≤ x → x < n → T (if x = k then w else if x = w then k else x) j = 0 := by
            intro x h1 h2
            refine h.2 _ ?_ ?_
            · repeat' split
              all_goals omega
            · repeat' split
              all_goals omega
          rw [z1 k (Nat.le_refl _) (by omega), z1 r (by omega) h2, Int.mul_zero, Int.mul_zero, Int.sub_self, Int.zero_tdiv]
        · exact Or.inr ⟨i, by omega, by rw [if_neg (by omega)]; exact i2⟩
    · dsimp only
      rw [if_neg (by omega)]
      exact P3 j (by omega)
  · rw [if_neg wn]
    refine ⟨⟨c, u, z, pc, B, fun i hi => ?_, fun j hj => ?_, fun j hj => P3 j (by omega)⟩, fun h => absurd h wn⟩
    · obtain ⟨p1, p2⟩ := P1 i hi
      exact ⟨Nat.lt_succ_of_lt p1, p2⟩
    · by_cases e : j = q
      · subst e
        exact Or.inl ⟨P3 j (Nat.le_refl _), fun r h1 h2 => fr.2.2.2 r h1 (by omega)⟩
      · exact P2 j (by omega)
theorem clr_CI {n J ld : Nat} {T0 : Nat → Nat → Int} {K : Int} (hK : 0 ≤ K) (hl : ld ≤ J) (hA : ∀ j, j < ld → nv n (fun r => T0 r j) ≤ K) : ∀ q, q ≤ ld → CI n J q (fun j r => T0 r j) K (clr n (0, 1, T0, fun _ => -1) q) := by
  intro q
  induction q with
  | zero => intro _; exact CI_0
  | succ q ih => exact fun h => (CI_step hK (ih (by omega)) (by omega) (hA q (by omega))).1
theorem sq_bd {x M : Int} (hM : 0 ≤ M) (h : x * x ≤ M * M) : -M ≤ x ∧ x ≤ M := by
  constructor
  · rcases Int.lt_or_le x (-M) with q | q
    · have := sq_lt (a := M) (b := -x) hM (by omega)
      rw [Int.neg_mul, Int.mul_neg, Int.neg_neg] at this
      omega
    · exact q
  · rcases Int.lt_or_le M x with q | q
    · have := sq_lt (a := M) (b := x) hM q
      omega
    · exact q
theorem pow_mono {K : Int} (hK : 1 ≤ K) {a b : Nat} (h : a ≤ b) : K ^ a ≤ K ^ b := by
  obtain ⟨d, rfl⟩ := Nat.exists_eq_add_of_le h
  rw [Int.pow_add]
  have h1 : (1 : Int) ≤ K ^ d := by
    have : 0 < K ^ d := Int.pow_pos (by omega)
    omega
  have h2 : 0 < K ^ a := Int.pow_pos (by omega)
  have := Int.mul_le_mul_of_nonneg_left h1 (show 0 ≤ K ^ a by omega)
  omega
theorem CI_bd {n J q : Nat} {a : Nat → Nat → Int} {K A : Int} (hK : 1 ≤ K) {st : Nat × Int × (Nat → Nat → Int) × (Nat → Int)} (C : CI n J q a K st) {kx : Nat} (hk : st.1 ≤ kx) (hJ : 0 < J) (hA : ∀ j, j < J → nv n (a j) ≤ A) : st.2.1 * st.2.1 ≤ K ^ kx ∧ ∀ r j, r < n → j < J → st.2.2.1 r j * st.2.2.1 r j ≤ A * K ^ kx := by
  obtain ⟨c, u, z, pc, B, _⟩ := C
  have m1 := pow_mono hK hk
  have m2 := pow_mono hK (show st.1 - 1 ≤ kx by omega)
  refine ⟨?_, fun r j hr hj => ?_⟩
  · have := (bI_bd B hJ (hA 0 hJ)).1
    omega
  · have A0 : 0 ≤ A := Int.le_trans (nv_nn n (a j)) (hA j hj)
    have b := bI_bd B hj (hA j hj)
    have n1 := Int.mul_le_mul_of_nonneg_left m1 A0
    have n2 := Int.mul_le_mul_of_nonneg_left m2 A0
    by_cases h : st.1 ≤ r
    · have := b.2.1 r h hr
      omega
    · have := b.2.2 r (by omega)
      omega
theorem clr_ok {n J ld : Nat} {T0 : Nat → Nat → Int} {K A : Int} (hK : 1 ≤ K) (hl : ld ≤ J) (hB : ∀ j, j < ld → nv n (fun r => T0 r j) ≤ K) (hA : ∀ j, j < J → nv n (fun r => T0 r j) ≤ A) {kx : Nat} (hk : ∀ q, q ≤ ld → (clr n (0, 1, T0, fun _ => -1) q).1 ≤ kx) (n1 : K ^ kx ≤ 9223372036854775807 * 9223372036854775807) (n2 : A * K ^ kx ≤ 9223372036854775807 * 9223372036854775807) (n3 : ∀ k, k + 1 ≤ kx → K ^ k * (A * K ^ (k + 1)) ≤ 9223372036854775807 * 9223372036854775807) : ∀ q, q < ld → Okc n J q (clr n (0, 1, T0, fun _ => -1) q) := by
  intro q hq
  have C := clr_CI (by omega) hl hB q (by omega)
  have S := CI_step (by omega) C (by omega) (hB q hq)
  have kq := hk q (by omega)
  have kq1 := hk (q + 1) (by omega)
  have b := CI_bd hK C kq (by omega) hA
  have e1 : clr n (0, 1, T0, fun _ => -1) (q + 1) = clr1 n q (clr n (0, 1, T0, fun _ => -1) q) := rfl
  rw [e1] at kq1
  have D0 : (clr n (0, 1, T0, fun _ => -1) q).2.1 ≠ 0 := by
    obtain ⟨c, u, z, pc, B, _⟩ := C
    exact B.2.1
  refine ⟨D0, ?_, fun r j hr hj => ?_, fun wn i j hi hn hj => ?_⟩
  · have := sq_bd (M := 9223372036854775807) (by decide) (Int.le_trans b.1 n1)
    omega
  · have := sq_bd (M := 9223372036854775807) (by decide) (Int.le_trans (b.2 r j hr hj) n2)
    omega
  · have dv := S.2 wn i j hi hn hj
    have S1 := S.1
    have b0 : (clr n (0, 1, T0, fun _ => -1) q).2.1 * (clr n (0, 1, T0, fun _ => -1) q).2.1 ≤ K ^ (clr n (0, 1, T0, fun _ => -1) q).1 := (CI_bd hK C (Nat.le_refl _) (by omega) hA).1
    generalize clr n (0, 1, T0, fun _ => -1) q = st at *
    obtain ⟨k, D, T, L⟩ := st
    dsimp only at *
    unfold clr1 at kq1 S1
    dsimp only at kq1 S1
    rw [if_pos wn] at kq1 S1
    generalize fpw T q (n - k) k = w at *
    have bb := (CI_bd hK S1 (Nat.le_refl _) (by omega) hA).2 i j hi hj
    dsimp only at bb
    unfold elm at bb
    rw [if_neg hn] at bb
    obtain ⟨M, hM⟩ := dv
    rw [hM, Int.mul_tdiv_cancel_left M D0] at bb
    rw [hM]
    have A0 : 0 ≤ A := Int.le_trans (nv_nn n _) (hA 0 (by omega))
    have K0 : 0 ≤ A * K ^ (k + 1) := Int.mul_nonneg A0 (Int.pow_nonneg (by omega))
    have h := Int.mul_le_mul b0 bb (zsqn M) (Int.le_trans (zsqn D) b0)
    have e2 : D * M * (D * M) = D * D * (M * M) := by grind
    have := sq_bd (x := D * M) (M := 9223372036854775807) (by decide) (by rw [e2]; exact Int.le_trans h (n3 k kq1))
    omega
