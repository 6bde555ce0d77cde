/-! the moves: vectors that no bar feels -/
def T0u (s3 s8 : zZ) (B r j : Nat) : Int := if j < cn s8 B then T0f s3 s8 B r j else (if r = j - cn s8 B then 1 else 0)
theorem tot_swp {f : Nat → Nat → Int} {k : Nat} : ∀ n : Nat, tot (fun s => tot (fun i => f i s) k) n = tot (fun i => tot (fun s => f i s) n) k := by
  intro n
  induction n with
  | zero => exact (tot_zero k (fun _ _ => rfl)).symm
  | succ n ih =>
    show tot (fun s => tot (fun i => f i s) k) n + tot (fun i => f i n) k = tot (fun i => tot (fun s => f i s) n + f i n) k
    rw [ih]
    have h := tot_lin (f := fun i => tot (fun s => f i s) n) (h := fun i => f i n) (a := 1) (b := 1) k
    rw [tot_congr (w := fun i => tot (fun s => f i s) n + f i n) k (fun i _ => by omega)] at h
    omega
theorem uni {n m : Nat} {T0 : Nat → Nat → Int} (h0 : ∀ r s, r < n → s < n → T0 r (m + s) = if r = s then 1 else 0) (D0 : ∀ q, q ≤ m → (clr n (0, 1, T0, fun _ => -1) q).2.1 ≠ 0) : ∀ q, q ≤ m → ∃ u : Nat → Nat, (∀ r, r < n → u r < n) ∧ ∀ r', (clr n (0, 1, T0, fun _ => -1) q).1 ≤ r' → r' < n → ∀ i, i < n → (clr n (0, 1, T0, fun _ => -1) q).2.2.1 i (m + u r') = if i = r' then (clr n (0, 1, T0, fun _ => -1) q).2.1 else 0 := by
  intro q
  induction q with
  | zero =>
    intro _
    exact ⟨id, fun r hr => hr, fun r' _ h2 i hi => h0 i r' hi h2⟩
  | succ q ih =>
    intro hq
    obtain ⟨u, u1, u2⟩ := ih (by omega)
    have D := D0 q (by omega)
    have e1 : clr n (0, 1, T0, fun _ => -1) (q + 1) = clr1 n q (clr n (0, 1, T0, fun _ => -1) q) := rfl
    have kn := clr_le n (0, 1, T0, fun _ => -1) (Nat.zero_le _) q
    rw [e1]
    generalize clr n (0, 1, T0, fun _ => -1) q = st at *
    obtain ⟨k, D', T, L⟩ := st
    dsimp only at *
    unfold clr1
    dsimp only
    have fr := fpw_rng T q (n - k) k
    generalize fpw T q (n - k) k = w at *
    by_cases wn : w < n
    · rw [if_pos wn]
      dsimp only
      have sl : ∀ r, r < n → (if r = k then w else if r = w then k else r) < n := by
        intro r hr
        repeat' split
        all_goals omega
      refine ⟨fun r => u (if r = k then w else if r = w then k else r), fun r hr => u1 _ (sl r hr), fun r' h1 h2 i hi => ?_⟩
      have ge : k ≤ (if r' = k then w else if r' = w then k else r') := by
        repeat' split
        all_goals omega
      have sT : ∀ i, i < n → swT k w T i (m + u (if r' = k then w else if r' = w then k else r')) = if i = r' then D' else 0 := by
        intro i hi
        unfold swT
        rw [u2 _ ge (sl r' h2) _ (sl i hi)]
        have e2 : ((if i = k then w else if i = w then k else i) = (if r' = k then w else if r' = w then k else r')) = (i = r') := by
          apply propext
          repeat' split
          all_goals omega
        simp only [e2]
      unfold elm
      dsimp only
      by_cases ik : i = k
      · rw [if_pos ik, sT k (by omega), if_neg (by omega), if_neg (by omega)]
      · rw [if_neg ik, sT i hi, sT k (by omega), if_neg (show ¬ (k = r') by omega), Int.mul_zero, Int.sub_zero]
        by_cases ir : i = r'
        · rw [if_pos ir, if_pos ir, Int.mul_tdiv_cancel _ D]
        · rw [if_neg ir, if_neg ir, Int.mul_zero, Int.zero_tdiv]
    · rw [if_neg wn]
      exact ⟨u, u1, u2⟩
def Ann (s3 s8 : zZ) (B n : Nat) (z : Nat → Int) : Prop := ∀ b, b < B → s8 b 4 = 0 → tot (fun s => z s * mA s3 s8 b s) n = 0
theorem T0u_bar {s3 s8 : zZ} {B b r : Nat} (hb : b < B) (g : s8 b 4 = 0) : T0u s3 s8 B r (cn s8 b) = mA s3 s8 b r := by
  unfold T0u
  rw [if_pos (cn_lt s8 hb g), T0f_bar hb g]
theorem T0u_one {s3 s8 : zZ} {B s r : Nat} : T0u s3 s8 B r (cn s8 B + s) = if r = s then 1 else 0 := by
  unfold T0u
  rw [if_neg (by omega), Nat.add_sub_cancel_left]
theorem ker {s3 s8 s7 : zZ} {ks : List Int} (R : ND s3 s8 ks s7) {B n : Nat} (hB : s7 0 25 = B) (hn : n ≤ 8) (hk : (XN s3 s8 B n).1 + 1 = n) : (∃ z0 : Nat → Int, Ann s3 s8 B n z0 ∧ ∃ s, s < n ∧ z0 s ≠ 0) ∧ ∃ x, x < n ∧ ∀ z, Ann s3 s8 B n z → (z x = 0 → ∀ s, s < n → z s = 0) ∧ ∀ z', Ann s3 s8 B n z' → ∀ s, s < n → z' x * z s = z x * z' s := by
  have nvs := T0f_nv R hB n hn
  have g := clr_congr (n := n) (J := cn s8 B) (T := T0f s3 s8 B) (T' := T0u s3 s8 B) (fun r j _ hj => by unfold T0u; rw [if_pos hj]) (k0 := 0) (Nat.zero_le _) (D0 := 1) (L0 := fun _ => -1) (cn s8 B) (Nat.le_refl _)
  have hk' : (clr n (0, 1, T0u s3 s8 B, fun _ => -1) (cn s8 B)).1 + 1 = n := by rw [← g.1]; exact hk
  have CC := clr_CI (n := n) (J := cn s8 B + n) (ld := cn s8 B) (T0 := T0u s3 s8 B) (K := 100) (by decide) (by omega) (fun j hj => by
    rw [nv_congr (w := fun r => T0f s3 s8 B r j) n (fun r _ => by unfold T0u; rw [if_pos hj])]
    exact nvs.1 j hj)
  have D0 : ∀ q, q ≤ cn s8 B → (clr n (0, 1, T0u s3 s8 B, fun _ => -1) q).2.1 ≠ 0 := fun q hq => by
    obtain ⟨_, _, _, _, Bi, _⟩ := CC q hq
    exact Bi.2.1
  obtain ⟨u', v1, v2⟩ := uni (n := n) (m := cn s8 B) (T0 := T0u s3 s8 B) (fun r s _ _ => T0u_one) D0 (cn s8 B) (Nat.le_refl _)
  have C := CC (cn s8 B) (Nat.le_refl _)
  have DD := D0 (cn s8 B) (Nat.le_refl _)
  clear CC D0 g
  generalize clr n (0, 1, T0u s3 s8 B, fun _ => -1) (cn s8 B) = st at *
  obtain ⟨k, D, T, L⟩ := st
  obtain ⟨c, u, z, pc, Bi, P1, P2, P3⟩ := C
  dsimp only at *
  have Tz : ∀ b, b < B → s8 b 4 = 0 → ∀ r, k ≤ r → r < n → T r (cn s8 b) = 0 := by
    intro b hb h0 r h1 h2
    rcases P2 (cn s8 b) (cn_lt s8 hb h0) with h | ⟨i, i1, i2⟩
    · exact h.2 r h1 h2
    · rw [i2, (P1 i i1).2.2.2 r h2, if_neg (by omega)]
  constructor
  · obtain ⟨F, F1, w, w0, F2⟩ := bI_fr Bi (r := k) (Nat.le_refl _) (by omega)
    refine ⟨fun s => F ((fun j r => T0u s3 s8 B r j) (cn s8 B + s)), fun b hb h0 => ?_, u' k, v1 k (by omega), fun h => ?_⟩
    · have lt := cn_lt s8 hb h0
      have f0 : F ((fun j r => T0u s3 s8 B r j) (cn s8 b)) = 0 := by
        have := F2 (cn s8 b) (by omega)
        rw [Tz b hb h0 k (Nat.le_refl _) (by omega), Int.zero_mul] at this
        exact (Int.mul_eq_zero.mp this).resolve_left DD
      have f1 := F1 n (fun s => mA s3 s8 b s) (fun s => (fun j r => T0u s3 s8 B r j) (cn s8 B + s)) 1 ((fun j r => T0u s3 s8 B r j) (cn s8 b)) (fun s hs => by
        dsimp only
        rw [T0u_bar hb h0, tot_one (i := s) n hs (fun l hl hn => by rw [T0u_one, if_neg (fun e => hn e.symm), Int.mul_zero]), T0u_one, if_pos rfl]
        omega)
      rw [f0, Int.mul_zero] at f1
      rw [tot_congr (w := fun s => mA s3 s8 b s * F ((fun j r => T0u s3 s8 B r j) (cn s8 B + s))) n (fun s _ => Int.mul_comm _ _)]
      exact f1.symm
    · have f := F2 (cn s8 B + u' k) (by have := v1 k (by omega); omega)
      have h' : F (fun r => T0u s3 s8 B r (cn s8 B + u' k)) = 0 := h
      rw [h', Int.mul_zero, v2 k (Nat.le_refl _) (by omega) k (by omega), if_pos rfl] at f
      exact mul_ne DD w0 f.symm
  · have O := Bi.2.2.1
    have id := Bi.2.2.2.1
    refine ⟨u k, (O.1 k (by omega)).1, ?_⟩
    have key : ∀ y, Ann s3 s8 B n y → ∀ s, s < n → D * y s = y (u k) * T k (cn s8 B + s) := by
      intro y hy s hs
      have row : ∀ s', s' < n → D * (if s' = s then 1 else 0) = tot (fun i => T i (cn s8 B + s) * c i s') k + (if s' = u k then T k (cn s8 B + s) else 0) := by
        intro s' hs'
        have zz := O.2 s' hs'
        have e := id (cn s8 B + s) (by omega) (z s') zz.1
        dsimp only at e
        rw [zz.2, T0u_one] at e
        rw [e]
        by_cases q : s' = u k
        · have : z s' = k := by rw [q]; exact (O.1 k (by omega)).2
          rw [if_pos (by omega), if_pos q, this]
        · have : z s' ≠ k := fun h => q (by rw [← h, zz.2])
          rw [if_neg (by omega), if_neg q]
      have h1 : tot (fun s' => y s' * (D * (if s' = s then 1 else 0))) n = y s * D := by
        rw [tot_one (i := s) n hs (fun l hl hn => by rw [if_neg hn, Int.mul_zero, Int.mul_zero]), if_pos rfl, Int.mul_one]
      have h2 : tot (fun s' => y s' * (if s' = u k then T k (cn s8 B + s) else 0)) n = y (u k) * T k (cn s8 B + s) := by
        rw [tot_one (i := u k) n (O.1 k (by omega)).1 (fun l hl hn => by rw [if_neg hn, Int.mul_zero]), if_pos rfl]
      have h3 : tot (fun s' => y s' * tot (fun i => T i (cn s8 B + s) * c i s') k) n = 0 := by
        rw [tot_congr (w := fun s' => tot (fun i => T i (cn s8 B + s) * (y s' * c i s')) k) n (fun s' _ => by
          rw [← tot_mulc]
          exact tot_congr k (fun i _ => Int.mul_left_comm _ _ _)), tot_swp]
        refine tot_zero k (fun i hi => ?_)
        rw [tot_mulc]
        obtain ⟨p1, p2, p3, p4⟩ := P1 i hi
        obtain ⟨b, b1, b2, b3⟩ := cn_surj s8 B (pc i) p1
        have a := hy b b1 b2
        rw [tot_congr (w := fun s' => y s' * mA s3 s8 b s') n (fun s' _ => by rw [p3, ← b3]; dsimp only; rw [T0u_bar b1 b2]), a, Int.mul_zero]
      have h4 := tot_lin (f := fun s' => y s' * tot (fun i => T i (cn s8 B + s) * c i s') k) (h := fun s' => y s' * (if s' = u k then T k (cn s8 B + s) else 0)) (a := 1) (b := 1) n
      rw [h3, h2, tot_congr (w := fun s' => y s' * (D * (if s' = s then 1 else 0))) n (fun s' hs' => by
        rw [row s' hs', Int.mul_add, Int.one_mul, Int.one_mul]), h1] at h4
      rw [Int.mul_comm]
      omega
    intro y hy
    have ky := key y hy
    refine ⟨fun h s hs => ?_, fun y' hy' s hs => ?_⟩
    · have := ky s hs
      rw [h, Int.zero_mul] at this
      exact (Int.mul_eq_zero.mp this).resolve_left DD
    · have ky' := key y' hy' s hs
      have := ky s hs
      refine Int.eq_of_mul_eq_mul_left DD ?_
      rw [Int.mul_left_comm, this, Int.mul_left_comm D, ky', Int.mul_left_comm]
