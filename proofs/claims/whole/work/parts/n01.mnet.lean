/-! the net: its data -/
def ND (s3 s8 : zZ) (ks : List Int) (s7 : zZ) : Prop := (s3 0 4 = s7 0 20 ∧ 0 ≤ s7 0 20 ∧ s7 0 20 ≤ 8) ∧ (s3 0 5 = s7 0 21 ∧ 0 ≤ s7 0 21 ∧ s7 0 21 ≤ 4) ∧ (s3 0 7 = s7 0 25 ∧ s3 5 0 = s7 0 25 ∧ s7 0 25 = ks.length ∧ ks.length ≤ 16) ∧ s3 1 0 = s7 0 1 ∧ (∀ j : Nat, (j : Int) < s7 0 20 → s7 14 j = s3 2 j ∧ 0 ≤ s3 2 j ∧ s3 2 j ≤ 5 ∧ s7 15 j = s3 3 j ∧ 0 ≤ s3 3 j ∧ s3 3 j ≤ 5 ∧ ((s3 4 j = -1 ∧ s7 16 j = -9) ∨ (0 ≤ s3 4 j ∧ s3 4 j < s7 0 21 ∧ s7 16 j = s3 4 j))) ∧ (∀ i j : Nat, (i : Int) < s7 0 20 → (j : Int) < s7 0 20 → i ≠ j → (s3 4 i = s3 4 j → s3 4 i = -1) ∧ ¬ (s3 2 i = s3 2 j ∧ s3 3 i = s3 3 j)) ∧ (∀ f : Nat, (f : Int) < s7 0 21 → ∃ j : Nat, (j : Int) < s7 0 20 ∧ s3 4 j = f) ∧ (∀ b : Nat, (b : Int) < s7 0 25 → (ks.getD b 0 = s7 17 b ∧ 0 ≤ s7 17 b ∧ s7 17 b ≤ 2) ∧ s8 b 0 = b ∧ (s8 b 1 = s7 18 (2 * b) ∧ 0 ≤ s7 18 (2 * b) ∧ s7 18 (2 * b) < s7 0 20) ∧ (s8 b 2 = s7 18 (2 * b + 1) ∧ 0 ≤ s7 18 (2 * b + 1) ∧ s7 18 (2 * b + 1) < s7 0 20) ∧ s7 18 (2 * b) ≠ s7 18 (2 * b + 1) ∧ (s8 b 3 = s7 19 b ∧ 1 ≤ s7 19 b ∧ s7 19 b ≤ 999) ∧ s8 b 4 = s7 20 b ∧ (s7 20 b = 0 ∨ s7 20 b = 1)) ∧ (∀ b d : Nat, (b : Int) < s7 0 25 → (d : Int) < s7 0 25 → b ≠ d → ¬ (s7 18 (2 * b) = s7 18 (2 * d) ∧ s7 18 (2 * b + 1) = s7 18 (2 * d + 1)) ∧ ¬ (s7 18 (2 * b) = s7 18 (2 * d + 1) ∧ s7 18 (2 * b + 1) = s7 18 (2 * d))) ∧ (∀ c k : Nat, c < 6 → k < 8 → s7 21 (8 * c + k) = s3 (7 + c) k ∧ -30 ≤ s3 (7 + c) k ∧ s3 (7 + c) k ≤ 30) ∧ (s3 13 0 = 8 ∧ s3 13 1 = 22 ∧ PVf s3) ∧ (s3 24 0 = 16 ∧ s3 24 1 = 8 ∧ PVg s3) ∧ (s3 0 10 = 0 ∨ s3 0 10 = 1)
theorem e_barOf {s3 s8 s7 : zZ} {ks : List Int} (R : ND s3 s8 ks s7) {b : Int} (hb : zr b) : d_X4_barOf s3 b = some (if 0 ≤ b ∧ b < s7 0 25 then b else -1) := by
  obtain ⟨r1, r2, r3, _⟩ := R
  unfold d_X4_barOf
  rw [r3.1, r3.2.1]
  by_cases q : 0 ≤ b ∧ b < s7 0 25
  · simp (disch := omega) only [↓if_pos, ↓if_neg]
  · by_cases q2 : b < 0
    · simp (disch := omega) only [↓if_pos, ↓if_neg]
    · simp (disch := omega) only [↓if_pos, ↓if_neg]
theorem e_isBar {s7 : zZ} {b : Int} (hb : zr b) (h : 0 ≤ s7 0 25 ∧ s7 0 25 ≤ 16) : d_X12_isBar s7 b = some (if 0 ≤ b ∧ b < s7 0 25 then 1 else 0) := by
  unfold d_X12_isBar
  repeat' split
  all_goals first | rfl | (exfalso; omega)
theorem e_isJ7 {s7 : zZ} {j : Int} (hj : zr j) (h : 0 ≤ s7 0 20 ∧ s7 0 20 ≤ 8) : d_X12_isJoint s7 j = some (if 0 ≤ j ∧ j < s7 0 20 then 1 else 0) := by
  unfold d_X12_isJoint
  repeat' split
  all_goals first | rfl | (exfalso; omega)
theorem e_isJ4 {s3 : zZ} {j : Int} (hj : zr j) (h : 0 ≤ s3 0 4 ∧ s3 0 4 ≤ 8) : d_X4_isJoint s3 j = some (if 0 ≤ j ∧ j < s3 0 4 then 1 else 0) := by
  unfold d_X4_isJoint
  repeat' split
  all_goals first | rfl | (exfalso; omega)
theorem m_trace {s0 s3 s8 s7 : zZ} {ks : List Int} (R : ND s3 s8 ks s7) : ∃ r, d_X11_trace s0 s3 = some r ∧ d_X12_trace s7 = some r := by
  unfold d_X11_trace d_X12_trace
  exact ⟨_, rfl, by rw [R.2.2.2.1]⟩
theorem m_about {s0 s3 s8 s7 : zZ} {ks : List Int} {b wh : Int} (hb : zr b) (hw : zr wh) (R : ND s3 s8 ks s7) : ∃ r, d_X11_about s0 s3 s8 ks b wh = some r ∧ d_X12_about s7 b wh = some r := by
  have hR := R
  obtain ⟨r1, r2, r3, r4, r5, r6, r7, r8, r9, r10, r11, r12, r13⟩ := hR
  unfold d_X11_about d_X12_about
  rw [e_barOf R hb, e_isBar hb (by omega)]
  by_cases q : 0 ≤ b ∧ b < s7 0 25
  · obtain ⟨n, rfl⟩ : ∃ n : Nat, b = n := ⟨b.toNat, by omega⟩
    have B := r8 n q.2
    have e2 : (2 * (n : Int)).toNat = 2 * n := by omega
    have e3 : (2 * (n : Int) + 1).toNat = 2 * n + 1 := by omega
    simp only [if_pos q, Option.bind_some, Int.toNat_natCast, e2, e3, B.1.1, B.2.2.1.1, B.2.2.2.1.1, B.2.2.2.2.2.1.1, B.2.2.2.2.2.2.1, d_X3_kindNumber, d_X1_kindNumber, d_X0_kindNumber]
    have k3 : s7 17 n = 0 ∨ s7 17 n = 1 ∨ s7 17 n = 2 := by omega
    by_cases w0 : wh = 0
    · rcases k3 with k | k | k
      all_goals
        simp (disch := omega) only [↓if_pos, ↓if_neg]
        exact ⟨_, rfl, by rw [k]⟩
    · by_cases w1 : wh = 1
      · simp (disch := omega) only [↓if_pos, ↓if_neg]
        exact ⟨_, rfl, rfl⟩
      · by_cases w2 : wh = 2
        · simp (disch := omega) only [↓if_pos, ↓if_neg]
          exact ⟨_, rfl, rfl⟩
        · by_cases w3 : wh = 3
          · simp (disch := omega) only [↓if_pos, ↓if_neg]
            exact ⟨_, rfl, rfl⟩
          · by_cases w4 : wh = 4
            · by_cases g : s7 20 n = 0
              · simp (disch := omega) only [↓if_pos, ↓if_neg]
                exact ⟨_, rfl, rfl⟩
              · simp (disch := omega) only [↓if_pos, ↓if_neg]
                exact ⟨_, rfl, rfl⟩
            · simp (disch := omega) only [↓if_pos, ↓if_neg]
              exact ⟨_, rfl, rfl⟩
  · simp (disch := omega) only [↓if_pos, ↓if_neg, ↓Option.bind_some]
    exact ⟨_, rfl, rfl⟩
theorem ND_trace {s3 s8 s7 : zZ} {ks : List Int} (R : ND s3 s8 ks s7) {v : Int} : ND (upz s3 1 0 v) s8 ks (upz s7 0 1 v) := by
  obtain ⟨r1, r2, r3, r4, r5, r6, r7, r8, r9, r10, r11, r12, r13⟩ := R
  have a : ∀ q, q ≠ 1 → upz s3 1 0 v q = s3 q := fun q hq => upz_ne _ _ _ _ hq
  have b : ∀ q, q ≠ 0 → upz s7 0 1 v q = s7 q := fun q hq => upz_ne _ _ _ _ hq
  have c : ∀ j, j ≠ 1 → upz s7 0 1 v 0 j = s7 0 j := fun j hj => by rw [upz_at, if_pos rfl, if_neg hj]
  unfold ND PVf PVg
  simp only [a 0 (by decide), a 2 (by decide), a 3 (by decide), a 4 (by decide), a 5 (by decide), a 13 (by decide), a 14 (by decide), a 24 (by decide), a 25 (by decide), b 14 (by decide), b 15 (by decide), b 16 (by decide), b 17 (by decide), b 18 (by decide), b 19 (by decide), b 20 (by decide), b 21 (by decide), c 20 (by decide), c 21 (by decide), c 25 (by decide), upz_hit]
  refine ⟨r1, r2, r3, trivial, r5, r6, r7, r8, r9, fun x y hx hy => ?_, r11, r12, r13⟩
  rw [a (7 + x) (by omega)]
  exact r10 x y hx hy
theorem upz_same (s : zZ) (p i : Nat) (a b : Int) : upz (upz s p i a) p i b = upz s p i b := by
  funext q j
  simp only [upz_at]
  grind
theorem upz_id (s : zZ) (p i : Nat) : upz s p i (s p i) = s := by
  funext q j
  simp only [upz_at]
  grind
theorem e_leave (s : zZ) (v n : Int) : d_X10_leave (upz s 1 0 v) n = some (upz s 1 0 (31 * v + n)) := by
  unfold d_X10_leave
  rw [upz_hit, upz_same]
theorem e_begins (s : zZ) (v n : Int) : d_X12_begins (upz s 0 1 v) n = some (upz s 0 1 (31 * v + n)) := by
  unfold d_X12_begins
  rw [upz_hit, upz_same]
theorem e_plain {s s8 : zZ} {ks : List Int} {n : Nat} (hn : n < ks.length ∧ n < 1024) (v : Int) : d_X0_plainTelling (upz s 1 0 v) s8 ks n = some (s8 n 3, upz s 1 0 (31 * v + 1)) := by
  unfold d_X0_plainTelling
  rw [e_leave, Option.bind_some, Int.toNat_natCast, if_pos hn]
theorem e_tell0 {s s8 : zZ} {ks : List Int} {n : Nat} (hn : n < ks.length ∧ n < 1024) (k : ks.getD n 0 = 0) (v : Int) : d_X0_telling (upz s 1 0 v) s8 ks n = some (s8 n 3, upz s 1 0 (31 * v + 1)) := by
  unfold d_X0_telling
  rw [Int.toNat_natCast, if_pos hn, k, if_neg (by decide), if_neg (by decide), e_plain hn, Option.bind_some]
theorem e_tell3 {s s8 : zZ} {ks : List Int} {n : Nat} (hn : n < ks.length ∧ n < 1024) (k : ks.getD n 0 = 1 ∨ ks.getD n 0 = 2) (hz : zr (s8 n 4)) (v : Int) : d_X3_telling (upz s 1 0 v) s8 ks n = some (s8 n 3 + (if s8 n 4 = 0 then 0 else 1000), upz s 1 0 (31 * (31 * v + 2) + 1)) := by
  unfold d_X3_telling
  rw [e_leave, Option.bind_some, Int.toNat_natCast, if_pos hn, e_plain hn]
  have core : (if (n < ks.length ∧ n < 1024 ∧ (ks.getD n 0 = 1 ∨ ks.getD n 0 = 2)) then (if (zr (s8 n 4)) then (if (s8 n 4) = 0 then some ((s8 n 3, upz s 1 0 (31 * (31 * v + 2) + 1)).1 + 0, (s8 n 3, upz s 1 0 (31 * (31 * v + 2) + 1)).2) else some ((s8 n 3, upz s 1 0 (31 * (31 * v + 2) + 1)).1 + 1000, (s8 n 3, upz s 1 0 (31 * (31 * v + 2) + 1)).2)) else none) else none) = some (s8 n 3 + (if s8 n 4 = 0 then 0 else 1000), upz s 1 0 (31 * (31 * v + 2) + 1)) := by
    rw [if_pos ⟨hn.1, hn.2, k⟩, if_pos hz]
    by_cases g : s8 n 4 = 0
    · rw [if_pos g, if_pos g]
    · rw [if_neg g, if_neg g]
  rcases k with k1 | k1
  · rw [if_pos k1, Option.bind_some]
    exact core
  · rw [if_neg (by rw [k1]; decide), if_pos k1, Option.bind_some]
    exact core
theorem e_tell1 {s s8 : zZ} {ks : List Int} {n : Nat} (hn : n < ks.length ∧ n < 1024) (k : ks.getD n 0 = 2) (hz : zr (s8 n 4)) (v : Int) : d_X1_telling (upz s 1 0 v) s8 ks n = some (s8 n 3 + (if s8 n 4 = 0 then 0 else 1000) + s8 n 3, upz s 1 0 (31 * (31 * (31 * (31 * v + 3) + 2) + 1) + 1)) := by
  unfold d_X1_telling
  rw [e_leave, Option.bind_some, Int.toNat_natCast, if_pos hn, if_neg (by rw [k]; decide), if_pos k, e_tell3 hn (Or.inr k) hz, Option.bind_some, if_pos hn, if_neg (by rw [k]; decide), if_pos k]
  dsimp only
  rw [e_plain hn, Option.bind_some]
theorem m_tell {s0 s3 s8 s7 : zZ} {ks : List Int} {b : Int} (hb : zr b) (R : ND s3 s8 ks s7) : ∃ r s3' s7', d_X11_tell s0 s3 s8 ks b = some (r, s3') ∧ d_X12_tell s7 b = some (r, s7') ∧ ND s3' s8 ks s7' ∧ (∀ q, q ≠ 1 → s3' q = s3 q) ∧ Fr [] [1] s7 s7' := by
  have hR := R
  obtain ⟨r1, r2, r3, r4, r5, r6, r7, r8, r9, r10, r11, r12, r13⟩ := hR
  unfold d_X11_tell d_X12_tell
  rw [e_barOf R hb, e_isBar hb (by omega)]
  by_cases q : 0 ≤ b ∧ b < s7 0 25
  · obtain ⟨n, rfl⟩ : ∃ n : Nat, b = n := ⟨b.toNat, by omega⟩
    have B := r8 n q.2
    have hn : n < ks.length ∧ n < 1024 := by omega
    have k3 : s7 17 n = 0 ∨ s7 17 n = 1 ∨ s7 17 n = 2 := by omega
    have z4 : zr (s8 n 4) := by omega
    have i3 : s3 = upz s3 1 0 (s7 0 1) := by rw [← r4, upz_id]
    have i7 : ∀ x, d_X12_begins s7 x = some (upz s7 0 1 (31 * s7 0 1 + x)) := fun x => rfl
    have u19 : ∀ v, upz s7 0 1 v 19 = s7 19 := fun v => upz_ne _ _ _ _ (by decide)
    have fr : ∀ v, (∀ q, q ≠ 1 → upz s3 1 0 v q = s3 q) ∧ Fr [] [1] s7 (upz s7 0 1 v) := fun v => ⟨fun q hq => upz_ne _ _ _ _ hq, Fr_upz0 (by decide) (Fr_refl _ _ _)⟩
    rw [if_pos q, if_pos q, Option.bind_some, Option.bind_some, Int.toNat_natCast]
    rcases k3 with k | k | k
    · have t := e_tell0 (s := s3) (s8 := s8) hn (B.1.1.trans k) (s7 0 1)
      rw [← i3] at t
      by_cases g : s7 20 n = 0
      · simp (disch := omega) only [↓if_pos, ↓if_neg, B.1.1]
        rw [t, i7, Option.bind_some, Option.bind_some, u19, B.2.2.2.2.2.1.1]
        exact ⟨_, _, _, rfl, rfl, ND_trace R, fr _⟩
      · simp (disch := omega) only [↓if_pos, ↓if_neg, B.1.1]
        rw [t, i7, Option.bind_some, Option.bind_some, u19, B.2.2.2.2.2.1.1]
        exact ⟨_, _, _, rfl, rfl, ND_trace R, fr _⟩
    · have t := e_tell3 (s := s3) (s8 := s8) hn (Or.inl (B.1.1.trans k)) z4 (s7 0 1)
      rw [← i3] at t
      by_cases g : s7 20 n = 0
      · simp (disch := omega) only [↓if_pos, ↓if_neg, B.1.1]
        rw [t, i7, Option.bind_some, Option.bind_some, e_begins, Option.bind_some, u19, B.2.2.2.2.2.1.1, if_pos (by rw [B.2.2.2.2.2.2.1]; exact g)]
        exact ⟨_, _, _, rfl, rfl, ND_trace R, fr _⟩
      · simp (disch := omega) only [↓if_pos, ↓if_neg, B.1.1]
        rw [t, i7, Option.bind_some, Option.bind_some, e_begins, Option.bind_some, u19, B.2.2.2.2.2.1.1, if_neg (by rw [B.2.2.2.2.2.2.1]; exact g)]
        exact ⟨_, _, _, rfl, rfl, ND_trace R, fr _⟩
    · have t := e_tell1 (s := s3) (s8 := s8) hn (B.1.1.trans k) z4 (s7 0 1)
      rw [← i3] at t
      by_cases g : s7 20 n = 0
      · simp (disch := omega) only [↓if_pos, ↓if_neg, B.1.1]
        rw [t, i7, Option.bind_some, Option.bind_some, e_begins, Option.bind_some, e_begins, Option.bind_some, e_begins, Option.bind_some, u19, B.2.2.2.2.2.1.1, if_pos (by rw [B.2.2.2.2.2.2.1]; exact g)]
        exact ⟨_, _, _, rfl, by rw [show 2 * s7 19 n + 0 = s7 19 n + 0 + s7 19 n by omega], ND_trace R, fr _⟩
      · simp (disch := omega) only [↓if_pos, ↓if_neg, B.1.1]
        rw [t, i7, Option.bind_some, Option.bind_some, e_begins, Option.bind_some, e_begins, Option.bind_some, e_begins, Option.bind_some, u19, B.2.2.2.2.2.1.1, if_neg (by rw [B.2.2.2.2.2.2.1]; exact g)]
        exact ⟨_, _, _, rfl, by rw [show 2 * s7 19 n + 1000 = s7 19 n + 1000 + s7 19 n by omega], ND_trace R, fr _⟩
  · simp (disch := omega) only [↓if_pos, ↓if_neg, ↓Option.bind_some]
    exact ⟨_, _, _, rfl, rfl, R, fun _ _ => rfl, Fr_refl _ _ _⟩
theorem m_sign {s0 s3 s8 s7 : zZ} {ks : List Int} {b : Int} (hb : zr b) (R : ND s3 s8 ks s7) : ∃ r s3' s7', d_X11_sign s0 s3 s8 ks b = some (r, s3') ∧ d_X12_sign s7 b = some (r, s7') ∧ ND s3' s8 ks s7' ∧ (∀ q, q ≠ 1 → s3' q = s3 q) ∧ Fr [] [1] s7 s7' := by
  have hR := R
  obtain ⟨r1, r2, r3, r4, r5, r6, r7, r8, r9, r10, r11, r12, r13⟩ := hR
  unfold d_X11_sign d_X12_sign
  rw [e_barOf R hb, e_isBar hb (by omega)]
  by_cases q : 0 ≤ b ∧ b < s7 0 25
  · obtain ⟨n, rfl⟩ : ∃ n : Nat, b = n := ⟨b.toNat, by omega⟩
    have B := r8 n q.2
    have hn : n < ks.length ∧ n < 1024 := by omega
    have k3 : s7 17 n = 0 ∨ s7 17 n = 1 ∨ s7 17 n = 2 := by omega
    have i3 : s3 = upz s3 1 0 (s7 0 1) := by rw [← r4, upz_id]
    have i7 : ∀ x, d_X12_begins s7 x = some (upz s7 0 1 (31 * s7 0 1 + x)) := fun x => rfl
    have u17 : ∀ v, upz s7 0 1 v 17 = s7 17 := fun v => upz_ne _ _ _ _ (by decide)
    have fr : ∀ v, (∀ q, q ≠ 1 → upz s3 1 0 v q = s3 q) ∧ Fr [] [1] s7 (upz s7 0 1 v) := fun v => ⟨fun q hq => upz_ne _ _ _ _ hq, Fr_upz0 (by decide) (Fr_refl _ _ _)⟩
    have g0 : d_X0_signing s3 s8 ks n = some ((n : Int), upz s3 1 0 (31 * s7 0 1 + 4)) := by
      unfold d_X0_signing
      rw [i3, e_leave, Option.bind_some, Int.toNat_natCast, if_pos hn, B.2.1, upz_same]
    have g1 : d_X1_signing s3 s8 ks n = some (70, upz s3 1 0 (31 * s7 0 1 + 5)) := by
      unfold d_X1_signing
      rw [i3, e_leave, Option.bind_some, upz_same]
    rw [if_pos q, if_pos q, Option.bind_some, Option.bind_some, Int.toNat_natCast, g0, g1, i7, i7]
    simp only [Option.bind_some, u17, B.1.1]
    rcases k3 with k | k | k
    all_goals
      simp (disch := omega) only [↓if_pos, ↓if_neg]
      exact ⟨_, _, _, rfl, rfl, ND_trace R, fr _⟩
  · simp (disch := omega) only [↓if_pos, ↓if_neg, ↓Option.bind_some]
    exact ⟨_, _, _, rfl, rfl, R, fun _ _ => rfl, Fr_refl _ _ _⟩
theorem e_isKind {k : Int} (h : zr k) : d_X4_isKind k = some (if 0 ≤ k ∧ k ≤ 2 then 1 else 0) := by
  unfold d_X4_isKind
  repeat' split
  all_goals first | rfl | (exfalso; omega)
theorem ND_0 {s3 s8 s7 : zZ} {ks : List Int} (R : ND s3 s8 ks s7) {v : Int} : ND s3 s8 ks (upz s7 0 0 v) := by
  obtain ⟨r1, r2, r3, r4, r5, r6, r7, r8, r9, r10, r11, r12, r13⟩ := R
  have b : ∀ q, q ≠ 0 → upz s7 0 0 v q = s7 q := fun q hq => upz_ne _ _ _ _ hq
  have c : ∀ j, j ≠ 0 → upz s7 0 0 v 0 j = s7 0 j := fun j hj => by rw [upz_at, if_pos rfl, if_neg hj]
  unfold ND
  simp only [b 14 (by decide), b 15 (by decide), b 16 (by decide), b 17 (by decide), b 18 (by decide), b 19 (by decide), b 20 (by decide), b 21 (by decide), c 1 (by decide), c 20 (by decide), c 21 (by decide), c 25 (by decide)]
  exact ⟨r1, r2, r3, r4, r5, r6, r7, r8, r9, r10, r11, r12, r13⟩
theorem m_as {s0 s3 s8 s7 : zZ} {ks : List Int} {b kind : Int} (hb : zr b) (hk : zr kind) (R : ND s3 s8 ks s7) : ∃ r s0' s7', d_X11_as s0 s3 s8 ks b kind = some (r, s0') ∧ d_X12_as s7 b kind = some (r, s7') ∧ s0' 0 6 = s7' 0 0 ∧ ND s3 s8 ks s7' ∧ Fr [] [0] s7 s7' := by
  have hR := R
  obtain ⟨r1, r2, r3, r4, r5, r6, r7, r8, r9, r10, r11, r12, r13⟩ := hR
  have F0 : ∀ v, Fr [] [0] s7 (upz s7 0 0 v) := fun v => Fr_upz0 (by decide) (Fr_refl _ _ _)
  have F1 : ∀ v, Fr [] [0] s7 (upz (upz s7 0 0 0) 0 0 v) := fun v => Fr_upz0 (by decide) (F0 0)
  have c1 : ∀ v w : Int, (upz (upz s0 0 6 v) 0 6 w) 0 6 = (upz (upz s7 0 0 v) 0 0 w) 0 0 := fun v w => by rw [upz_hit, upz_hit]
  have c0 : ∀ v : Int, (upz s0 0 6 v) 0 6 = (upz s7 0 0 v) 0 0 := fun v => by rw [upz_hit, upz_hit]
  have h25 : upz s7 0 0 0 0 25 = s7 0 25 := by rw [upz_at, if_pos rfl, if_neg (by decide)]
  unfold d_X11_as d_X12_as
  rw [e_barOf R hb, e_isBar hb (by rw [h25]; omega), e_isKind hk, e_X12_within (by omega), h25]
  simp only [upz_ne s7 0 0 0 (show 17 ≠ 0 by decide), e_X12_fails, d_X11_faultAnswer]
  by_cases q : 0 ≤ b ∧ b < s7 0 25
  · obtain ⟨n, rfl⟩ : ∃ n : Nat, b = n := ⟨b.toNat, by omega⟩
    have B := r8 n q.2
    rw [if_pos q, if_pos q, Option.bind_some, Option.bind_some, Int.toNat_natCast, Option.bind_some, Option.bind_some]
    simp only [B.1.1]
    have k3 : s7 17 n = 0 ∨ s7 17 n = 1 ∨ s7 17 n = 2 := by omega
    by_cases kk : 0 ≤ kind ∧ kind ≤ 2
    · have kd : kind = 0 ∨ kind = 1 ∨ kind = 2 := by omega
      rcases k3 with k | k | k <;> rcases kd with rfl | rfl | rfl
      all_goals
        simp (disch := omega) only [↓if_pos, ↓if_neg, ↓Option.bind_some]
        first
        | exact ⟨_, _, _, rfl, rfl, c0 _, ND_0 R, F0 _⟩
        | exact ⟨_, _, _, rfl, rfl, c1 _ _, ND_0 (ND_0 R), F1 _⟩
    · simp (disch := omega) only [↓if_pos, ↓if_neg, ↓Option.bind_some]
      exact ⟨_, _, _, rfl, rfl, c0 _, ND_0 R, F0 _⟩
  · simp (disch := omega) only [↓if_pos, ↓if_neg, ↓Option.bind_some]
    exact ⟨_, _, _, rfl, rfl, c0 _, ND_0 R, F0 _⟩
