/-! the dome: panels, thrusts, pulls -/
def RDm (s1 : zZ) (pn : Int) (o d w : Nat → Int) : Prop := s1 0 3 = pn ∧ 0 ≤ pn ∧ pn ≤ 8 ∧ ∀ a : Nat, (a : Int) < pn → o a = s1 1 a ∧ d a = s1 2 a ∧ w a = s1 3 a ∧ 0 ≤ s1 1 a ∧ s1 1 a ≤ 99 ∧ 1 ≤ s1 2 a ∧ s1 2 a ≤ 99 ∧ 0 ≤ s1 3 a ∧ s1 3 a ≤ 999
theorem e_X2_isPanel {s1 : zZ} {p : Int} (hp : zr p) (h : zr (s1 0 3)) : d_X2_isPanel s1 p = some (if 0 ≤ p ∧ p < s1 0 3 then 1 else 0) := by
  unfold d_X2_isPanel
  repeat' split
  all_goals first | rfl | (exfalso; omega)
theorem e_X12_isPanel {s7 : zZ} {p : Int} (hp : zr p) (h : zr (s7 0 5)) : d_X12_isPanel s7 p = some (if 0 ≤ p ∧ p < s7 0 5 then 1 else 0) := by
  unfold d_X12_isPanel
  repeat' split
  all_goals first | rfl | (exfalso; omega)
def wsum (w : Nat → Int) : Nat → Int
  | 0 => 0
  | n + 1 => wsum w n + w n
theorem wsum_rng {w : Nat → Int} : ∀ n : Nat, (∀ a, a < n → 0 ≤ w a ∧ w a ≤ 999) → 0 ≤ wsum w n ∧ wsum w n ≤ 999 * n := by
  intro n
  induction n with
  | zero => intro _; exact ⟨Int.le_refl _, Int.le_refl _⟩
  | succ n ih =>
    intro h
    have a := ih (fun a ha => h a (by omega))
    have b := h n (by omega)
    show 0 ≤ wsum w n + w n ∧ wsum w n + w n ≤ _
    omega
theorem wsum_congr {w v : Nat → Int} : ∀ n : Nat, (∀ a, a < n → w a = v a) → wsum w n = wsum v n := by
  intro n
  induction n with
  | zero => intro _; rfl
  | succ n ih =>
    intro h
    show wsum w n + w n = wsum v n + v n
    rw [ih (fun a ha => h a (by omega)), h n (by omega)]
theorem e_wd_loop {s1 : zZ} {P : Nat} (hP : (P : Int) < s1 0 3) (h8 : s1 0 3 ≤ 8) : ∀ (n k f : Nat), k + n = P + 1 → n + 1 ≤ f → ∃ z, d_X2_weightDownTo_4 s1 P f (wsum (s1 3) k) k = some (wsum (s1 3) (P + 1), z) := by
  intro n
  induction n with
  | zero =>
    intro k f hk hf
    obtain ⟨f, rfl⟩ : ∃ g, f = g + 1 := ⟨f - 1, by omega⟩
    unfold d_X2_weightDownTo_4
    rw [if_pos (by omega), if_pos (by omega)]
    have : k = P + 1 := by omega
    subst this
    exact ⟨_, rfl⟩
  | succ n ih =>
    intro k f hk hf
    obtain ⟨f, rfl⟩ : ∃ g, f = g + 1 := ⟨f - 1, by omega⟩
    unfold d_X2_weightDownTo_4
    rw [if_pos (by omega), if_neg (by omega), if_pos (by omega), if_neg (by omega), if_pos (by omega), Int.toNat_natCast]
    have e1 : ((k : Int) + 1) = ((k + 1 : Nat) : Int) := by omega
    rw [e1]
    exact ih (k + 1) f (by omega) (by omega)
theorem e_wd {s1 : zZ} {P : Nat} (hP : (P : Int) < s1 0 3) (h8 : s1 0 3 ≤ 8) : d_X2_weightDownTo s1 P = some (wsum (s1 3) (P + 1)) := by
  obtain ⟨z, hz⟩ := e_wd_loop hP h8 (P + 1) 0 zF (by omega) (by unfold zF; omega)
  unfold d_X2_weightDownTo
  have e : d_X2_weightDownTo_4 s1 P zF 0 0 = some (wsum (s1 3) (P + 1), z) := hz
  rw [e]
  rfl
theorem e_ab_loop {s7 : zZ} {P : Nat} (hP : P < 16) : ∀ (n k f : Nat), k + n = P + 1 → n + 1 ≤ f → ∃ z, d_X12_above_4 s7 P f (wsum (s7 6) k) k = some (wsum (s7 6) (P + 1), z) := by
  intro n
  induction n with
  | zero =>
    intro k f hk hf
    obtain ⟨f, rfl⟩ : ∃ g, f = g + 1 := ⟨f - 1, by omega⟩
    unfold d_X12_above_4
    rw [if_pos (by omega), if_pos (by omega)]
    have : k = P + 1 := by omega
    subst this
    exact ⟨_, rfl⟩
  | succ n ih =>
    intro k f hk hf
    obtain ⟨f, rfl⟩ : ∃ g, f = g + 1 := ⟨f - 1, by omega⟩
    unfold d_X12_above_4
    rw [if_pos (by omega), if_neg (by omega), if_pos (by omega), Int.toNat_natCast]
    have e1 : ((k : Int) + 1) = ((k + 1 : Nat) : Int) := by omega
    rw [e1]
    exact ih (k + 1) f (by omega) (by omega)
theorem e_ab {s1 s7 : zZ} (R : RDm s1 (s7 0 5) (s7 4) (s7 5) (s7 6)) {P : Nat} (hP : (P : Int) < s7 0 5) : d_X12_above s7 P = some (wsum (s1 3) (P + 1)) := by
  have R3 := R.2.2.1
  obtain ⟨z, hz⟩ := e_ab_loop (s7 := s7) (P := P) (by omega) (P + 1) 0 zF (by omega) (by unfold zF; omega)
  unfold d_X12_above
  have e : d_X12_above_4 s7 P zF 0 0 = some (wsum (s7 6) (P + 1), z) := hz
  rw [e, wsum_congr (v := s1 3) (P + 1) (fun a ha => (R.2.2.2 a (by omega)).2.2.1)]
  rfl
theorem mul_rng {x y a b : Int} (hx : 0 ≤ x ∧ x ≤ a) (hy : 0 ≤ y ∧ y ≤ b) : 0 ≤ x * y ∧ x * y ≤ a * b := ⟨Int.mul_nonneg hx.1 hy.1, Int.mul_le_mul hx.2 hy.2 hy.1 (by omega)⟩
theorem root_same {a b : Int} (hb : 0 < b ∧ b ≤ 9801) (ha : 0 ≤ a ∧ a < 70368744177664) : ∃ r, d_X11_wholeRoot (a.tdiv b) = some r ∧ d_X12_root a b = some r ∧ 0 ≤ r ∧ r ≤ 8388607 := by
  rw [Int.tdiv_eq_ediv_of_nonneg ha.1]
  have h1 : 0 ≤ a / b := Int.ediv_nonneg ha.1 (by omega)
  have h2 : a / b ≤ a := Int.ediv_le_self b ha.1
  obtain ⟨r, r1, r2, r3, r4, r5⟩ := e_wholeRoot (sq := a / b) (by omega)
  have h3 : (70368744177664 : Int) * 1 ≤ 70368744177664 * b := Int.mul_le_mul_of_nonneg_left (by omega) (by decide)
  obtain ⟨t, t1, t2, t3, t4, t5⟩ := e_root hb ha.1 (by omega)
  have e : r = t := root_uniq r2 t2 r4 r5 (Int.le_ediv_of_mul_le hb.1 t4) (Int.ediv_lt_of_lt_mul hb.1 t5)
  subst e
  exact ⟨r, r1, t1, t2, t3⟩
theorem e_sq1 {s1 : zZ} {P : Nat} (hP : P < 8) (h1 : zr (s1 1 P)) (h2 : zr (s1 2 P)) : d_X2_squareOf s1 P = some (s1 1 P * s1 1 P + s1 2 P * s1 2 P) := by
  unfold d_X2_squareOf
  simp only [Int.toNat_natCast]
  simp (disch := omega) only [↓if_pos, ↓if_neg]
theorem e_sq7 {s1 s7 : zZ} (R : RDm s1 (s7 0 5) (s7 4) (s7 5) (s7 6)) {P : Nat} (hP : (P : Int) < s7 0 5) : d_X12_square s7 P = some (s1 1 P * s1 1 P + s1 2 P * s1 2 P) := by
  have F := R.2.2.2 P hP
  have R3 := R.2.2.1
  unfold d_X12_square
  simp only [Int.toNat_natCast]
  simp (disch := omega) only [↓if_pos, ↓if_neg]
  rw [F.1, F.2.1]
theorem e_push {s1 s7 : zZ} (R : RDm s1 (s7 0 5) (s7 4) (s7 5) (s7 6)) {P : Nat} (hP : (P : Int) < s7 0 5) : ∃ r, d_X2_pushAlong s1 P = some r ∧ d_X12_pushOf s7 P = some r ∧ 0 ≤ r ∧ r ≤ 8388607 := by
  have F := R.2.2.2 P hP
  have R3 := R.2.2.1
  have R1 := R.1
  have W := wsum_rng (w := s1 3) (P + 1) (fun a ha => by have := R.2.2.2 a (by omega); omega)
  have q1 := mul_rng (x := s1 1 P) (y := s1 1 P) (a := 99) (b := 99) (by omega) (by omega)
  have q2 := mul_rng (x := s1 2 P) (y := s1 2 P) (a := 99) (b := 99) (by omega) (by omega)
  have q2' := mul_rng (x := s1 2 P - 1) (y := s1 2 P) (a := 98) (b := 99) (by omega) (by omega)
  rw [Int.sub_mul] at q2'
  have q3 := mul_rng (x := wsum (s1 3) (P + 1)) (y := wsum (s1 3) (P + 1)) (a := 7992) (b := 7992) (by omega) (by omega)
  have q4 := mul_rng (x := wsum (s1 3) (P + 1) * wsum (s1 3) (P + 1)) (y := s1 1 P * s1 1 P + s1 2 P * s1 2 P) (a := 63872064) (b := 19602) (by omega) (by omega)
  obtain ⟨r, r1, r2, r3⟩ := root_same (a := wsum (s1 3) (P + 1) * wsum (s1 3) (P + 1) * (s1 1 P * s1 1 P + s1 2 P * s1 2 P)) (b := s1 2 P * s1 2 P) (by omega) (by omega)
  refine ⟨r, ?_, ?_, r3⟩
  · unfold d_X2_pushAlong
    rw [e_wd (by omega) (by omega), e_sq1 (by omega) (by omega) (by omega)]
    simp only [Int.toNat_natCast]
    simp (disch := omega) only [↓if_pos, ↓if_neg, ↓Option.bind_some]
    rw [r1]
    rfl
  · unfold d_X12_pushOf
    rw [e_ab R hP, e_sq7 R hP]
    simp only [Int.toNat_natCast, F.2.1]
    simp (disch := omega) only [↓if_pos, ↓if_neg, ↓Option.bind_some]
    rw [r2]
    rfl
theorem e_len {s1 s7 : zZ} (R : RDm s1 (s7 0 5) (s7 4) (s7 5) (s7 6)) {P : Nat} (hP : (P : Int) < s7 0 5) : ∃ r, d_X2_lengthOf s1 P = some r ∧ d_X12_lengthOf s7 P = some r ∧ 0 ≤ r ∧ r ≤ 200 := by
  have F := R.2.2.2 P hP
  have R3 := R.2.2.1
  have R1 := R.1
  have q1 := mul_rng (x := s1 1 P) (y := s1 1 P) (a := 99) (b := 99) (by omega) (by omega)
  have q2 := mul_rng (x := s1 2 P) (y := s1 2 P) (a := 99) (b := 99) (by omega) (by omega)
  obtain ⟨r, r1, r2, r3, r4, r5⟩ := e_wholeRoot (sq := s1 1 P * s1 1 P + s1 2 P * s1 2 P) (by omega)
  obtain ⟨t, t1, t2, t3⟩ := root_same (a := s1 1 P * s1 1 P + s1 2 P * s1 2 P) (b := 1) (by omega) (by omega)
  rw [Int.tdiv_one, r1] at t1
  obtain rfl := Option.some.inj t1
  refine ⟨r, ?_, ?_, r2, ?_⟩
  · unfold d_X2_lengthOf
    rw [e_sq1 (by omega) (by omega) (by omega), Option.bind_some, r1]
    rfl
  · unfold d_X12_lengthOf
    rw [e_sq7 R hP]
    simp (disch := omega) only [↓if_pos, ↓if_neg, ↓Option.bind_some]
    rw [t2]
    rfl
  · rcases Int.lt_or_le 200 r with h | h
    · have := sq_lt (a := 200) (b := r) (by decide) h
      omega
    · exact h
theorem m_panel {s0 s1 s7 : zZ} {p wh : Int} (hp : zr p) (hw : zr wh) (R : RDm s1 (s7 0 5) (s7 4) (s7 5) (s7 6)) : ∃ r, d_X11_panel s0 s1 p wh = some r ∧ d_X12_panel s7 p wh = some r := by
  have R1 := R.1
  have R2 := R.2.1
  have R3 := R.2.2.1
  unfold d_X11_panel d_X12_panel d_X2_aboutPanel
  rw [e_X2_isPanel hp (by omega), e_X12_isPanel hp (by omega)]
  by_cases h1 : 0 ≤ p ∧ p < s7 0 5
  · obtain ⟨P, rfl⟩ : ∃ P : Nat, p = P := ⟨p.toNat, by omega⟩
    have F := R.2.2.2 P (by omega)
    obtain ⟨u, u1, u2, u3⟩ := e_push R h1.2
    obtain ⟨v, v1, v2, v3⟩ := e_len R h1.2
    simp only [Int.toNat_natCast, u1, u2, v1, v2, e_wd (s1 := s1) (P := P) (by omega) (by omega), e_ab R h1.2, F.1, F.2.1, F.2.2.1]
    by_cases h2 : wh < 0
    · simp (disch := omega) only [↓if_pos, ↓if_neg, ↓Option.bind_some, ite_self]
      exact ⟨_, rfl, rfl⟩
    · by_cases h3 : 5 < wh
      · simp (disch := omega) only [↓if_pos, ↓if_neg, ↓Option.bind_some, ite_self]
        exact ⟨_, rfl, rfl⟩
      · have h4 : wh = 0 ∨ wh = 1 ∨ wh = 2 ∨ wh = 3 ∨ wh = 4 ∨ wh = 5 := by omega
        rcases h4 with rfl | rfl | rfl | rfl | rfl | rfl
        all_goals
          simp (disch := omega) only [↓if_pos, ↓if_neg, ↓Option.bind_some, ite_self]
          exact ⟨_, rfl, rfl⟩
  · simp (disch := omega) only [↓if_pos, ↓if_neg, ↓Option.bind_some, ite_self]
    exact ⟨_, rfl, rfl⟩
theorem e_thr {s1 s7 : zZ} {P : Nat} {wh : Int} (hw : zr wh) (hw2 : 0 ≤ wh ∧ wh ≤ 1) (R : RDm s1 (s7 0 5) (s7 4) (s7 5) (s7 6)) (hP : (P : Int) < s7 0 5) : ∃ r, d_X2_thrustOf s1 P wh = some r ∧ d_X12_thrust s7 P wh = some r := by
  have R1 := R.1
  have R2 := R.2.1
  have R3 := R.2.2.1
  have F := R.2.2.2 P (by omega)
  have W := wsum_rng (w := s1 3) (P + 1) (fun a ha => by have := R.2.2.2 a (by omega); omega)
  have q3 := mul_rng (x := wsum (s1 3) (P + 1)) (y := s1 1 P) (a := 7992) (b := 99) (by omega) (by omega)
  unfold d_X2_thrustOf d_X12_thrust
  rw [e_X2_isPanel (by omega) (by omega), e_X12_isPanel (by omega) (by omega), e_X12_within (by omega)]
  simp only [Int.toNat_natCast, e_wd (s1 := s1) (P := P) (by omega) (by omega), e_ab R hP, F.1, F.2.1, F.2.2.1]
  simp (disch := omega) only [↓if_pos, ↓if_neg, ↓Option.bind_some, ite_self]
  rw [e_least (by omega) (by omega) (by omega) hw, e_part (by omega) (by omega) (by omega) hw]
  exact ⟨_, rfl, rfl⟩
theorem m_thrust {s0 s1 s7 : zZ} {p wh : Int} (hp : zr p) (hw : zr wh) (R : RDm s1 (s7 0 5) (s7 4) (s7 5) (s7 6)) : ∃ r, d_X11_thrust s0 s1 p wh = some r ∧ d_X12_thrust s7 p wh = some r := by
  have R1 := R.1
  have R2 := R.2.1
  have R3 := R.2.2.1
  by_cases h1 : 0 ≤ p ∧ p < s7 0 5
  · obtain ⟨P, rfl⟩ : ∃ P : Nat, p = P := ⟨p.toNat, by omega⟩
    by_cases h2 : 0 ≤ wh ∧ wh ≤ 1
    · obtain ⟨r, r1, r2⟩ := e_thr hw h2 R h1.2
      refine ⟨r, ?_, r2⟩
      unfold d_X11_thrust
      rw [e_X2_isPanel hp (by omega), e_isHalf hw, r1]
      simp (disch := omega) only [↓if_pos, ↓if_neg, ↓Option.bind_some, ite_self]
    · unfold d_X11_thrust d_X12_thrust
      rw [e_X2_isPanel hp (by omega), e_X12_isPanel hp (by omega), e_isHalf hw, e_X12_within (by omega)]
      simp (disch := omega) only [↓if_pos, ↓if_neg, ↓Option.bind_some, ite_self]
      exact ⟨_, rfl, rfl⟩
  · unfold d_X11_thrust d_X12_thrust
    rw [e_X2_isPanel hp (by omega), e_X12_isPanel hp (by omega)]
    simp (disch := omega) only [↓if_pos, ↓if_neg, ↓Option.bind_some, ite_self]
    exact ⟨_, rfl, rfl⟩
theorem m_pull {s0 s1 s7 : zZ} {p wh : Int} (hp : zr p) (hw : zr wh) (R : RDm s1 (s7 0 5) (s7 4) (s7 5) (s7 6)) : ∃ r, d_X11_pull s0 s1 p wh = some r ∧ d_X12_pull s7 p wh = some r := by
  have R1 := R.1
  have R2 := R.2.1
  have R3 := R.2.2.1
  by_cases h1 : 0 ≤ p ∧ p < s7 0 5
  · obtain ⟨P, rfl⟩ : ∃ P : Nat, p = P := ⟨p.toNat, by omega⟩
    by_cases h2 : 0 ≤ wh ∧ wh ≤ 1
    · unfold d_X11_pull d_X12_pull d_X2_pullOf
      rw [e_X2_isPanel hp (by omega), e_X12_isPanel hp (by omega), e_isHalf hw, e_X12_within (by omega)]
      have e1 : ((P : Int) + 1) = ((P + 1 : Nat) : Int) := by omega
      by_cases h3 : (P : Int) + 1 < s7 0 5
      · have F := R.2.2.2 P (by omega)
        have G := R.2.2.2 (P + 1) (by omega)
        have W := wsum_rng (w := s1 3) (P + 1) (fun a ha => by have := R.2.2.2 a (by omega); omega)
        have V := wsum_rng (w := s1 3) (P + 1 + 1) (fun a ha => by have := R.2.2.2 a (by omega); omega)
        have q1 := mul_rng (x := wsum (s1 3) (P + 1)) (y := s1 1 P) (a := 7992) (b := 99) (by omega) (by omega)
        have q2 := mul_rng (x := wsum (s1 3) (P + 1) * s1 1 P) (y := s1 2 (P + 1)) (a := 791208) (b := 99) (by omega) (by omega)
        have q3 := mul_rng (x := wsum (s1 3) (P + 1 + 1)) (y := s1 1 (P + 1)) (a := 7992) (b := 99) (by omega) (by omega)
        have q4 := mul_rng (x := wsum (s1 3) (P + 1 + 1) * s1 1 (P + 1)) (y := s1 2 P) (a := 791208) (b := 99) (by omega) (by omega)
        have q5 := mul_rng (x := s1 2 P - 1) (y := s1 2 (P + 1)) (a := 98) (b := 99) (by omega) (by omega)
        rw [Int.sub_mul] at q5
        rw [e1, e_X2_isPanel (by omega) (by omega)]
        simp only [Int.toNat_natCast, e_wd (s1 := s1) (P := P) (by omega) (by omega), e_ab R h1.2, e_wd (s1 := s1) (P := P + 1) (by omega) (by omega), e_ab R (P := P + 1) (by omega), F.1, F.2.1, F.2.2.1, G.1, G.2.1, G.2.2.1]
        simp (disch := omega) only [↓if_pos, ↓if_neg, ↓Option.bind_some, ite_self]
        rw [e_least (by omega) (by omega) (by omega) hw, e_part (by omega) (by omega) (by omega) hw]
        exact ⟨_, rfl, rfl⟩
      · obtain ⟨r, r1, r2⟩ := e_thr hw h2 R h1.2
        rw [e_X2_isPanel (by omega) (by omega), r1, r2]
        simp (disch := omega) only [↓if_pos, ↓if_neg, ↓Option.bind_some, ite_self]
        exact ⟨_, rfl, rfl⟩
    · unfold d_X11_pull d_X12_pull
      rw [e_X2_isPanel hp (by omega), e_X12_isPanel hp (by omega), e_isHalf hw, e_X12_within (by omega)]
      simp (disch := omega) only [↓if_pos, ↓if_neg, ↓Option.bind_some, ite_self]
      exact ⟨_, rfl, rfl⟩
  · unfold d_X11_pull d_X12_pull
    rw [e_X2_isPanel hp (by omega), e_X12_isPanel hp (by omega)]
    simp (disch := omega) only [↓if_pos, ↓if_neg, ↓Option.bind_some, ite_self]
    exact ⟨_, rfl, rfl⟩
