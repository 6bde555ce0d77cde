/-! a move in its least whole numbers -/
def fz (v : Nat → Int) : Nat → Int
  | 0 => 0
  | n + 1 => if fz v n ≠ 0 then fz v n else v n
def gS (v : Nat → Int) (n : Nat) : Int := if fz v n < 0 then - ((gl v n : Nat) : Int) else ((gl v n : Nat) : Int)
theorem fz_nz {v : Nat → Int} : ∀ n : Nat, (∃ j, j < n ∧ v j ≠ 0) → fz v n ≠ 0 := by
  intro n
  induction n with
  | zero => rintro ⟨j, h, _⟩; omega
  | succ n ih =>
    rintro ⟨j, h1, h2⟩
    show (if fz v n ≠ 0 then fz v n else v n) ≠ 0
    by_cases q : fz v n ≠ 0
    · rw [if_pos q]; exact q
    · rw [if_neg q]
      by_cases e : j = n
      · rw [← e]; exact h2
      · exact absurd (ih ⟨j, by omega, h2⟩) q
theorem fz_first {v : Nat → Int} {i : Nat} (h0 : ∀ j, j < i → v j = 0) (h1 : v i ≠ 0) : ∀ n : Nat, (n ≤ i → fz v n = 0) ∧ (i < n → fz v n = v i) := by
  intro n
  induction n with
  | zero => exact ⟨fun _ => rfl, fun h => by omega⟩
  | succ n ih =>
    have e : fz v (n + 1) = if fz v n ≠ 0 then fz v n else v n := rfl
    refine ⟨fun h => ?_, fun h => ?_⟩
    · rw [e, if_neg (fun q => q (ih.1 (by omega)))]
      exact h0 n (by omega)
    · by_cases q : i = n
      · rw [e, if_neg (fun w => w (ih.1 (by omega))), q]
      · have := ih.2 (by omega)
        rw [e, if_pos (by rw [this]; exact h1)]
        exact this
theorem fz_prop {v v' : Nat → Int} {a b : Int} (ha : a ≠ 0) (hb : b ≠ 0) : ∀ n : Nat, (∀ j, j < n → a * v j = b * v' j) → a * fz v n = b * fz v' n := by
  intro n
  induction n with
  | zero =>
    intro _
    show a * 0 = b * 0
    omega
  | succ n ih =>
    intro h
    have i := ih (fun j hj => h j (by omega))
    show a * (if fz v n ≠ 0 then fz v n else v n) = b * (if fz v' n ≠ 0 then fz v' n else v' n)
    by_cases q : fz v n = 0
    · have q' : fz v' n = 0 := by
        rw [q, Int.mul_zero] at i
        exact (Int.mul_eq_zero.mp i.symm).resolve_left hb
      rw [if_neg (fun w => w q), if_neg (fun w => w q')]
      exact h n (by omega)
    · have q' : fz v' n ≠ 0 := fun w => by
        rw [w, Int.mul_zero] at i
        exact q ((Int.mul_eq_zero.mp i).resolve_left ha)
      rw [if_pos q, if_pos q']
      exact i
theorem gl_nz {v : Nat → Int} {n : Nat} (h : ∃ j, j < n ∧ v j ≠ 0) : gl v n ≠ 0 := fun q => by
  obtain ⟨j, h1, h2⟩ := h
  exact h2 (gl_zero n q j h1)
theorem gS_dvd {v : Nat → Int} {n j : Nat} (hj : j < n) : gS v n ∣ v j := by
  have h := gl_dvd v n j hj
  unfold gS
  split
  · exact Int.neg_dvd.mpr h
  · exact h
theorem gS_nz {v : Nat → Int} {n : Nat} (h : ∃ j, j < n ∧ v j ≠ 0) : gS v n ≠ 0 := by
  have := gl_nz h
  unfold gS
  split <;> omega
theorem gS_prop {v v' : Nat → Int} {a b : Int} (ha : a ≠ 0) (hb : b ≠ 0) {n : Nat} (h : ∀ j, j < n → a * v j = b * v' j) (hv : ∃ j, j < n ∧ v j ≠ 0) : a * gS v n = b * gS v' n := by
  have d1 : b * ((gl v' n : Nat) : Int) ∣ a * ((gl v n : Nat) : Int) := gl_all n (fun j hj => by
    rw [h j hj]
    exact Int.mul_dvd_mul_left _ (gl_dvd v' n j hj))
  have d2 : a * ((gl v n : Nat) : Int) ∣ b * ((gl v' n : Nat) : Int) := gl_all n (fun j hj => by
    rw [← h j hj]
    exact Int.mul_dvd_mul_left _ (gl_dvd v n j hj))
  have ab : (a * ((gl v n : Nat) : Int)).natAbs = (b * ((gl v' n : Nat) : Int)).natAbs := Nat.dvd_antisymm (Int.natAbs_dvd_natAbs.mpr d2) (Int.natAbs_dvd_natAbs.mpr d1)
  have f := fz_prop ha hb n h
  have f0 := fz_nz n hv
  have f0' : fz v' n ≠ 0 := fun q => by
    rw [q, Int.mul_zero] at f
    exact f0 ((Int.mul_eq_zero.mp f).resolve_left ha)
  have g0 := gl_nz hv
  have g0' : gl v' n ≠ 0 := fun q => by
    rw [q] at ab
    have : a * ((gl v n : Nat) : Int) = 0 := by
      have z : (b * ((0 : Nat) : Int)).natAbs = 0 := by rw [show ((0 : Nat) : Int) = 0 from rfl, Int.mul_zero]; rfl
      rw [z] at ab
      exact Int.natAbs_eq_zero.mp ab
    rcases Int.mul_eq_zero.mp this with w | w
    · exact ha w
    · omega
  have G : (0 : Int) < ((gl v n : Nat) : Int) := by omega
  have G' : (0 : Int) < ((gl v' n : Nat) : Int) := by omega
  unfold gS
  generalize ((gl v n : Nat) : Int) = g at *
  generalize ((gl v' n : Nat) : Int) = g' at *
  generalize fz v n = x at *
  generalize fz v' n = y at *
  have sgn : ∀ a g : Int, 0 < g → (0 < a → 0 < a * g) ∧ (a < 0 → a * g < 0) := fun a g hg => ⟨fun h => Int.mul_pos h hg, fun h => Int.mul_neg_of_neg_of_pos h hg⟩
  rcases Int.lt_or_lt_of_ne ha with a1 | a1 <;> rcases Int.lt_or_lt_of_ne hb with b1 | b1 <;> rcases Int.lt_or_lt_of_ne f0 with x1 | x1 <;> rcases Int.lt_or_lt_of_ne f0' with y1 | y1
  all_goals
    have s1 := sgn a g G
    have s2 := sgn b g' G'
    first
    | (exfalso
       have p1 : a * x < 0 := by first | exact Int.mul_neg_of_neg_of_pos a1 x1 | exact Int.mul_neg_of_pos_of_neg a1 x1
       have p2 : 0 < b * y := by first | exact Int.mul_pos b1 y1 | exact Int.mul_pos_of_neg_of_neg b1 y1
       omega)
    | (exfalso
       have p1 : 0 < a * x := by first | exact Int.mul_pos a1 x1 | exact Int.mul_pos_of_neg_of_neg a1 x1
       have p2 : b * y < 0 := by first | exact Int.mul_neg_of_neg_of_pos b1 y1 | exact Int.mul_neg_of_pos_of_neg b1 y1
       omega)
    | skip
  all_goals
    first
    | rw [if_pos x1, if_pos y1, Int.mul_neg, Int.mul_neg]
    | rw [if_pos x1, if_neg (by omega), Int.mul_neg]
    | rw [if_neg (by omega), if_pos y1, Int.mul_neg]
    | rw [if_neg (by omega), if_neg (by omega)]
  all_goals
    have s1 := sgn a g G
    have s2 := sgn b g' G'
    omega
theorem nrm_eq {v v' : Nat → Int} {a b : Int} (ha : a ≠ 0) (hb : b ≠ 0) {n : Nat} (h : ∀ j, j < n → a * v j = b * v' j) (hv : ∃ j, j < n ∧ v j ≠ 0) {j : Nat} (hj : j < n) : (v j).tdiv (gS v n) = (v' j).tdiv (gS v' n) := by
  have hv' : ∃ j, j < n ∧ v' j ≠ 0 := by
    obtain ⟨i, i1, i2⟩ := hv
    refine ⟨i, i1, fun q => i2 ?_⟩
    have := h i i1
    rw [q, Int.mul_zero] at this
    exact (Int.mul_eq_zero.mp this).resolve_left ha
  have G := gS_prop ha hb h hv
  have z := gS_nz hv
  have z' := gS_nz hv'
  obtain ⟨q, e⟩ := gS_dvd (v := v) hj
  obtain ⟨q', e'⟩ := gS_dvd (v := v') hj
  have hh := h j hj
  rw [e, e', Int.mul_tdiv_cancel_left _ z, Int.mul_tdiv_cancel_left _ z']
  rw [e, e', ← Int.mul_assoc, ← Int.mul_assoc, ← G] at hh
  exact Int.eq_of_mul_eq_mul_left (mul_ne ha z) hh
