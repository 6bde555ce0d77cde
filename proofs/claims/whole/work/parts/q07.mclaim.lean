/-! at the start the relation holds; the claim -/
theorem rib0 : ∃ (q2 : Int) (s2i : zZ), d_X5_begin i0 2 = some (q2, s2i) ∧ RRb s2i (i7 0 14) (i7 9) := by
  unfold d_X5_begin
  have m1 : d_J9_min_7cf53 2 5 = some 2 := rfl
  have m2 : d_J9_max_7cf53 2 2 = some 2 := rfl
  rw [m1, Option.bind_some, m2, Option.bind_some]
  obtain ⟨s2', a1, a2, a3, a4⟩ := e_makePoly (n := 1) (by decide) (u := zfl (upz i0 0 0 2) 1 5 1 1) (fun j x y => by
    rw [zfl_at, if_pos rfl, if_pos (by omega)]
    omega) (s := zfl (upz i0 0 0 2) 1 5 1) (by rw [zfl_at, if_neg (by decide), upz_hit]; rfl) (fun i x y => rfl)
  have c0 : s2' 0 0 = 2 := by rw [a2, zfl_at, if_neg (by decide), upz_hit]
  rw [a1, Option.bind_some]
  refine ⟨_, s2', rfl, 1, by decide, rfl, c0, fun j x y => ?_, fun k hk => ?_⟩
  · have e1 : s2' 1 j = 1 := by rw [a3, zfl_at, if_pos rfl, if_pos (by omega)]
    have e2 : i7 9 j = 1 := by
      rcases (show j = 1 ∨ j = 2 ∨ j = 3 ∨ j = 4 by omega) with rfl | rfl | rfl | rfl <;> rfl
    rw [e1, e2]
    omega
  · rw [a4 k hk, a3]
theorem i3_0 : i3 0 = fun i => if i = 10 then 1 else 0 := rfl
theorem i7_0 : i7 0 = fun i => if i = 14 then 2 else 0 := rfl
theorem i7_z {p i : Nat} (h0 : p ≠ 0) (h1 : p ≠ 1) (h9 : p ≠ 9) : i7 p i = 0 := by
  unfold i7
  rw [if_neg h0, if_neg h1, if_neg h9]
theorem i3_z {p i : Nat} (h : p ≠ 0 ∧ p ≠ 13 ∧ p ≠ 14 ∧ p ≠ 23 ∧ p ≠ 24 ∧ p ≠ 25 ∧ p ≠ 42) : i3 p i = 0 := by
  unfold i3
  rw [if_neg h.1, if_neg h.2.1, if_neg h.2.2.1, if_neg h.2.2.2.1, if_neg h.2.2.2.2.1, if_neg h.2.2.2.2.2.1, if_neg h.2.2.2.2.2.2]
theorem nd0 : ND i3 i0 [] i7 := by
  have z20 : i7 0 20 = 0 := rfl
  have z21 : i7 0 21 = 0 := rfl
  have z25 : i7 0 25 = 0 := rfl
  refine ⟨⟨rfl, by rw [z20]; decide, by rw [z20]; decide⟩, ⟨rfl, by rw [z21]; decide, by rw [z21]; decide⟩, ⟨rfl, rfl, rfl, by decide⟩, rfl, fun j hj => ?_, fun i j hi => ?_, fun f hf => ?_, fun b hb => ?_, fun b d hb => ?_, fun c k hc hk => ?_, ⟨rfl, rfl, fun r hr => ?_⟩, ⟨rfl, rfl, fun r hr => ?_⟩, Or.inr rfl⟩
  · rw [z20] at hj
    omega
  · rw [z20] at hi
    omega
  · rw [z21] at hf
    omega
  · rw [z25] at hb
    omega
  · rw [z25] at hb
    omega
  · have e1 : i3 (7 + c) k = 0 := i3_z (by omega)
    have e2 : i7 21 (8 * c + k) = 0 := i7_z (by decide) (by decide) (by decide)
    rw [e1, e2]
    decide
  · have e : ∀ q, i3 14 q = (q : Int) := fun q => rfl
    rw [e r]
    refine ⟨by omega, by omega, fun r' hr' h => ?_⟩
    rw [e r'] at h
    omega
  · have e : ∀ q, i3 25 q = (q : Int) := fun q => rfl
    rw [e r]
    refine ⟨by omega, by omega, fun r' hr' h => ?_⟩
    rw [e r'] at h
    omega
theorem rel0 {s2i : zZ} (h : RRb s2i (i7 0 14) (i7 9)) : Rel i0 i0 s2i i3 i0 i0 i6 i7 i0 [] := by
  refine ⟨rfl, fun k hk => ?_, ⟨rfl, by decide, by decide, fun a ha => ?_⟩, h, fun a _ => ⟨Or.inl rfl, rfl⟩, ⟨rfl, by decide, by decide, fun a ha => ?_⟩, nd0, NC_one rfl⟩
  · have e : i6 7 k = -1 := by
      show (if k < 4 then (-1 : Int) else 0) = -1
      rw [if_pos hk]
    have e9 : i7 1 k = -9 := by
      rcases (show k = 0 ∨ k = 1 ∨ k = 2 ∨ k = 3 by omega) with rfl | rfl | rfl | rfl <;> rfl
    refine ⟨by rw [e]; decide, fun _ => e9, fun q => absurd e q, fun j hj => ?_⟩
    have e2 : i7 3 (60 * k + j) = 0 := i7_z (by decide) (by decide) (by decide)
    have e3 : i6 (2 + k) j = 0 := by
      unfold i6
      rw [if_neg (by omega)]
    rw [e2, e3]
    decide
  · have z : i7 0 5 = 0 := rfl
    rw [z] at ha
    omega
  · have z : i7 0 39 = 0 := rfl
    rw [z] at ha
    omega
theorem xclaim : xClaim := by
  intro L xs hL
  obtain ⟨q2, s2i, H2, R⟩ := rib0
  obtain ⟨hp', X, b1, b2⟩ := law_loop (xs := xs) hL L 0 i0 i0 s2i i3 i0 i0 i6 i7 i0 [] (by omega) (by omega) (rel0 R)
  exact ⟨hp', q_init L xs H2 X, b1, b2⟩
