/-! the net: move -/
theorem move_eq {s3 s8 s7 : zZ} {ks : List Int} (R : ND s3 s8 ks s7) {B N : Nat} (hB : s7 0 25 = B) (hN : N ≤ 8) (hk : (XN s3 s8 B N).1 + 1 = N) {v w : Nat → Int} (hv : Ann s3 s8 B N v) (hw : Ann s3 s8 B N w) (nv_ : ∃ j, j < N ∧ v j ≠ 0) (nw : ∃ j, j < N ∧ w j ≠ 0) : ∀ j, j < N → (v j).tdiv (gS v N) = (w j).tdiv (gS w N) := by
  obtain ⟨_, x, x1, x2⟩ := ker R hB hN hk
  have v1 := x2 v hv
  have w1 := x2 w hw
  have vx : v x ≠ 0 := fun h => by
    obtain ⟨j, j1, j2⟩ := nv_
    exact j2 (v1.1 h j j1)
  have wx : w x ≠ 0 := fun h => by
    obtain ⟨j, j1, j2⟩ := nw
    exact j2 (w1.1 h j j1)
  intro j hj
  exact nrm_eq (a := w x) (b := v x) wx vx (fun s hs => v1.2 w hw s hs) nv_ hj
theorem e_isJ4m {s3 s7 : zZ} {j : Int} (hj : zr j) (h : s3 0 4 = s7 0 20 ∧ 0 ≤ s7 0 20 ∧ s7 0 20 ≤ 8) : d_X4_isJoint s3 j = some (if 0 ≤ j ∧ j < s7 0 20 then 1 else 0) := by
  unfold d_X4_isJoint
  rw [h.1, if_pos hj]
  by_cases q : j < 0
  · rw [if_pos q, if_neg (by omega)]
  · rw [if_neg q, if_pos (by omega)]
    by_cases q2 : s7 0 20 ≤ j
    · rw [if_pos q2, if_neg (by omega)]
    · rw [if_neg q2, if_pos (by omega)]
theorem e_isJ7m {s7 : zZ} {j : Int} (hj : zr j) (h : 0 ≤ s7 0 20 ∧ s7 0 20 ≤ 8) : d_X12_isJoint s7 j = some (if 0 ≤ j ∧ j < s7 0 20 then 1 else 0) := by
  unfold d_X12_isJoint
  rw [if_pos hj]
  by_cases q : j < 0
  · rw [if_pos q, if_neg (by omega)]
  · rw [if_neg q, if_pos (by omega)]
    by_cases q2 : s7 0 20 ≤ j
    · rw [if_pos q2, if_neg (by omega)]
    · rw [if_neg q2, if_pos (by omega)]
theorem m_move {s0 s3 s8 s7 : zZ} {ks : List Int} {jt way : Int} (hj : zr jt) (hw : zr way) (R : ND s3 s8 ks s7) (C : NC s3 s8 s7) : ∃ r s3' s8' s7', d_X11_move s0 s3 s8 ks jt way = some (r, s3', s8') ∧ d_X12_move s7 jt way = some (r, s7') ∧ ND s3' s8' ks s7' ∧ NC s3' s8' s7' ∧ Fr [22, 23, 24, 25, 26] [33] s7 s7' := by
  have r1 := R.1
  by_cases q : (0 ≤ jt ∧ jt < s7 0 20) ∧ (0 ≤ way ∧ way ≤ 1)
  · obtain ⟨qj, qw⟩ := q
    obtain ⟨j, rfl⟩ : ∃ x : Nat, jt = x := ⟨jt.toNat, by omega⟩
    obtain ⟨w, rfl⟩ : ∃ x : Nat, way = x := ⟨way.toNat, by omega⟩
    obtain ⟨t3, t8, B, F, a1, K, C', _, _⟩ := e_rk R C
    have K' := K
    obtain ⟨R', hB, hF, h11, h5, H⟩ := K'
    have r1' := R'.1
    have r2 := R'.2.1
    have r3 := R'.2.2.1
    have r5 := R'.2.2.2.2.1 j (by omega)
    have cl0 : d_X11_move s0 s3 s8 ks j w = (d_X4_isFree t3 j).bind fun y8 => if (zr y8) then (if y8 = 0 then some ((-9223372036854775808), t3, t8) else ((d_X4_moves t3).bind fun y11 => if (zr y11) then (if y11 = 1 then ((d_X4_moveOf t3 t8 ks j w).bind fun y14 => some (y14.1, y14.2, t8)) else some ((-9223372036854775808), t3, t8)) else none)) else none := by
      unfold d_X11_move
      rw [e_isJ4m hj r1, Option.bind_some, if_pos qj, if_pos (by decide), if_neg (by decide), if_pos hw, if_neg (by omega), if_pos hw, if_pos (by omega), a1, Option.bind_some]
    have mo0 : d_X12_move s7 j w = if (zr (s7 16 j)) then (if (s7 16 j) = (-9) then some ((-9223372036854775808), s7) else ((d_X12_net s7 1).bind fun y8 => if (zr y8.1) then (if y8.1 = 1 then ((d_X12_findMove y8.2).bind fun y11 => if (0 ≤ (j : Int) ∧ (j : Int) < 8) then (if (0 ≤ ((2 * (y11 16 j)) + (w : Int)) ∧ ((2 * (y11 16 j)) + (w : Int)) < 8) then some (y11 25 ((2 * (y11 16 j)) + (w : Int)).toNat, y11) else none) else none) else some ((-9223372036854775808), y8.2)) else none)) else none := by
      unfold d_X12_move
      rw [e_isJ7m hj (by omega), Option.bind_some, if_pos qj, if_pos (by decide), if_neg (by decide), if_pos hw, e_X12_within (by omega), Option.bind_some, if_pos qw, if_pos (by decide), if_neg (by decide), if_pos (by omega), Int.toNat_natCast]
    have fe : d_X4_isFree t3 j = some (if t3 4 j = -1 then 0 else 1) := by
      unfold d_X4_isFree
      rw [e_isJ4m hj r1', Option.bind_some, if_pos qj, if_pos (by decide), if_neg (by decide), if_pos (by omega), Int.toNat_natCast, if_pos (by omega)]
      by_cases e : t3 4 j = -1
      · rw [if_pos e, if_pos e]
      · rw [if_neg e, if_neg e]
    rw [cl0, mo0, fe, Option.bind_some]
    by_cases fr : t3 4 j = -1
    · rw [if_pos fr, if_pos (by decide), if_pos rfl, if_pos (by omega), if_pos (by omega)]
      exact ⟨_, _, _, _, rfl, rfl, R', C', Fr_refl _ _ _⟩
    · obtain ⟨f, hf⟩ : ∃ f : Nat, t3 4 j = f := ⟨(t3 4 j).toNat, by omega⟩
      have g16 : s7 16 j = f := by omega
      have kn := (XN_rng R' hB (n := 2 * F) (by omega)).1
      obtain ⟨s1, s2, b1, b2, b3⟩ := e_run R' hB hF (set := 0) (by decide)
      have h : RN t3 t8 B F 0 s7 s2 := b3
      have f2 := RN_fr h
      have R2 := ND_fr R' f2
      rw [show ((0 : Nat) : Int) = 0 from rfl] at b1
      have net : d_X12_net s7 1 = some (2 * s7 0 21 - ((XN t3 t8 B (2 * F)).1 : Int), s2) := by
        unfold d_X12_net
        rw [if_pos (by decide), e_X12_within (by decide), Option.bind_some, if_pos (by decide), if_pos (by decide), b1, Option.bind_some, b2, Option.bind_some, if_pos (by decide), if_pos (by decide), if_pos (by decide), if_neg (by decide), h.1, f2.2 21 (by decide)]
      unfold d_X4_moves
      rw [if_neg fr, if_pos (by decide), if_neg (by decide), Option.bind_some, r2.1, H.2.2.2.2.2.1, net, if_pos (by omega), Option.bind_some]
      dsimp only
      by_cases one : 2 * s7 0 21 - ((XN t3 t8 B (2 * F)).1 : Int) = 1
      · obtain ⟨s3', c, m1, m2, m3, m4, m5, m6, m7⟩ := e_moveC K (by omega) (by omega)
        obtain ⟨s7', v, n1, n2, n3, n4, n5⟩ := e_moveM R2 (by rw [f2.2 25 (by decide)]; exact hB) (by rw [f2.2 21 (by decide)]; exact hF) (show 0 < F by omega) (by omega)
        have cz : ∃ j, j < 2 * F ∧ vC t3 t8 B (2 * F) (-1) c j ≠ 0 := ⟨c, m2.1, by unfold vC; rw [if_pos rfl]; exact (XG_rng R' hB (N := 2 * F) (by omega) (by omega) (sg := -1) (Or.inr rfl)).1⟩
        have eq := move_eq R' hB (N := 2 * F) (by omega) (by omega) (v := vC t3 t8 B (2 * F) (-1) c) (w := v) m2.2.2.2.2 n2 cz n3 (2 * f + w) (by omega)
        have ro : d_X4_rowOf s3' j w = some (2 * (f : Int) + w) := by
          have R3 : ND s3' t8 ks s7 := ND_hi m4 ⟨m5, m6, m7⟩ R'
          rw [e_rowOf R3 (fun _ _ => rfl) (by omega), m4 4 (by decide), if_neg fr, hf]
        have f3 : Fr [22, 23, 24, 25, 26] [33] s7 s7' := Fr_trans f2 n5
        have mv : d_X4_moveOf t3 t8 ks j w = some (s3' 43 (2 * f + w), s3') := by
          unfold d_X4_moveOf
          rw [m1, Option.bind_some, ro, Option.bind_some, if_pos (by omega), if_neg (by omega), if_pos (by omega), if_neg (by omega), if_pos (by omega), show (2 * (f : Int) + w).toNat = 2 * f + w by omega]
        have g16' : s7' 16 j = f := by rw [f3.1 16 (by decide) (by decide)]; exact g16
        rw [if_pos one, mv, Option.bind_some, if_pos (by omega), if_neg (by omega), if_pos (by omega), if_pos one, n1, Option.bind_some, g16', if_pos (by omega), if_pos (by omega), show (2 * (f : Int) + w).toNat = 2 * f + w by omega, m3 (2 * f + w) (by omega), n4 (2 * f + w) (by omega), eq]
        exact ⟨_, _, _, _, rfl, rfl, ND_fr (ND_hi m4 ⟨m5, m6, m7⟩ R') f3, NC_fr (NC_hi m4 C') f3, f3⟩
      · rw [if_neg one, if_pos (by omega), if_neg (by omega), if_pos (by omega), if_neg one]
        exact ⟨_, _, _, _, rfl, rfl, R2, NC_fr C' f2, f2⟩
  · have mo : d_X12_move s7 jt way = some (-9223372036854775808, s7) := by
      unfold d_X12_move
      rw [e_isJ7m hj (by omega), Option.bind_some]
      by_cases qj : 0 ≤ jt ∧ jt < s7 0 20
      · rw [if_pos qj, if_pos (by decide), if_neg (by decide), if_pos hw, e_X12_within (by omega), Option.bind_some, if_neg (fun h => q ⟨qj, h⟩), if_pos (by decide), if_pos rfl]
      · rw [if_neg qj, if_pos (by decide), if_pos rfl]
    have cl : d_X11_move s0 s3 s8 ks jt way = some (-9223372036854775808, s3, s8) := by
      unfold d_X11_move
      rw [e_isJ4m hj r1, Option.bind_some]
      by_cases qj : 0 ≤ jt ∧ jt < s7 0 20
      · rw [if_pos qj, if_pos (by decide), if_neg (by decide), if_pos hw]
        by_cases w0 : way < 0
        · rw [if_pos w0]
        · rw [if_neg w0, if_pos hw, if_neg (fun h => q ⟨qj, by omega, h⟩)]
      · rw [if_neg qj, if_pos (by decide), if_pos rfl]
    exact ⟨_, _, _, _, cl, mo, R, C, Fr_refl _ _ _⟩
