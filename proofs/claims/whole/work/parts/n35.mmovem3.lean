/-! the reference finds the move -/
theorem first_nz {v : Nat → Int} : ∀ n : Nat, (∃ j, j < n ∧ v j ≠ 0) → ∃ i, i < n ∧ v i ≠ 0 ∧ ∀ x, x < i → v x = 0 := by
  intro n
  induction n with
  | zero => rintro ⟨j, h, _⟩; omega
  | succ n ih =>
    rintro ⟨j, h1, h2⟩
    by_cases q : ∃ j, j < n ∧ v j ≠ 0
    · obtain ⟨i, i1, i2⟩ := ih q
      exact ⟨i, by omega, i2⟩
    · have z : ∀ x, x < n → v x = 0 := fun x hx => Decidable.byContradiction (fun h => q ⟨x, hx, h⟩)
      by_cases e : j = n
      · exact ⟨n, by omega, by rw [← e]; exact h2, z⟩
      · exact absurd (z j (by omega)) h2
theorem dvd60 {p : Int} (h : wi p 5) (h0 : p ≠ 0) : p ∣ 60 := by
  unfold wi at h
  have c : p = -5 ∨ p = -4 ∨ p = -3 ∨ p = -2 ∨ p = -1 ∨ p = 1 ∨ p = 2 ∨ p = 3 ∨ p = 4 ∨ p = 5 := by omega
  rcases c with rfl | rfl | rfl | rfl | rfl | rfl | rfl | rfl | rfl | rfl <;> decide
theorem HV_of {s3 s8 s7 s : zZ} {ks : List Int} (R : ND s3 s8 ks s7) {B N c : Nat} (hB : s7 0 25 = B) (hN : N ≤ 8) (op : OP s3 s8 B N 1 c) (h21 : 2 * s 0 21 = N) (h23 : ∀ j, j < N → s 23 j = lv (XG s3 s8 B N 1).2.2.2 j) (M : RMq s (cn s8 B) N (XG s3 s8 B N 1).2.2.1 (fun _ => 1600000000)) : HV s N c (XG s3 s8 B N 1).2.1 (fun j => (XG s3 s8 B N 1).2.2.1 ((XG s3 s8 B N 1).2.2.2 j).toNat c) := by
  have r3 := R.2.2.1
  have cB := cn_le s8 B
  obtain ⟨o1, o2, o3, o4, o5⟩ := op
  have C : CI (cn s8 B) N N (fun j r => Tg s3 s8 B 1 r j) 200 (XG s3 s8 B N 1) := Tg_CI R hB (sg := 1) (Or.inl rfl) N N (Nat.le_refl _)
  have g := XG_rng R hB hN (by omega) (sg := 1) (Or.inl rfl)
  have e : XG s3 s8 B N 1 = clr (cn s8 B) (0, 1, Tg s3 s8 B 1, fun _ => -1) N := rfl
  rw [← e] at o2 o3 o4
  generalize XG s3 s8 B N 1 = st at *
  obtain ⟨cc, u, z, pc, Bi, P⟩ := C
  have bd := fun j hj => bI_bd Bi (j := j) hj (Tg_nv R hB (sg := 1) (Or.inl rfl) j)
  have p7 : (200 : Int) ^ st.1 ≤ 200 ^ 7 := pow_mono (by decide) (by omega)
  have p6 : (200 : Int) ^ (st.1 - 1) ≤ 200 ^ 6 := pow_mono (by decide) (by omega)
  have n7 : (200 : Int) ^ 7 = 12800000000000000 := by decide
  have n6 : (200 : Int) ^ 6 = 64000000000000 := by decide
  have n13 : (12800000000000000 : Int) ≤ 113137086 * 113137086 := by decide
  refine ⟨⟨o1, hN⟩, h21, ?_, g.1, ?_, fun j hj hn => ?_⟩
  · rw [h23 c o1]
    unfold lv
    rw [if_pos o2]
  · exact sq_bd (M := 113137086) (by decide) (by have := (bd c o1).1; omega)
  · obtain ⟨i, i1, i2, i3⟩ := o4 j hj hn
    have s23 : s 23 j = i := by
      rw [h23 j hj]
      unfold lv
      rw [if_neg (by omega), i1]
    have pe : pi_ s j = s 22 (20 * i + j) := by unfold pi_; rw [s23, Int.toNat_natCast]
    have re : ro_ s c j = s 22 (20 * i + c) := by unfold ro_; rw [s23, Int.toNat_natCast]
    have ic : i < cn s8 B := by omega
    have Mi := M i ic
    obtain ⟨⟨⟨x, y, hx, hy, e1⟩, e2⟩, qu⟩ := Mi
    have ej := e1 j hj
    have ec := e1 c o1
    dsimp only at ej ec
    rw [i3 i ic, if_pos rfl] at ej
    have p0 : s 22 (20 * i + j) ≠ 0 := fun h => by
      rw [h, Int.mul_zero] at ej
      exact mul_ne hy g.1 ej.symm
    have T2 : wi (st.2.2.1 i c) 113137086 := sq_bd (M := 113137086) (by decide) (by have := (bd c o1).2.2 i i2; omega)
    rw [pe, re]
    dsimp only
    rw [i1, Int.toNat_natCast]
    have prim : (∀ d t : Int, (∀ j, j < N → d ∣ t * s 22 (20 * i + j)) → d ∣ t) → ∃ t : Int, t ≠ 0 ∧ t * s 22 (20 * i + j) = st.2.1 ∧ t * s 22 (20 * i + c) = st.2.2.1 i c := by
      intro h
      obtain ⟨t, ht⟩ := h y x (fun jj hjj => ⟨_, e1 jj hjj⟩)
      refine ⟨t, fun w => by rw [w, Int.mul_zero] at ht; exact hx ht, ?_, ?_⟩
      · rw [ht, Int.mul_assoc] at ej
        exact Int.eq_of_mul_eq_mul_left hy ej
      · rw [ht, Int.mul_assoc] at ec
        exact Int.eq_of_mul_eq_mul_left hy ec
    refine ⟨by omega, by omega, p0, ?_, ?_, e2 j hj, ?_⟩
    · rcases qu with q | q
      · exact Int.dvd_trans (dvd60 (q j hj) p0) (Int.dvd_mul_right _ _)
      · obtain ⟨t, t0, t1, t2⟩ := prim q
        exact ⟨60 * t, by rw [← t1]; grind⟩
    · rcases qu with q | q
      · have q' : wi (s 22 (20 * i + c)) 5 := q c o1
        unfold wi at q' ⊢
        omega
      · obtain ⟨t, t0, t1, t2⟩ := prim q
        exact wi_dvd t0 (by rw [t2]; exact T2)
    · refine Int.eq_of_mul_eq_mul_left hx ?_
      rw [Int.mul_left_comm, ec, ← Int.mul_assoc x, ej]
      grind
theorem e_moveM {s3 s8 s : zZ} {ks : List Int} (R : ND s3 s8 ks s) {B F : Nat} (hB : s 0 25 = B) (hF : s 0 21 = F) (hF0 : 0 < F) (hk : (XN s3 s8 B (2 * F)).1 + 1 = 2 * F) : ∃ s' w, d_X12_findMove s = some s' ∧ Ann s3 s8 B (2 * F) w ∧ (∃ j, j < 2 * F ∧ w j ≠ 0) ∧ (∀ j, j < 2 * F → s' 25 j = (w j).tdiv (gS w (2 * F))) ∧ Fr [22, 23, 24, 25, 26] [33] s s' := by
  have r2 := R.2.1
  have r3 := R.2.2.1
  have cB := cn_le s8 B
  have N8 : 2 * F ≤ 8 := by omega
  obtain ⟨c, op⟩ := opn R hB N8 hk (sg := 1) (Or.inl rfl)
  obtain ⟨z1, s1, a1, a2, a3⟩ := e_m4 (s3 := s3) (s8 := s8) (ks := ks) (B := B) (F := F) B 0 zF s (by omega) (by unfold zF; omega) R hB hF (fun d j hd => by omega)
  have a1' : d_X12_findMove_4 zF 0 0 s = some (((cn s8 B : Nat) : Int), z1, s1) := a1
  have s10 : s1 0 = s 0 := a3 0 (by decide)
  obtain ⟨s2, b1, b2, b3, b4, b5⟩ := e_reduceq (n := cn s8 B) (all := 2 * F) (cols := 2 * F) (by omega) (by omega) (Nat.le_refl _) (T0 := Tg s3 s8 B 1) (K := 200) (by decide) (fun j _ => Tg_nv R hB (Or.inl rfl) j) (Bd := fun _ => 1600000000) (fun q hq r j hr hj => by
    have C := Tg_CI R hB (sg := 1) (Or.inl rfl) (2 * F) q hq
    obtain ⟨d, hd⟩ := Nat.exists_eq_add_of_le hq
    have km := clr_mono (cn s8 B) (T0 := Tg s3 s8 B 1) q d
    have o3 := op.2.2.1
    rw [← hd] at km
    have b := (CI_bd (by decide) C (kx := 7) (by omega) (by omega) (A := 200) (fun j _ => Tg_nv R hB (Or.inl rfl) j)).2 r j hr hj
    exact sq_bd (M := 1600000000) (by decide) (Int.le_trans b (by decide))) (fun _ _ _ _ => by decide) (fun _ _ => by decide) (s := s1) (fun r j hr hj => by
    obtain ⟨b, b1, b2, b3⟩ := cn_surj s8 B r hr
    rw [← b3, Tg_at b1 b2, a2 b j b1 b2 hj]
    omega) (fun r j hr hj => Tg_5 R hB (Or.inl rfl) hr j)
  have fr2 : Fr [22, 23, 24, 25, 26] [33] s s2 := Fr_trans ⟨fun q _ hq => a3 q (fun e => hq (by rw [e]; decide)), fun j _ => by rw [s10]⟩ (Fr_mono (by decide) (by decide) b5)
  have h21 : 2 * s2 0 21 = ((2 * F : Nat) : Int) := by rw [fr2.2 21 (by decide), hF]; omega
  have H := HV_of R hB N8 op h21 b4 b3
  have c1 := op.1
  have p1 := e_159 H (rows := ((cn s8 B : Nat) : Int)) c 0 zF (by omega) (by unfold zF; omega)
  obtain ⟨z3, K, p2, K1, K2, K3⟩ := e_181 H (rows := ((cn s8 B : Nat) : Int)) (2 * F) 0 zF 1 (by omega) (by unfold zF; omega) (Nat.le_refl _) (Int.one_dvd _) (fun x hx => by omega)
  have Kb := K_bd K2 H.2.2.2.1 H.2.2.2.2.1
  obtain ⟨z4, s4, d1, d2, d3⟩ := e_251 H (rows := ((cn s8 B : Nat) : Int)) Kb (2 * F) 0 zF s2 (by omega) (by unfold zF; omega) (fun _ _ => rfl) (fun x hx => by omega)
  have vr := vM_rng H Kb
  have nz : ∃ j, j < 2 * F ∧ vM s2 c K j ≠ 0 := ⟨c, c1, by unfold vM; rw [if_pos rfl]; omega⟩
  obtain ⟨i, i1, i2, i3⟩ := first_nz (2 * F) nz
  have p3 := e_357 (s := s4) (rows := ((cn s8 B : Nat) : Int)) (b := (c : Int)) (k := (K : Int)) (v5 := ((gl (vM s2 c K) (2 * F) : Nat) : Int)) (v := vM s2 c K) (i := i) (by omega) (fun x hx => ⟨d3 x (by omega), (vr x (by omega)).1⟩) i3 i2 i 0 zF (by omega) (by unfold zF; omega)
  rw [show ((0 : Nat) : Int) = 0 from rfl] at p1 p2 d1 p3
  rw [show ((1 : Nat) : Int) = 1 from rfl] at p2
  rw [show (((gl (vM s2 c K) 0 : Nat) : Int)) = 0 from rfl] at d1
  have g0 := gl_nz nz
  have gb := gl_le (v := vM s2 c K) (M := 1000000000000000000) (2 * F) (fun x hx => by have := (vr x hx).1; unfold wi at this; omega)
  have s421 : 2 * s4 0 21 = ((2 * F : Nat) : Int) := by rw [d2 0 (by decide)]; exact h21
  have si : s4 25 i = vM s2 c K i := d3 i i1
  have vi := (vr i i1).1
  unfold wi at vi
  have fzi := (fz_first i3 i2 (2 * F)).2 i1
  have fr4 : Fr [22, 23, 24, 25, 26] [33] s s4 := Fr_trans fr2 ⟨fun q _ hq => d2 q (fun e => hq (by rw [e]; decide)), fun j _ => by rw [d2 0 (by decide)]⟩
  have fin : ∃ s', d_X12_findMove s = some s' ∧ (∀ j, j < 2 * F → s' 25 j = (vM s2 c K j).tdiv (gS (vM s2 c K) (2 * F))) ∧ Fr [22, 23, 24, 25, 26] [33] s s' := by
    unfold d_X12_findMove gS
    rw [a1', Option.bind_some]
    dsimp only
    rw [s10, hF, show 2 * (F : Int) = ((2 * F : Nat) : Int) by omega, b1, Option.bind_some, p1, Option.bind_some, p2, Option.bind_some]
    dsimp only
    rw [d1, Option.bind_some]
    dsimp only
    rw [p3, Option.bind_some, if_pos (by omega), Int.toNat_natCast, if_pos (show zrl (s4 25 i) by rw [si]; omega)]
    by_cases q : 0 ≤ vM s2 c K i
    · obtain ⟨z5, s5, e1, e2, e3⟩ := e_400 N8 (rows := ((cn s8 B : Nat) : Int)) (b := (c : Int)) (k := (K : Int)) (v7 := (i : Int)) (dv := ((gl (vM s2 c K) (2 * F) : Nat) : Int)) (by omega) (by omega) (v := vM s2 c K) (fun j hj => (vr j hj).1) (2 * F) 0 zF s4 (by omega) (by unfold zF; omega) s421 (fun x hx => by omega) (fun x _ hx => d3 x hx)
      rw [show ((0 : Nat) : Int) = 0 from rfl] at e1
      rw [if_pos (show 0 ≤ s4 25 i by rw [si]; exact q), e1, Option.bind_some, if_neg (show ¬ fz (vM s2 c K) (2 * F) < 0 by rw [fzi]; omega)]
      exact ⟨s5, rfl, e3, Fr_trans fr4 ⟨fun q _ hq => e2 q (fun e => hq (by rw [e]; decide)), fun j _ => by rw [e2 0 (by decide)]⟩⟩
    · obtain ⟨z5, s5, e1, e2, e3⟩ := e_400 N8 (rows := ((cn s8 B : Nat) : Int)) (b := (c : Int)) (k := (K : Int)) (v7 := (i : Int)) (dv := - ((gl (vM s2 c K) (2 * F) : Nat) : Int)) (by omega) (by omega) (v := vM s2 c K) (fun j hj => (vr j hj).1) (2 * F) 0 zF s4 (by omega) (by unfold zF; omega) s421 (fun x hx => by omega) (fun x _ hx => d3 x hx)
      rw [show ((0 : Nat) : Int) = 0 from rfl] at e1
      rw [if_neg (show ¬ 0 ≤ s4 25 i by rw [si]; exact q), e1, Option.bind_some, if_pos (show fz (vM s2 c K) (2 * F) < 0 by rw [fzi]; omega)]
      exact ⟨s5, rfl, e3, Fr_trans fr4 ⟨fun q _ hq => e2 q (fun e => hq (by rw [e]; decide)), fun j _ => by rw [e2 0 (by decide)]⟩⟩
  obtain ⟨s', f1, f2, f3⟩ := fin
  refine ⟨s', vM s2 c K, f1, fun b hb h0 => ?_, nz, f2, f3⟩
  have D0 := H.2.2.2.1
  have an := op.2.2.2.2 b hb h0
  have pr : ∀ j, j < 2 * F → (XG s3 s8 B (2 * F) 1).2.1 * vM s2 c K j = (K : Int) * vC s3 s8 B (2 * F) 1 c j := by
    intro j hj
    unfold vM vC
    by_cases e : j = c
    · rw [if_pos e, if_pos e, Int.mul_comm]
    · rw [if_neg e, if_neg e]
      obtain ⟨_, _, q3, _, _, _, q7⟩ := H.2.2.2.2.2 j hj e
      obtain ⟨κ, hκ⟩ := K3 j hj e
      rw [hκ, Int.mul_left_comm (- ro_ s2 c j), Int.mul_tdiv_cancel_left _ q3, ← Int.mul_assoc, Int.mul_neg, q7]
      grind
  have t : (XG s3 s8 B (2 * F) 1).2.1 * tot (fun s => vM s2 c K s * mA s3 s8 b s) (2 * F) = (K : Int) * tot (fun s => vC s3 s8 B (2 * F) 1 c s * mA s3 s8 b s) (2 * F) := by
    rw [← tot_mulc, ← tot_mulc]
    exact tot_congr _ (fun j hj => by rw [← Int.mul_assoc, pr j hj, Int.mul_assoc])
  have an' : tot (fun s => vC s3 s8 B (2 * F) 1 c s * mA s3 s8 b s) (2 * F) = 0 := an
  rw [an', Int.mul_zero] at t
  exact (Int.mul_eq_zero.mp t).resolve_left D0
