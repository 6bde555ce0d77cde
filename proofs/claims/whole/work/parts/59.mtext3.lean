/-! the dome: text -/
theorem MD_Fr {s t t' : zZ} {e : Int} (h : MD (upz s 0 10 e) t') : Fr [4, 5, 6] [5, 9, 10, 11] s t' := by
  refine ⟨fun q h0 hq => ?_, fun j hj => ?_⟩
  · simp only [List.mem_cons, List.not_mem_nil, or_false, not_or] at hq
    rw [h.1 q h0 hq.1 hq.2.1 hq.2.2, upz_ne _ _ _ _ h0]
  · simp only [List.mem_cons, List.not_mem_nil, or_false, not_or] at hj
    rw [h.2.2 j hj.2.1 hj.2.2.2, upz_at, if_pos rfl, if_neg hj.2.2.1]
theorem e_become {s1 s7 : zZ} {base m : Nat} {c : Nat → Int} (K : CK base m c) (h4 : ∀ j, j < m → s1 4 j = c j) (h3 : ∀ j, j < m → s7 3 (base + j) = c j) (R : RDm s1 (s7 0 5) (s7 4) (s7 5) (s7 6)) {sh lane i n B E : Int} (hB : B = base) (hE : E = ((base + m : Nat) : Int)) : ∃ r s1' s7', d_X2_becomeText s1 m = some (r, s1') ∧ ((d_X12_items (upz (upz s7 0 9 B) 0 10 E)).bind fun y17 => if (zr y17.1) then (if (0 : Int) ≤ y17.1 then ((d_X12_text_166 sh lane i n B y17.1 zF 0 (upz y17.2 0 5 y17.1)).bind fun y28 => some (y17.1, y28.2)) else some ((-100) - ((y17.2 0 11) - B), y17.2)) else none) = some (r, s7') ∧ RDm s1' (s7' 0 5) (s7' 4) (s7' 5) (s7' 6) ∧ Fr [4, 5, 6] [5, 9, 10, 11] s7 s7' := by
  have K1 := K.1
  have K2 := K.2.1
  subst hB hE
  unfold d_X2_becomeText
  rw [e_J9min (by omega) (by omega), if_pos (show (m : Int) ≤ 60 by omega), Option.bind_some, e_J9max (by omega) (by omega), if_pos (show (0 : Int) ≤ m by omega), Option.bind_some, mS_init s7]
  obtain ⟨rc, rm, j1, j2, j3⟩ := e_read K (s7 0 11) (s := upz s1 0 8 m) (t := upz s7 0 10 (base + m : Nat)) ⟨upz_hit _ _ _ _, fun j hj => by rw [upz_ne _ _ _ _ (by decide)]; exact h4 j hj⟩ ⟨upz_hit _ _ _ _, fun j hj => by rw [upz_ne _ _ _ _ (by decide)]; exact h3 j hj⟩
  have j1' : d_X2_readItems (upz (upz (upz s1 0 8 m) 0 9 0) 0 10 (-1)) = some rc := j1
  rw [j1', j2, Option.bind_some, Option.bind_some]
  rcases j3 with ⟨L, s2, t2, b1, b2, rfl, rfl, D, N, I⟩ | ⟨s2, t2, A2, k, it', b1, b2, rfl, rfl, b5, D, N⟩
  · dsimp only
    obtain ⟨z, s3, p1, p2, p3⟩ := e_cp1 (cn := m) b2 L 0 zF (cS s2 m (-1)) (by omega) (by unfold zF; omega) (fun j hj => by omega)
    obtain ⟨w, t3, q1, q2, q3⟩ := e_cp2 (sh := sh) (lane := lane) (i := i) (m := n) (fr := base) b2 L 0 zF (upz t2 0 5 L) (by omega) (by unfold zF; omega) (fun j hj => by omega)
    rw [show ((0 : Nat) : Int) = 0 from rfl] at p1 q1
    simp only [cS_10]
    rw [if_pos (by omega), if_pos trivial, p1, q1, if_pos (by omega), if_pos (by omega), Option.bind_some, Option.bind_some, upz_hit]
    have t05 : t3 0 5 = L := by rw [q2 0 (by decide) (by decide) (by decide), upz_hit]
    refine ⟨_, _, _, rfl, rfl, ⟨?_, ?_, ?_, ?_⟩, ?_⟩
    · rw [upz_hit]; exact t05.symm
    · show 0 ≤ t3 0 5
      omega
    · show t3 0 5 ≤ 8
      omega
    · intro a ha
      have ha' : a < L := by
        have : (a : Int) < t3 0 5 := ha
        omega
      have P := p3 a ha'
      have Q := q3 a ha'
      have I' := I a ha'
      rw [cS_ne _ _ _ (by decide), cS_ne _ _ _ (by decide), cS_ne _ _ _ (by decide)] at P
      rw [upz_ne _ _ _ _ (by decide), upz_ne _ _ _ _ (by decide), upz_ne _ _ _ _ (by decide)] at Q
      show t3 4 a = upz s3 0 3 L 1 a ∧ t3 5 a = upz s3 0 3 L 2 a ∧ t3 6 a = upz s3 0 3 L 3 a ∧ 0 ≤ upz s3 0 3 L 1 a ∧ upz s3 0 3 L 1 a ≤ 99 ∧ 1 ≤ upz s3 0 3 L 2 a ∧ upz s3 0 3 L 2 a ≤ 99 ∧ 0 ≤ upz s3 0 3 L 3 a ∧ upz s3 0 3 L 3 a ≤ 999
      rw [upz_ne _ _ _ _ (by decide), upz_ne _ _ _ _ (by decide), upz_ne _ _ _ _ (by decide)]
      omega
    · have F := MD_Fr (t := t2) N
      refine ⟨fun q h0 hq => ?_, fun j hj => ?_⟩
      · have hq' := hq
        simp only [List.mem_cons, List.not_mem_nil, or_false, not_or] at hq'
        show t3 q = s7 q
        rw [q2 q hq'.1 hq'.2.1 hq'.2.2, upz_ne _ _ _ _ h0]
        exact F.1 q h0 hq
      · have hj' := hj
        simp only [List.mem_cons, List.not_mem_nil, or_false, not_or] at hj'
        show t3 0 j = s7 0 j
        rw [q2 0 (by decide) (by decide) (by decide), upz_at, if_pos rfl, if_neg hj'.1]
        exact F.2 j hj
  · dsimp only
    simp only [cS_10]
    rw [if_pos (by omega), if_neg (by omega), if_pos (by omega), if_neg (by omega), b5]
    refine ⟨_, _, _, rfl, by rw [show -100 - (((base + k : Nat) : Int) - base) = -100 - (k : Int) by omega], ?_, MD_Fr (t := t2) N⟩
    have d0 : cS s2 A2 k 0 3 = s1 0 3 := by
      unfold cS
      rw [upz_at, if_pos rfl, if_neg (by decide), upz_at, if_pos rfl, if_neg (by decide), D 0 (by decide) (by decide) (by decide), upz_at, if_pos rfl, if_neg (by decide)]
    have t05 : t2 0 5 = s7 0 5 := by rw [N.2.2 5 (by decide) (by decide), upz_at, if_pos rfl, if_neg (by decide)]
    show RDm (cS s2 A2 k) (t2 0 5) (t2 4) (t2 5) (t2 6)
    rw [t05]
    refine ⟨d0.trans R.1, R.2.1, R.2.2.1, fun a ha => ?_⟩
    have R3 := R.2.2.1
    have := R.2.2.2 a ha
    rw [cS_ne _ _ _ (by decide), cS_ne _ _ _ (by decide), cS_ne _ _ _ (by decide), D 1 (by decide) (by decide) (by decide), D 2 (by decide) (by decide) (by decide), D 3 (by decide) (by decide) (by decide), N.2.1 4 a (by decide) (by omega), N.2.1 5 a (by decide) (by omega), N.2.1 6 a (by decide) (by omega)]
    rw [upz_ne _ _ _ _ (by decide), upz_ne _ _ _ _ (by decide), upz_ne _ _ _ _ (by decide), upz_ne _ _ _ _ (by decide), upz_ne _ _ _ _ (by decide), upz_ne _ _ _ _ (by decide)]
    exact this
theorem RDm_0 {s1 s7 : zZ} {v : Int} (R : RDm s1 (s7 0 5) (s7 4) (s7 5) (s7 6)) : RDm s1 ((upz s7 0 0 v) 0 5) ((upz s7 0 0 v) 4) ((upz s7 0 0 v) 5) ((upz s7 0 0 v) 6) := by
  rw [upz_ne s7 0 0 v (show 4 ≠ 0 by decide), upz_ne s7 0 0 v (show 5 ≠ 0 by decide), upz_ne s7 0 0 v (show 6 ≠ 0 by decide), upz_at, if_pos rfl, if_neg (by decide)]
  exact R
theorem m_text {s0 s1 s6 s7 : zZ} {k lane i n : Int} (hk : zr k) (hl : zr lane) (hi : zr i) (hn : zr n) (R6 : RSh s6 (s7 1) (s7 2) (s7 3)) (R : RDm s1 (s7 0 5) (s7 4) (s7 5) (s7 6)) : ∃ r s0' s1' s7', d_X11_text s0 s1 s6 k lane i n = some (r, s0', s1') ∧ d_X12_text s7 k lane i n = some (r, s7') ∧ s0' 0 6 = s7' 0 0 ∧ RDm s1' (s7' 0 5) (s7' 4) (s7' 5) (s7' 6) ∧ Fr [4, 5, 6] [0, 5, 9, 10, 11] s7 s7' := by
  have F0 : ∀ v, Fr [4, 5, 6] [0, 5, 9, 10, 11] s7 (upz s7 0 0 v) := fun v => Fr_upz0 (by decide) (Fr_refl _ _ _)
  have F1 : ∀ v, Fr [4, 5, 6] [0, 5, 9, 10, 11] s7 (upz (upz s7 0 0 0) 0 0 v) := fun v => Fr_upz0 (by decide) (F0 0)
  have c1 : ∀ v w : Int, (upz (upz s0 0 6 v) 0 6 w) 0 6 = (upz (upz s7 0 0 v) 0 0 w) 0 0 := fun v w => by rw [upz_hit, upz_hit]
  have c0 : ∀ v : Int, (upz s0 0 6 v) 0 6 = (upz s7 0 0 v) 0 0 := fun v => by rw [upz_hit, upz_hit]
  unfold d_X11_text d_X12_text
  rw [e_X6_isSheet hk, e_X12_isSheet hk, Option.bind_some, Option.bind_some, e_X6_isLane hl, e_X12_isLane hl, Option.bind_some, Option.bind_some]
  by_cases h : 0 ≤ k ∧ k < 4
  · by_cases h2 : 0 ≤ lane ∧ lane ≤ 2
    · have hR := R6 k.toNat (by omega)
      unfold d_X6_faultOfCells
      rw [e_X6_isSheet hk]
      simp only [e_X12_fails, d_X11_faultAnswer, upz_ne _ _ _ _ (show 1 ≠ 0 by decide), upz_ne _ _ _ _ (show 2 ≠ 0 by decide), Option.bind_some]
      by_cases hl0 : s6 7 k.toNat = -1
      · have h1 := hR.2.1 hl0
        rw [e_X6_isOtherLane h hl hR.1 (fun q => absurd hl0 q), Option.bind_some]
        simp (disch := omega) only [↓if_pos, ↓if_neg, ↓Option.bind_some]
        exact ⟨_, _, _, _, rfl, rfl, c1 _ _, RDm_0 (RDm_0 R), F1 _⟩
      · have h1 := hR.2.2.1 hl0
        rw [e_X6_isOtherLane h hl hR.1 (fun _ => by omega), Option.bind_some]
        by_cases hl1 : s6 6 k.toNat = lane
        · by_cases n0 : 0 ≤ n
          · by_cases i0 : i < 0
            · simp (disch := omega) only [↓if_pos, ↓if_neg, ↓Option.bind_some]
              exact ⟨_, _, _, _, rfl, rfl, c1 _ _, RDm_0 (RDm_0 R), F1 _⟩
            · by_cases i1 : s6 7 k.toNat < i
              · simp (disch := omega) only [↓if_pos, ↓if_neg, ↓Option.bind_some]
                exact ⟨_, _, _, _, rfl, rfl, c1 _ _, RDm_0 (RDm_0 R), F1 _⟩
              · by_cases i2 : n ≤ s6 7 k.toNat - i
                · obtain ⟨I, rfl⟩ : ∃ I : Nat, i = I := ⟨i.toNat, by omega⟩
                  obtain ⟨m, rfl⟩ : ∃ I : Nat, n = I := ⟨n.toNat, by omega⟩
                  obtain ⟨z, s1', p1, p2, p3⟩ := e_codes (s0 := upz s0 0 6 0) (s6 := s6) (k := k) (lane := lane) (fl := 0) (i := I) (m := m) h (by omega) (by omega) m 0 zF s1 (by omega) (by unfold zF; omega) (fun j hj => by omega)
                  rw [show ((0 : Nat) : Int) = 0 from rfl] at p1
                  have R' : RDm s1' ((upz s7 0 0 0) 0 5) ((upz s7 0 0 0) 4) ((upz s7 0 0 0) 5) ((upz s7 0 0 0) 6) := by
                    have := RDm_0 (v := 0) R
                    unfold RDm at this ⊢
                    rw [p2 0 (by decide), p2 1 (by decide), p2 2 (by decide), p2 3 (by decide)]
                    exact this
                  have R6c := hR.2.2.2
                  obtain ⟨r, s1b, s7b, g1, g2, g3, g4⟩ := e_become (s1 := s1') (s7 := upz s7 0 0 0) (base := 60 * k.toNat + I) (m := m) (c := fun j => s6 (2 + k.toNat) (I + j)) ⟨by omega, by omega, fun j hj => by
                    have := R6c (I + j) (by omega)
                    show zr (s6 (2 + k.toNat) (I + j))
                    rw [← this.1]
                    exact this.2⟩ (fun j hj => p3 j hj) (fun j hj => by
                    have := R6c (I + j) (by omega)
                    show upz s7 0 0 0 3 (60 * k.toNat + I + j) = s6 (2 + k.toNat) (I + j)
                    rw [upz_ne _ _ _ _ (by decide), ← this.1, Nat.add_assoc]) R' (sh := k) (lane := lane) (i := I) (n := m) (B := 60 * k + I) (E := 60 * k + I + m) (by omega) (by omega)
                  simp (disch := omega) only [↓if_pos, ↓if_neg, ↓Option.bind_some]
                  rw [p1, g2, Option.bind_some]
                  dsimp only
                  rw [g1, Option.bind_some]
                  refine ⟨_, _, _, _, rfl, rfl, ?_, g3, ?_⟩
                  · rw [upz_hit, g4.2 0 (by decide), upz_hit]
                  · exact Fr_trans (F0 0) (Fr_mono (by intro q; exact id) (by decide) g4)
                · simp (disch := omega) only [↓if_pos, ↓if_neg, ↓Option.bind_some]
                  exact ⟨_, _, _, _, rfl, rfl, c1 _ _, RDm_0 (RDm_0 R), F1 _⟩
          · simp (disch := omega) only [↓if_pos, ↓if_neg, ↓Option.bind_some]
            exact ⟨_, _, _, _, rfl, rfl, c1 _ _, RDm_0 (RDm_0 R), F1 _⟩
        · simp (disch := omega) only [↓if_pos, ↓if_neg, ↓Option.bind_some]
          exact ⟨_, _, _, _, rfl, rfl, c1 _ _, RDm_0 (RDm_0 R), F1 _⟩
    · simp (disch := omega) only [↓if_pos, ↓if_neg, ↓Option.bind_some]
      exact ⟨_, _, _, _, rfl, rfl, c0 _, RDm_0 R, F0 _⟩
  · simp (disch := omega) only [↓if_pos, ↓if_neg, ↓Option.bind_some]
    exact ⟨_, _, _, _, rfl, rfl, c0 _, RDm_0 R, F0 _⟩
