/-! what holds between the two, and that every call keeps it -/
def Rel (s0 s1 s2 s3 s4 s5 s6 s7 s8 : zZ) (ks : List Int) : Prop := s0 0 6 = s7 0 0 ∧ RSh s6 (s7 1) (s7 2) (s7 3) ∧ RDm s1 (s7 0 5) (s7 4) (s7 5) (s7 6) ∧ RRb s2 (s7 0 14) (s7 9) ∧ RSk s4 (s7 27) ∧ RSi s5 (s7 0 39) (s7 29) (s7 30) (s7 31) ∧ ND s3 s8 ks s7 ∧ NC s3 s8 s7
theorem ND_fr2 {s3 s8 s7 s : zZ} {ks : List Int} {A B : List Nat} (R : ND s3 s8 ks s7) (h : Fr A B s7 s) (hA : 14 ∉ A ∧ 15 ∉ A ∧ 16 ∉ A ∧ 17 ∉ A ∧ 18 ∉ A ∧ 19 ∉ A ∧ 20 ∉ A ∧ 21 ∉ A) (hB : 1 ∉ B ∧ 20 ∉ B ∧ 21 ∉ B ∧ 25 ∉ B) : ND s3 s8 ks s := by
  unfold ND at R ⊢
  rw [h.1 14 (by decide) hA.1, h.1 15 (by decide) hA.2.1, h.1 16 (by decide) hA.2.2.1, h.1 17 (by decide) hA.2.2.2.1, h.1 18 (by decide) hA.2.2.2.2.1, h.1 19 (by decide) hA.2.2.2.2.2.1, h.1 20 (by decide) hA.2.2.2.2.2.2.1, h.1 21 (by decide) hA.2.2.2.2.2.2.2, h.2 20 hB.2.1, h.2 21 hB.2.2.1, h.2 25 hB.2.2.2, h.2 1 hB.1]
  exact R
theorem NC_fr2 {s3 s8 s7 s : zZ} {A B : List Nat} (C : NC s3 s8 s7) (h : Fr A B s7 s) (h1 : 21 ∉ B) (h2 : 25 ∉ B) : NC s3 s8 s := by
  unfold NC at *
  rw [h.2 25 h2, h.2 21 h1]
  exact C
theorem NC_same {s3 s8 s7 s : zZ} {ks ks' : List Int} (R : ND s3 s8 ks s7) (R' : ND s3 s8 ks' s) (C : NC s3 s8 s7) : NC s3 s8 s := by
  have a := R.2.1.1
  have b := R'.2.1.1
  have c := R.2.2.1.1
  have d := R'.2.2.1.1
  have e1 : s 0 25 = s7 0 25 := by rw [← c, ← d]
  have e2 : s 0 21 = s7 0 21 := by rw [← a, ← b]
  unfold NC at *
  rw [e1, e2]
  exact C
theorem NC_one {s3 s8 s7 : zZ} (h : s3 0 10 = 1) : NC s3 s8 s7 := fun q => by
  rw [h] at q
  exact absurd q (by decide)
theorem T0f_congr2 {s3 t3 s8 : zZ} (h3 : ∀ q, 2 ≤ q → q < 13 → t3 q = s3 q) (B r j : Nat) (hj : j < cn s8 B + 6) : T0f t3 s8 B r j = T0f s3 s8 B r j := by
  unfold T0f Tb
  rw [mA_congr (t3 := t3) (s3 := s3) (s8 := s8) (t := s8) (h3 2 (by omega) (by omega)) (h3 3 (by omega) (by omega)) (h3 4 (by omega) (by omega)) (fun _ _ _ => rfl)]
  by_cases q : cn s8 B ≤ j
  · rw [if_pos q, if_pos q, h3 (7 + (j - cn s8 B)) (by omega) (by omega)]
  · rw [if_neg q, if_neg q]
theorem NC_trail {s3 s s8 s7 : zZ} (hs : ∀ q, q ≠ 1 → s q = s3 q) (C : NC s3 s8 s7) : NC s s8 s7 := by
  intro h
  rw [hs 0 (by decide)] at h
  obtain ⟨c1, c2, c3⟩ := C h
  refine ⟨by rw [hs 0 (by decide)]; exact c1, c2, ?_⟩
  have g := clr_congr (n := 2 * (s7 0 21).toNat) (J := cn s8 (s7 0 25).toNat + 6) (T := T0f s3 s8 (s7 0 25).toNat) (T' := T0f s s8 (s7 0 25).toNat) (fun r j _ hj => (T0f_congr2 (fun q h1 h2 => hs q (by omega)) _ r j hj).symm) (k0 := 0) (Nat.zero_le _) (D0 := 1) (L0 := fun _ => -1) (cn s8 (s7 0 25).toNat) (by omega)
  have T1 : TSf s (2 * (s7 0 21).toNat) (cn s8 (s7 0 25).toNat + 6) (clr (2 * (s7 0 21).toNat) (0, 1, T0f s3 s8 (s7 0 25).toNat, fun _ => -1) (cn s8 (s7 0 25).toNat)).1 (clr (2 * (s7 0 21).toNat) (0, 1, T0f s3 s8 (s7 0 25).toNat, fun _ => -1) (cn s8 (s7 0 25).toNat)).2.1 (clr (2 * (s7 0 21).toNat) (0, 1, T0f s3 s8 (s7 0 25).toNat, fun _ => -1) (cn s8 (s7 0 25).toNat)).2.2.1 (clr (2 * (s7 0 21).toNat) (0, 1, T0f s3 s8 (s7 0 25).toNat, fun _ => -1) (cn s8 (s7 0 25).toNat)).2.2.2 := by
    obtain ⟨h0, h1, h2, h4, h5, h6, h7, hp, ht, hl⟩ := c3
    unfold TSf PVf tbf
    rw [hs 13 (by decide), hs 14 (by decide), hs 23 (by decide)]
    refine ⟨h0, h1, h2, h4, h5, h6, h7, hp, fun r j hr hj => ?_, hl⟩
    rw [hs _ (by omega)]
    exact ht r j hr hj
  rw [← g.1, ← g.2.1]
  exact TSf_congr T1 g.2.2.1 (fun j _ => by rw [g.2.2.2])
theorem NC_or8 {s3 s3' s8 s8' s7 s : zZ} {ks ks' : List Int} (q3 : ND s3 s8 ks s7) (g3 : ND s3' s8' ks' s) (qc : NC s3 s8 s7) (gx : (s3' = s3 ∧ s8' = s8) ∨ s3' 0 10 = 1) : NC s3' s8' s := by
  rcases gx with ⟨rfl, rfl⟩ | gx
  · exact NC_same q3 g3 qc
  · exact NC_one gx
theorem c_text {s0 s1 s2 s3 s4 s5 s6 s7 s8 : zZ} {ks : List Int} (Q : Rel s0 s1 s2 s3 s4 s5 s6 s7 s8 ks) {a1 a2 a3 a4 : Int} (h1 : zr a1) (h2 : zr a2) (h3 : zr a3) (h4 : zr a4) : ∃ r s0' s1' s7', d_X11_text s0 s1 s6 a1 a2 a3 a4 = some (r, s0', s1') ∧ d_X12_text s7 a1 a2 a3 a4 = some (r, s7') ∧ Rel s0' s1' s2 s3 s4 s5 s6 s7' s8 ks := by
  have Q0 := Q
  obtain ⟨q0, q6, q1, q2, q4, q5, q3, qc⟩ := Q0
  obtain ⟨r, s0', s1', s7', e1, e2, gf, g1, fr⟩ := m_text (s0 := s0) h1 h2 h3 h4 q6 q1
  exact ⟨r, s0', s1', s7', e1, e2, gf, (by rw [fr.1 1 (by decide) (by decide), fr.1 2 (by decide) (by decide), fr.1 3 (by decide) (by decide)]; exact q6), g1, (by rw [fr.2 14 (by decide), fr.1 9 (by decide) (by decide)]; exact q2), (by rw [fr.1 27 (by decide) (by decide)]; exact q4), (by rw [fr.2 39 (by decide), fr.1 29 (by decide) (by decide), fr.1 30 (by decide) (by decide), fr.1 31 (by decide) (by decide)]; exact q5), (ND_fr2 q3 fr (by decide) (by decide)), (NC_fr2 qc fr (by decide) (by decide))⟩
theorem c_panel {s0 s1 s2 s3 s4 s5 s6 s7 s8 : zZ} {ks : List Int} (Q : Rel s0 s1 s2 s3 s4 s5 s6 s7 s8 ks) {a1 a2 : Int} (h1 : zr a1) (h2 : zr a2) : ∃ r, d_X11_panel s0 s1 a1 a2 = some r ∧ d_X12_panel s7 a1 a2 = some r ∧ Rel s0 s1 s2 s3 s4 s5 s6 s7 s8 ks := by
  have Q0 := Q
  obtain ⟨q0, q6, q1, q2, q4, q5, q3, qc⟩ := Q0
  obtain ⟨r, e1, e2⟩ := m_panel (s0 := s0) h1 h2 q1
  exact ⟨r, e1, e2, Q⟩
theorem c_thrust {s0 s1 s2 s3 s4 s5 s6 s7 s8 : zZ} {ks : List Int} (Q : Rel s0 s1 s2 s3 s4 s5 s6 s7 s8 ks) {a1 a2 : Int} (h1 : zr a1) (h2 : zr a2) : ∃ r, d_X11_thrust s0 s1 a1 a2 = some r ∧ d_X12_thrust s7 a1 a2 = some r ∧ Rel s0 s1 s2 s3 s4 s5 s6 s7 s8 ks := by
  have Q0 := Q
  obtain ⟨q0, q6, q1, q2, q4, q5, q3, qc⟩ := Q0
  obtain ⟨r, e1, e2⟩ := m_thrust (s0 := s0) h1 h2 q1
  exact ⟨r, e1, e2, Q⟩
theorem c_pull {s0 s1 s2 s3 s4 s5 s6 s7 s8 : zZ} {ks : List Int} (Q : Rel s0 s1 s2 s3 s4 s5 s6 s7 s8 ks) {a1 a2 : Int} (h1 : zr a1) (h2 : zr a2) : ∃ r, d_X11_pull s0 s1 a1 a2 = some r ∧ d_X12_pull s7 a1 a2 = some r ∧ Rel s0 s1 s2 s3 s4 s5 s6 s7 s8 ks := by
  have Q0 := Q
  obtain ⟨q0, q6, q1, q2, q4, q5, q3, qc⟩ := Q0
  obtain ⟨r, e1, e2⟩ := m_pull (s0 := s0) h1 h2 q1
  exact ⟨r, e1, e2, Q⟩
theorem c_thick {s0 s1 s2 s3 s4 s5 s6 s7 s8 : zZ} {ks : List Int} (Q : Rel s0 s1 s2 s3 s4 s5 s6 s7 s8 ks) {a1 a2 : Int} (h1 : zr a1) (h2 : zr a2) : ∃ r s1' s7', d_X11_thick s0 s1 a1 a2 = some (r, s1') ∧ d_X12_thick s7 a1 a2 = some (r, s7') ∧ Rel s0 s1' s2 s3 s4 s5 s6 s7' s8 ks := by
  have Q0 := Q
  obtain ⟨q0, q6, q1, q2, q4, q5, q3, qc⟩ := Q0
  obtain ⟨r, s1', s7', e1, e2, g1, fr⟩ := m_thick (s0 := s0) h1 h2 q1
  exact ⟨r, s1', s7', e1, e2, (by rw [fr.2 0 (by decide)]; exact q0), (by rw [fr.1 1 (by decide) (by decide), fr.1 2 (by decide) (by decide), fr.1 3 (by decide) (by decide)]; exact q6), g1, (by rw [fr.2 14 (by decide), fr.1 9 (by decide) (by decide)]; exact q2), (by rw [fr.1 27 (by decide) (by decide)]; exact q4), (by rw [fr.2 39 (by decide), fr.1 29 (by decide) (by decide), fr.1 30 (by decide) (by decide), fr.1 31 (by decide) (by decide)]; exact q5), (ND_fr2 q3 fr (by decide) (by decide)), (NC_fr2 qc fr (by decide) (by decide))⟩
theorem c_rib {s0 s1 s2 s3 s4 s5 s6 s7 s8 : zZ} {ks : List Int} (Q : Rel s0 s1 s2 s3 s4 s5 s6 s7 s8 ks) {a1 : Int} (h1 : zr a1) : ∃ r s2' s7', d_X11_rib s0 s2 a1 = some (r, s2') ∧ d_X12_rib s7 a1 = some (r, s7') ∧ Rel s0 s1 s2' s3 s4 s5 s6 s7' s8 ks := by
  have Q0 := Q
  obtain ⟨q0, q6, q1, q2, q4, q5, q3, qc⟩ := Q0
  obtain ⟨r, s2', s7', e1, e2, g2, fr⟩ := m_rib (s0 := s0) h1 q2
  exact ⟨r, s2', s7', e1, e2, (by rw [fr.2 0 (by decide)]; exact q0), (by rw [fr.1 1 (by decide) (by decide), fr.1 2 (by decide) (by decide), fr.1 3 (by decide) (by decide)]; exact q6), (by rw [fr.2 5 (by decide), fr.1 4 (by decide) (by decide), fr.1 5 (by decide) (by decide), fr.1 6 (by decide) (by decide)]; exact q1), g2, (by rw [fr.1 27 (by decide) (by decide)]; exact q4), (by rw [fr.2 39 (by decide), fr.1 29 (by decide) (by decide), fr.1 30 (by decide) (by decide), fr.1 31 (by decide) (by decide)]; exact q5), (ND_fr2 q3 fr (by decide) (by decide)), (NC_fr2 qc fr (by decide) (by decide))⟩
theorem c_spring {s0 s1 s2 s3 s4 s5 s6 s7 s8 : zZ} {ks : List Int} (Q : Rel s0 s1 s2 s3 s4 s5 s6 s7 s8 ks) {a1 a2 : Int} (h1 : zr a1) (h2 : zr a2) : ∃ r s2' s7', d_X11_spring s0 s2 a1 a2 = some (r, s2') ∧ d_X12_spring s7 a1 a2 = some (r, s7') ∧ Rel s0 s1 s2' s3 s4 s5 s6 s7' s8 ks := by
  have Q0 := Q
  obtain ⟨q0, q6, q1, q2, q4, q5, q3, qc⟩ := Q0
  obtain ⟨r, s2', s7', e1, e2, g2, fr⟩ := m_spring (s0 := s0) h1 h2 q2
  exact ⟨r, s2', s7', e1, e2, (by rw [fr.2 0 (by decide)]; exact q0), (by rw [fr.1 1 (by decide) (by decide), fr.1 2 (by decide) (by decide), fr.1 3 (by decide) (by decide)]; exact q6), (by rw [fr.2 5 (by decide), fr.1 4 (by decide) (by decide), fr.1 5 (by decide) (by decide), fr.1 6 (by decide) (by decide)]; exact q1), g2, (by rw [fr.1 27 (by decide) (by decide)]; exact q4), (by rw [fr.2 39 (by decide), fr.1 29 (by decide) (by decide), fr.1 30 (by decide) (by decide), fr.1 31 (by decide) (by decide)]; exact q5), (ND_fr2 q3 fr (by decide) (by decide)), (NC_fr2 qc fr (by decide) (by decide))⟩
theorem c_poly {s0 s1 s2 s3 s4 s5 s6 s7 s8 : zZ} {ks : List Int} (Q : Rel s0 s1 s2 s3 s4 s5 s6 s7 s8 ks) {a1 : Int} (h1 : zr a1) : ∃ r s7', d_X11_poly s0 s2 a1 = some r ∧ d_X12_poly s7 a1 = some (r, s7') ∧ Rel s0 s1 s2 s3 s4 s5 s6 s7' s8 ks := by
  have Q0 := Q
  obtain ⟨q0, q6, q1, q2, q4, q5, q3, qc⟩ := Q0
  obtain ⟨r, s7', e1, e2, g2, fr⟩ := m_poly (s0 := s0) h1 q2
  exact ⟨r, s7', e1, e2, (by rw [fr.2 0 (by decide)]; exact q0), (by rw [fr.1 1 (by decide) (by decide), fr.1 2 (by decide) (by decide), fr.1 3 (by decide) (by decide)]; exact q6), (by rw [fr.2 5 (by decide), fr.1 4 (by decide) (by decide), fr.1 5 (by decide) (by decide), fr.1 6 (by decide) (by decide)]; exact q1), g2, (by rw [fr.1 27 (by decide) (by decide)]; exact q4), (by rw [fr.2 39 (by decide), fr.1 29 (by decide) (by decide), fr.1 30 (by decide) (by decide), fr.1 31 (by decide) (by decide)]; exact q5), (ND_fr2 q3 fr (by decide) (by decide)), (NC_fr2 qc fr (by decide) (by decide))⟩
theorem c_folds {s0 s1 s2 s3 s4 s5 s6 s7 s8 : zZ} {ks : List Int} (Q : Rel s0 s1 s2 s3 s4 s5 s6 s7 s8 ks) {a1 a2 : Int} (h1 : zr a1) (h2 : zr a2) : ∃ r s2' s7', d_X11_folds s0 s2 a1 a2 = some (r, s2') ∧ d_X12_folds s7 a1 a2 = some (r, s7') ∧ Rel s0 s1 s2' s3 s4 s5 s6 s7' s8 ks := by
  have Q0 := Q
  obtain ⟨q0, q6, q1, q2, q4, q5, q3, qc⟩ := Q0
  obtain ⟨r, s2', s7', e1, e2, g2, fr⟩ := m_folds (s0 := s0) h1 h2 q2
  exact ⟨r, s2', s7', e1, e2, (by rw [fr.2 0 (by decide)]; exact q0), (by rw [fr.1 1 (by decide) (by decide), fr.1 2 (by decide) (by decide), fr.1 3 (by decide) (by decide)]; exact q6), (by rw [fr.2 5 (by decide), fr.1 4 (by decide) (by decide), fr.1 5 (by decide) (by decide), fr.1 6 (by decide) (by decide)]; exact q1), g2, (by rw [fr.1 27 (by decide) (by decide)]; exact q4), (by rw [fr.2 39 (by decide), fr.1 29 (by decide) (by decide), fr.1 30 (by decide) (by decide), fr.1 31 (by decide) (by decide)]; exact q5), (ND_fr2 q3 fr (by decide) (by decide)), (NC_fr2 qc fr (by decide) (by decide))⟩
theorem c_fold {s0 s1 s2 s3 s4 s5 s6 s7 s8 : zZ} {ks : List Int} (Q : Rel s0 s1 s2 s3 s4 s5 s6 s7 s8 ks) {a1 a2 : Int} (h1 : zr a1) (h2 : zr a2) : ∃ r s2' s7', d_X11_fold s0 s2 a1 a2 = some (r, s2') ∧ d_X12_fold s7 a1 a2 = some (r, s7') ∧ Rel s0 s1 s2' s3 s4 s5 s6 s7' s8 ks := by
  have Q0 := Q
  obtain ⟨q0, q6, q1, q2, q4, q5, q3, qc⟩ := Q0
  obtain ⟨r, s2', s7', e1, e2, g2, fr⟩ := m_fold (s0 := s0) h1 h2 q2
  exact ⟨r, s2', s7', e1, e2, (by rw [fr.2 0 (by decide)]; exact q0), (by rw [fr.1 1 (by decide) (by decide), fr.1 2 (by decide) (by decide), fr.1 3 (by decide) (by decide)]; exact q6), (by rw [fr.2 5 (by decide), fr.1 4 (by decide) (by decide), fr.1 5 (by decide) (by decide), fr.1 6 (by decide) (by decide)]; exact q1), g2, (by rw [fr.1 27 (by decide) (by decide)]; exact q4), (by rw [fr.2 39 (by decide), fr.1 29 (by decide) (by decide), fr.1 30 (by decide) (by decide), fr.1 31 (by decide) (by decide)]; exact q5), (ND_fr2 q3 fr (by decide) (by decide)), (NC_fr2 qc fr (by decide) (by decide))⟩
theorem c_bound {s0 s1 s2 s3 s4 s5 s6 s7 s8 : zZ} {ks : List Int} (Q : Rel s0 s1 s2 s3 s4 s5 s6 s7 s8 ks) {a1 : Int} (h1 : zr a1) : ∃ r s2' s7', d_X11_bound s0 s2 a1 = some (r, s2') ∧ d_X12_bound s7 a1 = some (r, s7') ∧ Rel s0 s1 s2' s3 s4 s5 s6 s7' s8 ks := by
  have Q0 := Q
  obtain ⟨q0, q6, q1, q2, q4, q5, q3, qc⟩ := Q0
  obtain ⟨r, s2', s7', e1, e2, g2, fr⟩ := m_bound (s0 := s0) h1 q2
  exact ⟨r, s2', s7', e1, e2, (by rw [fr.2 0 (by decide)]; exact q0), (by rw [fr.1 1 (by decide) (by decide), fr.1 2 (by decide) (by decide), fr.1 3 (by decide) (by decide)]; exact q6), (by rw [fr.2 5 (by decide), fr.1 4 (by decide) (by decide), fr.1 5 (by decide) (by decide), fr.1 6 (by decide) (by decide)]; exact q1), g2, (by rw [fr.1 27 (by decide) (by decide)]; exact q4), (by rw [fr.2 39 (by decide), fr.1 29 (by decide) (by decide), fr.1 30 (by decide) (by decide), fr.1 31 (by decide) (by decide)]; exact q5), (ND_fr2 q3 fr (by decide) (by decide)), (NC_fr2 qc fr (by decide) (by decide))⟩
theorem c_joint {s0 s1 s2 s3 s4 s5 s6 s7 s8 : zZ} {ks : List Int} (Q : Rel s0 s1 s2 s3 s4 s5 s6 s7 s8 ks) {a1 a2 a3 : Int} (h1 : zr a1) (h2 : zr a2) (h3 : a3 = 0 ∨ a3 = 1) : ∃ r s3' s7', d_X11_joint s0 s3 a1 a2 a3 = some (r, s3') ∧ d_X12_joint s7 a1 a2 a3 = some (r, s7') ∧ Rel s0 s1 s2 s3' s4 s5 s6 s7' s8 ks := by
  have Q0 := Q
  obtain ⟨q0, q6, q1, q2, q4, q5, q3, qc⟩ := Q0
  obtain ⟨r, s3', s7', e1, e2, g3, gx, fr⟩ := m_joint (s0 := s0) h1 h2 h3 q3
  exact ⟨r, s3', s7', e1, e2, (by rw [fr.2 0 (by decide)]; exact q0), (by rw [fr.1 1 (by decide) (by decide), fr.1 2 (by decide) (by decide), fr.1 3 (by decide) (by decide)]; exact q6), (by rw [fr.2 5 (by decide), fr.1 4 (by decide) (by decide), fr.1 5 (by decide) (by decide), fr.1 6 (by decide) (by decide)]; exact q1), (by rw [fr.2 14 (by decide), fr.1 9 (by decide) (by decide)]; exact q2), (by rw [fr.1 27 (by decide) (by decide)]; exact q4), (by rw [fr.2 39 (by decide), fr.1 29 (by decide) (by decide), fr.1 30 (by decide) (by decide), fr.1 31 (by decide) (by decide)]; exact q5), g3, (NC_or8 q3 g3 qc (gx.imp (fun h => ⟨h, rfl⟩) id))⟩
theorem c_bar {s0 s1 s2 s3 s4 s5 s6 s7 s8 : zZ} {ks : List Int} (Q : Rel s0 s1 s2 s3 s4 s5 s6 s7 s8 ks) {a1 a2 a3 a4 : Int} (h1 : zr a1) (h2 : zr a2) (h3 : zr a3) (h4 : zr a4) : ∃ r s3' s8' ks' s7', d_X11_bar s0 s1 s2 s3 s4 s5 s6 s7 s8 ks a1 a2 a3 a4 = some (r, s3', s8', ks') ∧ d_X12_bar s7 a1 a2 a3 a4 = some (r, s7') ∧ Rel s0 s1 s2 s3' s4 s5 s6 s7' s8' ks' := by
  have Q0 := Q
  obtain ⟨q0, q6, q1, q2, q4, q5, q3, qc⟩ := Q0
  obtain ⟨r, s3', s8', ks', s7', e1, e2, g3, gx, fr⟩ := m_bar (s0 := s0) (s1 := s1) (s2 := s2) (s4 := s4) (s5 := s5) (s6 := s6) h1 h2 h3 h4 q3
  exact ⟨r, s3', s8', ks', s7', e1, e2, (by rw [fr.2 0 (by decide)]; exact q0), (by rw [fr.1 1 (by decide) (by decide), fr.1 2 (by decide) (by decide), fr.1 3 (by decide) (by decide)]; exact q6), (by rw [fr.2 5 (by decide), fr.1 4 (by decide) (by decide), fr.1 5 (by decide) (by decide), fr.1 6 (by decide) (by decide)]; exact q1), (by rw [fr.2 14 (by decide), fr.1 9 (by decide) (by decide)]; exact q2), (by rw [fr.1 27 (by decide) (by decide)]; exact q4), (by rw [fr.2 39 (by decide), fr.1 29 (by decide) (by decide), fr.1 30 (by decide) (by decide), fr.1 31 (by decide) (by decide)]; exact q5), g3, (NC_or8 q3 g3 qc (gx.imp (fun h => ⟨h.1, h.2.1⟩) id))⟩
theorem c_cut {s0 s1 s2 s3 s4 s5 s6 s7 s8 : zZ} {ks : List Int} (Q : Rel s0 s1 s2 s3 s4 s5 s6 s7 s8 ks) {a1 a2 : Int} (h1 : zr a1) (h2 : a2 = 0 ∨ a2 = 1) : ∃ r s3' s8' s7', d_X11_cut s0 s3 s8 ks a1 a2 = some (r, s3', s8') ∧ d_X12_cut s7 a1 a2 = some (r, s7') ∧ Rel s0 s1 s2 s3' s4 s5 s6 s7' s8' ks := by
  have Q0 := Q
  obtain ⟨q0, q6, q1, q2, q4, q5, q3, qc⟩ := Q0
  obtain ⟨r, s3', s8', s7', e1, e2, g3, gx, fr⟩ := m_cut (s0 := s0) h1 h2 q3
  exact ⟨r, s3', s8', s7', e1, e2, (by rw [fr.2 0 (by decide)]; exact q0), (by rw [fr.1 1 (by decide) (by decide), fr.1 2 (by decide) (by decide), fr.1 3 (by decide) (by decide)]; exact q6), (by rw [fr.2 5 (by decide), fr.1 4 (by decide) (by decide), fr.1 5 (by decide) (by decide), fr.1 6 (by decide) (by decide)]; exact q1), (by rw [fr.2 14 (by decide), fr.1 9 (by decide) (by decide)]; exact q2), (by rw [fr.1 27 (by decide) (by decide)]; exact q4), (by rw [fr.2 39 (by decide), fr.1 29 (by decide) (by decide), fr.1 30 (by decide) (by decide), fr.1 31 (by decide) (by decide)]; exact q5), g3, (NC_or8 q3 g3 qc gx)⟩
theorem c_about {s0 s1 s2 s3 s4 s5 s6 s7 s8 : zZ} {ks : List Int} (Q : Rel s0 s1 s2 s3 s4 s5 s6 s7 s8 ks) {a1 a2 : Int} (h1 : zr a1) (h2 : zr a2) : ∃ r, d_X11_about s0 s3 s8 ks a1 a2 = some r ∧ d_X12_about s7 a1 a2 = some r ∧ Rel s0 s1 s2 s3 s4 s5 s6 s7 s8 ks := by
  have Q0 := Q
  obtain ⟨q0, q6, q1, q2, q4, q5, q3, qc⟩ := Q0
  obtain ⟨r, e1, e2⟩ := m_about (s0 := s0) h1 h2 q3
  exact ⟨r, e1, e2, Q⟩
theorem c_load {s0 s1 s2 s3 s4 s5 s6 s7 s8 : zZ} {ks : List Int} (Q : Rel s0 s1 s2 s3 s4 s5 s6 s7 s8 ks) {a1 a2 a3 a4 : Int} (h1 : zr a1) (h2 : zr a2) (h3 : zr a3) (h4 : zr a4) : ∃ r s3' s7', d_X11_load s0 s3 a1 a2 a3 a4 = some (r, s3') ∧ d_X12_load s7 a1 a2 a3 a4 = some (r, s7') ∧ Rel s0 s1 s2 s3' s4 s5 s6 s7' s8 ks := by
  have Q0 := Q
  obtain ⟨q0, q6, q1, q2, q4, q5, q3, qc⟩ := Q0
  obtain ⟨r, s3', s7', e1, e2, g3, gx, fr⟩ := m_load (s0 := s0) h1 h2 h3 h4 q3
  exact ⟨r, s3', s7', e1, e2, (by rw [fr.2 0 (by decide)]; exact q0), (by rw [fr.1 1 (by decide) (by decide), fr.1 2 (by decide) (by decide), fr.1 3 (by decide) (by decide)]; exact q6), (by rw [fr.2 5 (by decide), fr.1 4 (by decide) (by decide), fr.1 5 (by decide) (by decide), fr.1 6 (by decide) (by decide)]; exact q1), (by rw [fr.2 14 (by decide), fr.1 9 (by decide) (by decide)]; exact q2), (by rw [fr.1 27 (by decide) (by decide)]; exact q4), (by rw [fr.2 39 (by decide), fr.1 29 (by decide) (by decide), fr.1 30 (by decide) (by decide), fr.1 31 (by decide) (by decide)]; exact q5), g3, (NC_or8 q3 g3 qc (gx.imp (fun h => ⟨h, rfl⟩) id))⟩
theorem c_net {s0 s1 s2 s3 s4 s5 s6 s7 s8 : zZ} {ks : List Int} (Q : Rel s0 s1 s2 s3 s4 s5 s6 s7 s8 ks) {a1 : Int} (h1 : zr a1) : ∃ r s3' s8' s7', d_X11_net s0 s3 s8 ks a1 = some (r, s3', s8') ∧ d_X12_net s7 a1 = some (r, s7') ∧ Rel s0 s1 s2 s3' s4 s5 s6 s7' s8' ks := by
  have Q0 := Q
  obtain ⟨q0, q6, q1, q2, q4, q5, q3, qc⟩ := Q0
  obtain ⟨r, s3', s8', s7', e1, e2, g3, gc, fr⟩ := m_net (s0 := s0) h1 q3 qc
  exact ⟨r, s3', s8', s7', e1, e2, (by rw [fr.2 0 (by decide)]; exact q0), (by rw [fr.1 1 (by decide) (by decide), fr.1 2 (by decide) (by decide), fr.1 3 (by decide) (by decide)]; exact q6), (by rw [fr.2 5 (by decide), fr.1 4 (by decide) (by decide), fr.1 5 (by decide) (by decide), fr.1 6 (by decide) (by decide)]; exact q1), (by rw [fr.2 14 (by decide), fr.1 9 (by decide) (by decide)]; exact q2), (by rw [fr.1 27 (by decide) (by decide)]; exact q4), (by rw [fr.2 39 (by decide), fr.1 29 (by decide) (by decide), fr.1 30 (by decide) (by decide), fr.1 31 (by decide) (by decide)]; exact q5), g3, gc⟩
theorem c_move {s0 s1 s2 s3 s4 s5 s6 s7 s8 : zZ} {ks : List Int} (Q : Rel s0 s1 s2 s3 s4 s5 s6 s7 s8 ks) {a1 a2 : Int} (h1 : zr a1) (h2 : zr a2) : ∃ r s3' s8' s7', d_X11_move s0 s3 s8 ks a1 a2 = some (r, s3', s8') ∧ d_X12_move s7 a1 a2 = some (r, s7') ∧ Rel s0 s1 s2 s3' s4 s5 s6 s7' s8' ks := by
  have Q0 := Q
  obtain ⟨q0, q6, q1, q2, q4, q5, q3, qc⟩ := Q0
  obtain ⟨r, s3', s8', s7', e1, e2, g3, gc, fr⟩ := m_move (s0 := s0) h1 h2 q3 qc
  exact ⟨r, s3', s8', s7', e1, e2, (by rw [fr.2 0 (by decide)]; exact q0), (by rw [fr.1 1 (by decide) (by decide), fr.1 2 (by decide) (by decide), fr.1 3 (by decide) (by decide)]; exact q6), (by rw [fr.2 5 (by decide), fr.1 4 (by decide) (by decide), fr.1 5 (by decide) (by decide), fr.1 6 (by decide) (by decide)]; exact q1), (by rw [fr.2 14 (by decide), fr.1 9 (by decide) (by decide)]; exact q2), (by rw [fr.1 27 (by decide) (by decide)]; exact q4), (by rw [fr.2 39 (by decide), fr.1 29 (by decide) (by decide), fr.1 30 (by decide) (by decide), fr.1 31 (by decide) (by decide)]; exact q5), g3, gc⟩
theorem c_stands {s0 s1 s2 s3 s4 s5 s6 s7 s8 : zZ} {ks : List Int} (Q : Rel s0 s1 s2 s3 s4 s5 s6 s7 s8 ks) {a1 : Int} (h1 : zr a1) : ∃ r s3' s8' s7', d_X11_stands s0 s3 s8 ks a1 = some (r, s3', s8') ∧ d_X12_stands s7 a1 = some (r, s7') ∧ Rel s0 s1 s2 s3' s4 s5 s6 s7' s8' ks := by
  have Q0 := Q
  obtain ⟨q0, q6, q1, q2, q4, q5, q3, qc⟩ := Q0
  obtain ⟨r, s3', s8', s7', e1, e2, g3, gc, fr⟩ := m_stands (s0 := s0) h1 q3 qc
  exact ⟨r, s3', s8', s7', e1, e2, (by rw [fr.2 0 (by decide)]; exact q0), (by rw [fr.1 1 (by decide) (by decide), fr.1 2 (by decide) (by decide), fr.1 3 (by decide) (by decide)]; exact q6), (by rw [fr.2 5 (by decide), fr.1 4 (by decide) (by decide), fr.1 5 (by decide) (by decide), fr.1 6 (by decide) (by decide)]; exact q1), (by rw [fr.2 14 (by decide), fr.1 9 (by decide) (by decide)]; exact q2), (by rw [fr.1 27 (by decide) (by decide)]; exact q4), (by rw [fr.2 39 (by decide), fr.1 29 (by decide) (by decide), fr.1 30 (by decide) (by decide), fr.1 31 (by decide) (by decide)]; exact q5), g3, gc⟩
theorem c_push {s0 s1 s2 s3 s4 s5 s6 s7 s8 : zZ} {ks : List Int} (Q : Rel s0 s1 s2 s3 s4 s5 s6 s7 s8 ks) {a1 a2 a3 : Int} (h1 : zr a1) (h2 : zr a2) (h3 : zr a3) : ∃ r s3' s8' s7', d_X11_push s0 s3 s8 ks a1 a2 a3 = some (r, s3', s8') ∧ d_X12_push s7 a1 a2 a3 = some (r, s7') ∧ Rel s0 s1 s2 s3' s4 s5 s6 s7' s8' ks := by
  have Q0 := Q
  obtain ⟨q0, q6, q1, q2, q4, q5, q3, qc⟩ := Q0
  obtain ⟨r, s3', s8', s7', e1, e2, g3, gc, fr⟩ := m_push (s0 := s0) h1 h2 h3 q3 qc
  exact ⟨r, s3', s8', s7', e1, e2, (by rw [fr.2 0 (by decide)]; exact q0), (by rw [fr.1 1 (by decide) (by decide), fr.1 2 (by decide) (by decide), fr.1 3 (by decide) (by decide)]; exact q6), (by rw [fr.2 5 (by decide), fr.1 4 (by decide) (by decide), fr.1 5 (by decide) (by decide), fr.1 6 (by decide) (by decide)]; exact q1), (by rw [fr.2 14 (by decide), fr.1 9 (by decide) (by decide)]; exact q2), (by rw [fr.1 27 (by decide) (by decide)]; exact q4), (by rw [fr.2 39 (by decide), fr.1 29 (by decide) (by decide), fr.1 30 (by decide) (by decide), fr.1 31 (by decide) (by decide)]; exact q5), g3, gc⟩
theorem c_limit {s0 s1 s2 s3 s4 s5 s6 s7 s8 : zZ} {ks : List Int} (Q : Rel s0 s1 s2 s3 s4 s5 s6 s7 s8 ks) {a1 a2 : Int} (h1 : zr a1) (h2 : zr a2) : ∃ r s3' s8' s7', d_X11_limit s0 s3 s8 ks a1 a2 = some (r, s3', s8') ∧ d_X12_limit s7 a1 a2 = some (r, s7') ∧ Rel s0 s1 s2 s3' s4 s5 s6 s7' s8' ks := by
  have Q0 := Q
  obtain ⟨q0, q6, q1, q2, q4, q5, q3, qc⟩ := Q0
  obtain ⟨r, s3', s8', s7', e1, e2, g3, gc, fr⟩ := m_limit (s0 := s0) h1 h2 q3 qc
  exact ⟨r, s3', s8', s7', e1, e2, (by rw [fr.2 0 (by decide)]; exact q0), (by rw [fr.1 1 (by decide) (by decide), fr.1 2 (by decide) (by decide), fr.1 3 (by decide) (by decide)]; exact q6), (by rw [fr.2 5 (by decide), fr.1 4 (by decide) (by decide), fr.1 5 (by decide) (by decide), fr.1 6 (by decide) (by decide)]; exact q1), (by rw [fr.2 14 (by decide), fr.1 9 (by decide) (by decide)]; exact q2), (by rw [fr.1 27 (by decide) (by decide)]; exact q4), (by rw [fr.2 39 (by decide), fr.1 29 (by decide) (by decide), fr.1 30 (by decide) (by decide), fr.1 31 (by decide) (by decide)]; exact q5), g3, gc⟩
theorem c_needs {s0 s1 s2 s3 s4 s5 s6 s7 s8 : zZ} {ks : List Int} (Q : Rel s0 s1 s2 s3 s4 s5 s6 s7 s8 ks) {a1 : Int} (h1 : zr a1) : ∃ r s3' s8' s7', d_X11_needs s0 s3 s8 ks a1 = some (r, s3', s8') ∧ d_X12_needs s7 a1 = some (r, s7') ∧ Rel s0 s1 s2 s3' s4 s5 s6 s7' s8' ks := by
  have Q0 := Q
  obtain ⟨q0, q6, q1, q2, q4, q5, q3, qc⟩ := Q0
  obtain ⟨r, s3', s8', s7', e1, e2, g3, gc, fr⟩ := m_needs (s0 := s0) h1 q3 qc
  exact ⟨r, s3', s8', s7', e1, e2, (by rw [fr.2 0 (by decide)]; exact q0), (by rw [fr.1 1 (by decide) (by decide), fr.1 2 (by decide) (by decide), fr.1 3 (by decide) (by decide)]; exact q6), (by rw [fr.2 5 (by decide), fr.1 4 (by decide) (by decide), fr.1 5 (by decide) (by decide), fr.1 6 (by decide) (by decide)]; exact q1), (by rw [fr.2 14 (by decide), fr.1 9 (by decide) (by decide)]; exact q2), (by rw [fr.1 27 (by decide) (by decide)]; exact q4), (by rw [fr.2 39 (by decide), fr.1 29 (by decide) (by decide), fr.1 30 (by decide) (by decide), fr.1 31 (by decide) (by decide)]; exact q5), g3, gc⟩
theorem c_order {s0 s1 s2 s3 s4 s5 s6 s7 s8 : zZ} {ks : List Int} (Q : Rel s0 s1 s2 s3 s4 s5 s6 s7 s8 ks) {a1 a2 : Int} (h1 : zr a1) (h2 : zr a2) : ∃ r s3' s8' s7', d_X11_order s0 s3 s8 ks a1 a2 = some (r, s3', s8') ∧ d_X12_order s7 a1 a2 = some (r, s7') ∧ Rel s0 s1 s2 s3' s4 s5 s6 s7' s8' ks := by
  have Q0 := Q
  obtain ⟨q0, q6, q1, q2, q4, q5, q3, qc⟩ := Q0
  obtain ⟨r, s3', s8', s7', e1, e2, g3, gc, fr⟩ := m_order (s0 := s0) h1 h2 q3 qc
  exact ⟨r, s3', s8', s7', e1, e2, (by rw [fr.2 0 (by decide)]; exact q0), (by rw [fr.1 1 (by decide) (by decide), fr.1 2 (by decide) (by decide), fr.1 3 (by decide) (by decide)]; exact q6), (by rw [fr.2 5 (by decide), fr.1 4 (by decide) (by decide), fr.1 5 (by decide) (by decide), fr.1 6 (by decide) (by decide)]; exact q1), (by rw [fr.2 14 (by decide), fr.1 9 (by decide) (by decide)]; exact q2), (by rw [fr.1 27 (by decide) (by decide)]; exact q4), (by rw [fr.2 39 (by decide), fr.1 29 (by decide) (by decide), fr.1 30 (by decide) (by decide), fr.1 31 (by decide) (by decide)]; exact q5), g3, gc⟩
theorem c_hole {s0 s1 s2 s3 s4 s5 s6 s7 s8 : zZ} {ks : List Int} (Q : Rel s0 s1 s2 s3 s4 s5 s6 s7 s8 ks) {a1 a2 a3 : Int} (h1 : zr a1) (h2 : zr a2) (h3 : a3 = 0 ∨ a3 = 1) : ∃ r s4' s7', d_X11_hole s0 s4 a1 a2 a3 = some (r, s4') ∧ d_X12_hole s7 a1 a2 a3 = some (r, s7') ∧ Rel s0 s1 s2 s3 s4' s5 s6 s7' s8 ks := by
  have Q0 := Q
  obtain ⟨q0, q6, q1, q2, q4, q5, q3, qc⟩ := Q0
  obtain ⟨r, s4', s7', e1, e2, g4, fr⟩ := m_hole (s0 := s0) h1 h2 h3 q4
  exact ⟨r, s4', s7', e1, e2, (by rw [fr.2 0 (by decide)]; exact q0), (by rw [fr.1 1 (by decide) (by decide), fr.1 2 (by decide) (by decide), fr.1 3 (by decide) (by decide)]; exact q6), (by rw [fr.2 5 (by decide), fr.1 4 (by decide) (by decide), fr.1 5 (by decide) (by decide), fr.1 6 (by decide) (by decide)]; exact q1), (by rw [fr.2 14 (by decide), fr.1 9 (by decide) (by decide)]; exact q2), g4, (by rw [fr.2 39 (by decide), fr.1 29 (by decide) (by decide), fr.1 30 (by decide) (by decide), fr.1 31 (by decide) (by decide)]; exact q5), (ND_fr2 q3 fr (by decide) (by decide)), (NC_fr2 qc fr (by decide) (by decide))⟩
theorem c_skin {s0 s1 s2 s3 s4 s5 s6 s7 s8 : zZ} {ks : List Int} (Q : Rel s0 s1 s2 s3 s4 s5 s6 s7 s8 ks) {a1 : Int} (h1 : zr a1) : ∃ r s4' s7', d_X11_skin s0 s4 a1 = some (r, s4') ∧ d_X12_skin s7 a1 = some (r, s7') ∧ Rel s0 s1 s2 s3 s4' s5 s6 s7' s8 ks := by
  have Q0 := Q
  obtain ⟨q0, q6, q1, q2, q4, q5, q3, qc⟩ := Q0
  obtain ⟨r, s4', s7', e1, e2, g4, fr⟩ := m_skin (s0 := s0) h1 q4
  exact ⟨r, s4', s7', e1, e2, (by rw [fr.2 0 (by decide)]; exact q0), (by rw [fr.1 1 (by decide) (by decide), fr.1 2 (by decide) (by decide), fr.1 3 (by decide) (by decide)]; exact q6), (by rw [fr.2 5 (by decide), fr.1 4 (by decide) (by decide), fr.1 5 (by decide) (by decide), fr.1 6 (by decide) (by decide)]; exact q1), (by rw [fr.2 14 (by decide), fr.1 9 (by decide) (by decide)]; exact q2), g4, (by rw [fr.2 39 (by decide), fr.1 29 (by decide) (by decide), fr.1 30 (by decide) (by decide), fr.1 31 (by decide) (by decide)]; exact q5), (ND_fr2 q3 fr (by decide) (by decide)), (NC_fr2 qc fr (by decide) (by decide))⟩
theorem c_sight {s0 s1 s2 s3 s4 s5 s6 s7 s8 : zZ} {ks : List Int} (Q : Rel s0 s1 s2 s3 s4 s5 s6 s7 s8 ks) {a1 a2 a3 : Int} (h1 : zr a1) (h2 : zr a2) (h3 : zr a3) : ∃ r s5' s7', d_X11_sight s0 s5 a1 a2 a3 = some (r, s5') ∧ d_X12_sight s7 a1 a2 a3 = some (r, s7') ∧ Rel s0 s1 s2 s3 s4 s5' s6 s7' s8 ks := by
  have Q0 := Q
  obtain ⟨q0, q6, q1, q2, q4, q5, q3, qc⟩ := Q0
  obtain ⟨r, s5', s7', e1, e2, g5, fr⟩ := m_sight (s0 := s0) h1 h2 h3 q5
  exact ⟨r, s5', s7', e1, e2, (by rw [fr.2 0 (by decide)]; exact q0), (by rw [fr.1 1 (by decide) (by decide), fr.1 2 (by decide) (by decide), fr.1 3 (by decide) (by decide)]; exact q6), (by rw [fr.2 5 (by decide), fr.1 4 (by decide) (by decide), fr.1 5 (by decide) (by decide), fr.1 6 (by decide) (by decide)]; exact q1), (by rw [fr.2 14 (by decide), fr.1 9 (by decide) (by decide)]; exact q2), (by rw [fr.1 27 (by decide) (by decide)]; exact q4), g5, (ND_fr2 q3 fr (by decide) (by decide)), (NC_fr2 qc fr (by decide) (by decide))⟩
theorem c_quarrel {s0 s1 s2 s3 s4 s5 s6 s7 s8 : zZ} {ks : List Int} (Q : Rel s0 s1 s2 s3 s4 s5 s6 s7 s8 ks) {a1 a2 : Int} (h1 : zr a1) (h2 : zr a2) : ∃ r, d_X11_quarrel s0 s5 a1 a2 = some r ∧ d_X12_quarrel s7 a1 a2 = some r ∧ Rel s0 s1 s2 s3 s4 s5 s6 s7 s8 ks := by
  have Q0 := Q
  obtain ⟨q0, q6, q1, q2, q4, q5, q3, qc⟩ := Q0
  obtain ⟨r, e1, e2⟩ := m_quarrel (s0 := s0) h1 h2 q5
  exact ⟨r, e1, e2, Q⟩
theorem c_most {s0 s1 s2 s3 s4 s5 s6 s7 s8 : zZ} {ks : List Int} (Q : Rel s0 s1 s2 s3 s4 s5 s6 s7 s8 ks) : ∃ r, d_X11_most s0 s5 = some r ∧ d_X12_most s7 = some r ∧ Rel s0 s1 s2 s3 s4 s5 s6 s7 s8 ks := by
  have Q0 := Q
  obtain ⟨q0, q6, q1, q2, q4, q5, q3, qc⟩ := Q0
  obtain ⟨r, e1, e2⟩ := m_most (s0 := s0)  q5
  exact ⟨r, e1, e2, Q⟩
theorem c_span {s0 s1 s2 s3 s4 s5 s6 s7 s8 : zZ} {ks : List Int} (Q : Rel s0 s1 s2 s3 s4 s5 s6 s7 s8 ks) {a1 a2 a3 : Int} (h1 : zr a1) (h2 : zr a2) (h3 : zr a3) : ∃ r, d_X11_span s0 s5 a1 a2 a3 = some r ∧ d_X12_span s7 a1 a2 a3 = some r ∧ Rel s0 s1 s2 s3 s4 s5 s6 s7 s8 ks := by
  have Q0 := Q
  obtain ⟨q0, q6, q1, q2, q4, q5, q3, qc⟩ := Q0
  obtain ⟨r, e1, e2⟩ := m_span (s0 := s0) h1 h2 h3 q5
  exact ⟨r, e1, e2, Q⟩
theorem c_sheet {s0 s1 s2 s3 s4 s5 s6 s7 s8 : zZ} {ks : List Int} (Q : Rel s0 s1 s2 s3 s4 s5 s6 s7 s8 ks) {a1 a2 a3 : Int} (h1 : zr a1) (h2 : zr a2) (h3 : zr a3) : ∃ r s0' s6' s7', d_X11_sheet s0 s6 a1 a2 a3 = some (r, s0', s6') ∧ d_X12_sheet s7 a1 a2 a3 = some (r, s7') ∧ Rel s0' s1 s2 s3 s4 s5 s6' s7' s8 ks := by
  have Q0 := Q
  obtain ⟨q0, q6, q1, q2, q4, q5, q3, qc⟩ := Q0
  obtain ⟨r, s0', s6', s7', e1, e2, gf, g6, fr⟩ := m_sheet (s0 := s0) h1 h2 h3 q6
  exact ⟨r, s0', s6', s7', e1, e2, gf, g6, (by rw [fr.2 5 (by decide), fr.1 4 (by decide) (by decide), fr.1 5 (by decide) (by decide), fr.1 6 (by decide) (by decide)]; exact q1), (by rw [fr.2 14 (by decide), fr.1 9 (by decide) (by decide)]; exact q2), (by rw [fr.1 27 (by decide) (by decide)]; exact q4), (by rw [fr.2 39 (by decide), fr.1 29 (by decide) (by decide), fr.1 30 (by decide) (by decide), fr.1 31 (by decide) (by decide)]; exact q5), (ND_fr2 q3 fr (by decide) (by decide)), (NC_fr2 qc fr (by decide) (by decide))⟩
theorem c_lose {s0 s1 s2 s3 s4 s5 s6 s7 s8 : zZ} {ks : List Int} (Q : Rel s0 s1 s2 s3 s4 s5 s6 s7 s8 ks) {a1 : Int} (h1 : zr a1) : ∃ r s6' s7', d_X11_lose s0 s6 a1 = some (r, s6') ∧ d_X12_lose s7 a1 = some (r, s7') ∧ Rel s0 s1 s2 s3 s4 s5 s6' s7' s8 ks := by
  have Q0 := Q
  obtain ⟨q0, q6, q1, q2, q4, q5, q3, qc⟩ := Q0
  obtain ⟨r, s6', s7', e1, e2, g6, fr⟩ := m_lose (s0 := s0) h1 q6
  exact ⟨r, s6', s7', e1, e2, (by rw [fr.2 0 (by decide)]; exact q0), g6, (by rw [fr.2 5 (by decide), fr.1 4 (by decide) (by decide), fr.1 5 (by decide) (by decide), fr.1 6 (by decide) (by decide)]; exact q1), (by rw [fr.2 14 (by decide), fr.1 9 (by decide) (by decide)]; exact q2), (by rw [fr.1 27 (by decide) (by decide)]; exact q4), (by rw [fr.2 39 (by decide), fr.1 29 (by decide) (by decide), fr.1 30 (by decide) (by decide), fr.1 31 (by decide) (by decide)]; exact q5), (ND_fr2 q3 fr (by decide) (by decide)), (NC_fr2 qc fr (by decide) (by decide))⟩
theorem c_put {s0 s1 s2 s3 s4 s5 s6 s7 s8 : zZ} {ks : List Int} (Q : Rel s0 s1 s2 s3 s4 s5 s6 s7 s8 ks) {a1 a2 a3 : Int} (h1 : zr a1) (h2 : zr a2) (h3 : zr a3) : ∃ r s0' s6' s7', d_X11_put s0 s6 a1 a2 a3 = some (r, s0', s6') ∧ d_X12_put s7 a1 a2 a3 = some (r, s7') ∧ Rel s0' s1 s2 s3 s4 s5 s6' s7' s8 ks := by
  have Q0 := Q
  obtain ⟨q0, q6, q1, q2, q4, q5, q3, qc⟩ := Q0
  obtain ⟨r, s0', s6', s7', e1, e2, gf, g6, fr⟩ := m_put (s0 := s0) h1 h2 h3 q6
  exact ⟨r, s0', s6', s7', e1, e2, gf, g6, (by rw [fr.2 5 (by decide), fr.1 4 (by decide) (by decide), fr.1 5 (by decide) (by decide), fr.1 6 (by decide) (by decide)]; exact q1), (by rw [fr.2 14 (by decide), fr.1 9 (by decide) (by decide)]; exact q2), (by rw [fr.1 27 (by decide) (by decide)]; exact q4), (by rw [fr.2 39 (by decide), fr.1 29 (by decide) (by decide), fr.1 30 (by decide) (by decide), fr.1 31 (by decide) (by decide)]; exact q5), (ND_fr2 q3 fr (by decide) (by decide)), (NC_fr2 qc fr (by decide) (by decide))⟩
theorem c_cell {s0 s1 s2 s3 s4 s5 s6 s7 s8 : zZ} {ks : List Int} (Q : Rel s0 s1 s2 s3 s4 s5 s6 s7 s8 ks) {a1 a2 a3 : Int} (h1 : zr a1) (h2 : zr a2) (h3 : zr a3) : ∃ r s0' s7', d_X11_cell s0 s6 a1 a2 a3 = some (r, s0') ∧ d_X12_cell s7 a1 a2 a3 = some (r, s7') ∧ Rel s0' s1 s2 s3 s4 s5 s6 s7' s8 ks := by
  have Q0 := Q
  obtain ⟨q0, q6, q1, q2, q4, q5, q3, qc⟩ := Q0
  obtain ⟨r, s0', s7', e1, e2, gf, fr⟩ := m_cell (s0 := s0) h1 h2 h3 q6
  exact ⟨r, s0', s7', e1, e2, gf, (by rw [fr.1 1 (by decide) (by decide), fr.1 2 (by decide) (by decide), fr.1 3 (by decide) (by decide)]; exact q6), (by rw [fr.2 5 (by decide), fr.1 4 (by decide) (by decide), fr.1 5 (by decide) (by decide), fr.1 6 (by decide) (by decide)]; exact q1), (by rw [fr.2 14 (by decide), fr.1 9 (by decide) (by decide)]; exact q2), (by rw [fr.1 27 (by decide) (by decide)]; exact q4), (by rw [fr.2 39 (by decide), fr.1 29 (by decide) (by decide), fr.1 30 (by decide) (by decide), fr.1 31 (by decide) (by decide)]; exact q5), (ND_fr2 q3 fr (by decide) (by decide)), (NC_fr2 qc fr (by decide) (by decide))⟩
theorem c_tell {s0 s1 s2 s3 s4 s5 s6 s7 s8 : zZ} {ks : List Int} (Q : Rel s0 s1 s2 s3 s4 s5 s6 s7 s8 ks) {a1 : Int} (h1 : zr a1) : ∃ r s3' s7', d_X11_tell s0 s3 s8 ks a1 = some (r, s3') ∧ d_X12_tell s7 a1 = some (r, s7') ∧ Rel s0 s1 s2 s3' s4 s5 s6 s7' s8 ks := by
  have Q0 := Q
  obtain ⟨q0, q6, q1, q2, q4, q5, q3, qc⟩ := Q0
  obtain ⟨r, s3', s7', e1, e2, g3, gx, fr⟩ := m_tell (s0 := s0) h1 q3
  exact ⟨r, s3', s7', e1, e2, (by rw [fr.2 0 (by decide)]; exact q0), (by rw [fr.1 1 (by decide) (by decide), fr.1 2 (by decide) (by decide), fr.1 3 (by decide) (by decide)]; exact q6), (by rw [fr.2 5 (by decide), fr.1 4 (by decide) (by decide), fr.1 5 (by decide) (by decide), fr.1 6 (by decide) (by decide)]; exact q1), (by rw [fr.2 14 (by decide), fr.1 9 (by decide) (by decide)]; exact q2), (by rw [fr.1 27 (by decide) (by decide)]; exact q4), (by rw [fr.2 39 (by decide), fr.1 29 (by decide) (by decide), fr.1 30 (by decide) (by decide), fr.1 31 (by decide) (by decide)]; exact q5), g3, (NC_fr2 (NC_trail gx qc) fr (by decide) (by decide))⟩
theorem c_sign {s0 s1 s2 s3 s4 s5 s6 s7 s8 : zZ} {ks : List Int} (Q : Rel s0 s1 s2 s3 s4 s5 s6 s7 s8 ks) {a1 : Int} (h1 : zr a1) : ∃ r s3' s7', d_X11_sign s0 s3 s8 ks a1 = some (r, s3') ∧ d_X12_sign s7 a1 = some (r, s7') ∧ Rel s0 s1 s2 s3' s4 s5 s6 s7' s8 ks := by
  have Q0 := Q
  obtain ⟨q0, q6, q1, q2, q4, q5, q3, qc⟩ := Q0
  obtain ⟨r, s3', s7', e1, e2, g3, gx, fr⟩ := m_sign (s0 := s0) h1 q3
  exact ⟨r, s3', s7', e1, e2, (by rw [fr.2 0 (by decide)]; exact q0), (by rw [fr.1 1 (by decide) (by decide), fr.1 2 (by decide) (by decide), fr.1 3 (by decide) (by decide)]; exact q6), (by rw [fr.2 5 (by decide), fr.1 4 (by decide) (by decide), fr.1 5 (by decide) (by decide), fr.1 6 (by decide) (by decide)]; exact q1), (by rw [fr.2 14 (by decide), fr.1 9 (by decide) (by decide)]; exact q2), (by rw [fr.1 27 (by decide) (by decide)]; exact q4), (by rw [fr.2 39 (by decide), fr.1 29 (by decide) (by decide), fr.1 30 (by decide) (by decide), fr.1 31 (by decide) (by decide)]; exact q5), g3, (NC_fr2 (NC_trail gx qc) fr (by decide) (by decide))⟩
theorem c_as {s0 s1 s2 s3 s4 s5 s6 s7 s8 : zZ} {ks : List Int} (Q : Rel s0 s1 s2 s3 s4 s5 s6 s7 s8 ks) {a1 a2 : Int} (h1 : zr a1) (h2 : zr a2) : ∃ r s0' s7', d_X11_as s0 s3 s8 ks a1 a2 = some (r, s0') ∧ d_X12_as s7 a1 a2 = some (r, s7') ∧ Rel s0' s1 s2 s3 s4 s5 s6 s7' s8 ks := by
  have Q0 := Q
  obtain ⟨q0, q6, q1, q2, q4, q5, q3, qc⟩ := Q0
  obtain ⟨r, s0', s7', e1, e2, gf, g3, fr⟩ := m_as (s0 := s0) h1 h2 q3
  exact ⟨r, s0', s7', e1, e2, gf, (by rw [fr.1 1 (by decide) (by decide), fr.1 2 (by decide) (by decide), fr.1 3 (by decide) (by decide)]; exact q6), (by rw [fr.2 5 (by decide), fr.1 4 (by decide) (by decide), fr.1 5 (by decide) (by decide), fr.1 6 (by decide) (by decide)]; exact q1), (by rw [fr.2 14 (by decide), fr.1 9 (by decide) (by decide)]; exact q2), (by rw [fr.1 27 (by decide) (by decide)]; exact q4), (by rw [fr.2 39 (by decide), fr.1 29 (by decide) (by decide), fr.1 30 (by decide) (by decide), fr.1 31 (by decide) (by decide)]; exact q5), g3, (NC_fr2 qc fr (by decide) (by decide))⟩
theorem c_trace {s0 s1 s2 s3 s4 s5 s6 s7 s8 : zZ} {ks : List Int} (Q : Rel s0 s1 s2 s3 s4 s5 s6 s7 s8 ks) : ∃ r, d_X11_trace s0 s3 = some r ∧ d_X12_trace s7 = some r ∧ Rel s0 s1 s2 s3 s4 s5 s6 s7 s8 ks := by
  have Q0 := Q
  obtain ⟨q0, q6, q1, q2, q4, q5, q3, qc⟩ := Q0
  obtain ⟨r, e1, e2⟩ := m_trace (s0 := s0)  q3
  exact ⟨r, e1, e2, Q⟩
theorem c_fault {s0 s1 s2 s3 s4 s5 s6 s7 s8 : zZ} {ks : List Int} (Q : Rel s0 s1 s2 s3 s4 s5 s6 s7 s8 ks) : ∃ r, d_X11_fault s0 = some r ∧ d_X12_fault s7 = some r ∧ Rel s0 s1 s2 s3 s4 s5 s6 s7 s8 ks := by
  have Q0 := Q
  obtain ⟨q0, q6, q1, q2, q4, q5, q3, qc⟩ := Q0
  exact ⟨s0 0 6, rfl, congrArg some q0.symm, Q⟩
theorem c_many {s0 s1 s2 s3 s4 s5 s6 s7 s8 : zZ} {ks : List Int} (Q : Rel s0 s1 s2 s3 s4 s5 s6 s7 s8 ks) {a1 : Int} (h1 : zr a1) : ∃ r, d_X11_many s0 s1 s2 s3 s5 s8 ks a1 = some r ∧ d_X12_many s7 a1 = some r ∧ Rel s0 s1 s2 s3 s4 s5 s6 s7 s8 ks := by
  have Q0 := Q
  obtain ⟨q0, q6, q1, q2, q4, q5, q3, qc⟩ := Q0
  have R2 : s2 0 0 = s7 0 14 := by
    obtain ⟨n, _, e1, e2, _⟩ := q2
    rw [e1, e2]
  obtain ⟨r, e1, e2⟩ := m_many (s0 := s0) h1 q1.1 R2 q5.1 q3
  exact ⟨r, e1, e2, Q⟩
