/-! the law: its loop -/
theorem zH_szs (s : zZ) : ∀ (L : List zD) (k : Nat), ((zH s L k).map xsz).sum = ((zH i0 L 0).map xsz).sum
  | [], _ => rfl
  | d :: L, k => by
    have e : xsz (zcell d (s k)) = xsz (zcell d (i0 0)) := by
      obtain ⟨a, n, l⟩ := d
      match a with
      | 0 => rfl
      | 1 => rfl
      | 2 => rfl
      | 3 => rfl
      | 4 => rfl
      | 5 => rfl
      | a + 6 => rfl
    show xsz (zcell d (s k)) + ((zH s L (k + 1)).map xsz).sum = xsz (zcell d (i0 0)) + ((zH i0 L 1).map xsz).sum
    rw [e, zH_szs s L (k + 1), zH_szs i0 L 1]
theorem zLb_szs (s : zZ) : ∀ (ks : List Int) (k : Nat), ((zH s (zLb ks) k).map xsz).sum ≤ 43 * ks.length
  | [], _ => Nat.le_refl _
  | x :: ks, k => by
    show xnf (zclass x) + ((zH s (zLb ks) (k + 1)).map xsz).sum ≤ 43 * (ks.length + 1)
    have h := zLb_szs s ks (k + 1)
    have h2 : ∀ c, xnf c ≤ 43 := by
      intro c
      match c with
      | 0 => decide
      | 1 => decide
      | 2 => decide
      | 3 => decide
      | 4 => decide
      | 5 => decide
      | 6 => decide
      | 7 => decide
      | 8 => decide
      | 9 => decide
      | 10 => decide
      | 11 => decide
      | n + 12 => exact Nat.le_refl _
    have := h2 (zclass x)
    omega
theorem hp_room {L : Nat} {xs : Nat → Int32} {s0 s1 s2 s3 s4 s5 s6 s7 s8 : zZ} {ks : List Int} (h : ks.length ≤ 16) : xtot (HPs L xs s0 s1 s2 s3 s4 s5 s6 s7 s8 ks) ≤ 600000 ∧ xsl (HPs L xs s0 s1 s2 s3 s4 s5 s6 s7 s8 ks) ≤ 7302250 := by
  constructor
  · show (zH s0 zL0 0).length + ((zH s1 zL1 0).length + ((zH s2 zL2 0).length + ((zH s3 zL3 0).length + ((zH s4 zL4 0).length + ((zH s5 zL5 0).length + ((zH s6 zL6 0).length + ((zH s7 zL7 0).length + ((zH s8 (zLb ks) 0).length + 0)))))))) ≤ 600000
    have e : (zLb ks).length = ks.length := by unfold zLb; rw [List.length_map]
    simp only [zH_len, e]
    have : zL0.length = 1 ∧ zL1.length = 17 ∧ zL2.length = 32 ∧ zL3.length = 45 ∧ zL4.length = 5 ∧ zL5.length = 4 ∧ zL6.length = 8 ∧ zL7.length = 32 := by decide
    omega
  · show ((zH s0 zL0 0).map xsz).sum + (((zH s1 zL1 0).map xsz).sum + (((zH s2 zL2 0).map xsz).sum + (((zH s3 zL3 0).map xsz).sum + (((zH s4 zL4 0).map xsz).sum + (((zH s5 zL5 0).map xsz).sum + (((zH s6 zL6 0).map xsz).sum + (((zH s7 zL7 0).map xsz).sum + (((zH s8 (zLb ks) 0).map xsz).sum + 0)))))))) ≤ 7302250
    rw [zH_szs s0, zH_szs s1, zH_szs s2, zH_szs s3, zH_szs s4, zH_szs s5, zH_szs s6, zH_szs s7]
    have b := zLb_szs s8 ks 0
    have c0 : ((zH i0 zL0 0).map xsz).sum ≤ 10000 := by decide +kernel
    have c1 : ((zH i0 zL1 0).map xsz).sum ≤ 10000 := by decide +kernel
    have c2 : ((zH i0 zL2 0).map xsz).sum ≤ 10000 := by decide +kernel
    have c3 : ((zH i0 zL3 0).map xsz).sum ≤ 10000 := by decide +kernel
    have c4 : ((zH i0 zL4 0).map xsz).sum ≤ 10000 := by decide +kernel
    have c5 : ((zH i0 zL5 0).map xsz).sum ≤ 10000 := by decide +kernel
    have c6 : ((zH i0 zL6 0).map xsz).sum ≤ 10000 := by decide +kernel
    have c7 : ((zH i0 zL7 0).map xsz).sum ≤ 10000 := by decide +kernel
    omega
def KSW : List (Nat × Nat) := [(0, 204), (1, 257), (2, 290), (3, 324), (4, 358), (5, 391), (6, 414), (7, 447), (8, 471), (9, 504), (10, 537), (11, 560), (12, 619), (13, 672), (14, 721), (15, 754), (16, 807), (17, 830), (18, 864), (19, 887), (20, 931), (21, 965), (22, 988), (23, 1021), (24, 1080), (25, 1103), (26, 1146), (27, 1179), (28, 1192), (29, 1236), (30, 1279), (31, 1302), (32, 1345), (33, 1389), (34, 1412), (35, 1435), (36, 1468), (37, 1481), (38, 1494)]
theorem sw_out : ∀ e : Nat, e < 64 → 39 ≤ e → xsw KSW (zI (e : Int)) 1517 = 1517 := by decide +kernel

theorem law_step {L : Nat} {xs : Nat → Int32} (hL : L ≤ 2560) {i : Nat} (hi : i + 5 ≤ L) {s0 s1 s2 s3 s4 s5 s6 s7 s8 : zZ} {ks : List Int} (Q : Rel s0 s1 s2 s3 s4 s5 s6 s7 s8 ks) (next : ∀ (s0 s1 s2 s3 s4 s5 s6 s7 s8 : zZ) (ks : List Int), Rel s0 s1 s2 s3 s4 s5 s6 s7 s8 ks → LwP L xs 1517 i s0 s1 s2 s3 s4 s5 s6 s7 s8 ks) : LwP L xs 26 i s0 s1 s2 s3 s4 s5 s6 s7 s8 ks := by
  obtain ⟨e, he, h64⟩ : ∃ e : Nat, av xs i 0 % 64 = (e : Int) ∧ e < 64 := ⟨(av xs i 0 % 64).toNat, by omega, by omega⟩
  have go : ∀ t : Nat, xsw KSW (zI (e : Int)) 1517 = t → LwP L xs t i s0 s1 s2 s3 s4 s5 s6 s7 s8 ks → LwP L xs 26 i s0 s1 s2 s3 s4 s5 s6 s7 s8 ks := by
    rintro t ht ⟨hp', X, b1, b2⟩
    refine ⟨hp', ?_, b1, b2⟩
    refine xB.run oL_law 2 (s := (28, LwV i, [.int (zI (i : Int)), .ref 9216], HPs L xs s0 s1 s2 s3 s4 s5 s6 s7 s8 ks)) (xNP_run hS0 2 rfl) ?_
    refine xB.iald oL_law (nx := 29) (a := 0) (ks := []) (ws := []) (v := .null) (o := 9216) (N := L) (f := xs) (st0 := []) rfl rfl (zin (by omega) ⟨by omega, by omega⟩) ?_
    rw [zcl (N := L) (by omega) ⟨by omega, by omega⟩, Int.toNat_natCast]
    have f : xs i = zI (av xs i 0) := zi_of _
    rw [f]
    refine xB.run oL_law 2 (s := (32, LwV i, [.int (zI (av xs i 0) &&& 63)], HPs L xs s0 s1 s2 s3 s4 s5 s6 s7 s8 ks)) (xNP_run hS0 2 rfl) ?_
    have g : zI (av xs i 0) &&& 63 = zI (e : Int) := by
      rw [← he]
      exact zi_and63 _
    rw [g]
    refine xB.next oL_law (s := (t, LwV i, [], HPs L xs s0 s1 s2 s3 s4 s5 s6 s7 s8 ks)) (xsw_at (ks := KSW) (x := zI (e : Int)) (a := 1517) rfl ht) ?_
    exact X
  rcases (show e = 0 ∨ e = 1 ∨ e = 2 ∨ e = 3 ∨ e = 4 ∨ e = 5 ∨ e = 6 ∨ e = 7 ∨ e = 8 ∨ e = 9 ∨ e = 10 ∨ e = 11 ∨ e = 12 ∨ e = 13 ∨ e = 14 ∨ e = 15 ∨ e = 16 ∨ e = 17 ∨ e = 18 ∨ e = 19 ∨ e = 20 ∨ e = 21 ∨ e = 22 ∨ e = 23 ∨ e = 24 ∨ e = 25 ∨ e = 26 ∨ e = 27 ∨ e = 28 ∨ e = 29 ∨ e = 30 ∨ e = 31 ∨ e = 32 ∨ e = 33 ∨ e = 34 ∨ e = 35 ∨ e = 36 ∨ e = 37 ∨ e = 38 ∨ 39 ≤ e by omega) with rfl | rfl | rfl | rfl | rfl | rfl | rfl | rfl | rfl | rfl | rfl | rfl | rfl | rfl | rfl | rfl | rfl | rfl | rfl | rfl | rfl | rfl | rfl | rfl | rfl | rfl | rfl | rfl | rfl | rfl | rfl | rfl | rfl | rfl | rfl | rfl | rfl | rfl | rfl | h
  · exact go 204 (by decide) (l_text hL hi Q next)
  · exact go 257 (by decide) (l_panel hL hi Q next)
  · exact go 290 (by decide) (l_thrust hL hi Q next)
  · exact go 324 (by decide) (l_pull hL hi Q next)
  · exact go 358 (by decide) (l_thick hL hi Q next)
  · exact go 391 (by decide) (l_rib hL hi Q next)
  · exact go 414 (by decide) (l_spring hL hi Q next)
  · exact go 447 (by decide) (l_poly hL hi Q next)
  · exact go 471 (by decide) (l_folds hL hi Q next)
  · exact go 504 (by decide) (l_fold hL hi Q next)
  · exact go 537 (by decide) (l_bound hL hi Q next)
  · exact go 560 (by decide) (l_joint hL hi Q next)
  · exact go 619 (by decide) (l_bar hL hi Q next)
  · exact go 672 (by decide) (l_cut hL hi Q next)
  · exact go 721 (by decide) (l_about hL hi Q next)
  · exact go 754 (by decide) (l_load hL hi Q next)
  · exact go 807 (by decide) (l_net hL hi Q next)
  · exact go 830 (by decide) (l_move hL hi Q next)
  · exact go 864 (by decide) (l_stands hL hi Q next)
  · exact go 887 (by decide) (l_push hL hi Q next)
  · exact go 931 (by decide) (l_limit hL hi Q next)
  · exact go 965 (by decide) (l_needs hL hi Q next)
  · exact go 988 (by decide) (l_order hL hi Q next)
  · exact go 1021 (by decide) (l_hole hL hi Q next)
  · exact go 1080 (by decide) (l_skin hL hi Q next)
  · exact go 1103 (by decide) (l_sight hL hi Q next)
  · exact go 1146 (by decide) (l_quarrel hL hi Q next)
  · exact go 1179 (by decide) (l_most hL hi Q next)
  · exact go 1192 (by decide) (l_span hL hi Q next)
  · exact go 1236 (by decide) (l_sheet hL hi Q next)
  · exact go 1279 (by decide) (l_lose hL hi Q next)
  · exact go 1302 (by decide) (l_put hL hi Q next)
  · exact go 1345 (by decide) (l_cell hL hi Q next)
  · exact go 1389 (by decide) (l_tell hL hi Q next)
  · exact go 1412 (by decide) (l_sign hL hi Q next)
  · exact go 1435 (by decide) (l_as hL hi Q next)
  · exact go 1468 (by decide) (l_trace hL hi Q next)
  · exact go 1481 (by decide) (l_fault hL hi Q next)
  · exact go 1494 (by decide) (l_many hL hi Q next)
  · exact go 1517 (sw_out e h64 h) (next s0 s1 s2 s3 s4 s5 s6 s7 s8 ks Q)
theorem law_loop {L : Nat} {xs : Nat → Int32} (hL : L ≤ 2560) : ∀ (m i : Nat) (s0 s1 s2 s3 s4 s5 s6 s7 s8 : zZ) (ks : List Int), L ≤ i + m → i ≤ L + 5 → Rel s0 s1 s2 s3 s4 s5 s6 s7 s8 ks → LwP L xs 18 i s0 s1 s2 s3 s4 s5 s6 s7 s8 ks := by
  intro m
  have head : ∀ (i : Nat) (s0 s1 s2 s3 s4 s5 s6 s7 s8 : zZ) (ks : List Int), i ≤ L + 5 → Rel s0 s1 s2 s3 s4 s5 s6 s7 s8 ks → (i + 5 ≤ L → LwP L xs 26 i s0 s1 s2 s3 s4 s5 s6 s7 s8 ks) → LwP L xs 18 i s0 s1 s2 s3 s4 s5 s6 s7 s8 ks := by
    intro i s0 s1 s2 s3 s4 s5 s6 s7 s8 ks hi Q K
    have pre : ∀ {r : Option Value} {hp' : xH}, (¬ (i + 5 ≤ L) → xBody ML_law 10 1523 (LwV i) [] (HPs L xs s0 s1 s2 s3 s4 s5 s6 s7 s8 ks) r hp') → (i + 5 ≤ L → xBody ML_law 10 26 (LwV i) [] (HPs L xs s0 s1 s2 s3 s4 s5 s6 s7 s8 ks) r hp') → xBody ML_law 10 18 (LwV i) [] (HPs L xs s0 s1 s2 s3 s4 s5 s6 s7 s8 ks) r hp' := by
      intro r hp' A B
      refine xB.run oL_law 2 (s := (20, LwV i, [.ref 9216, .int (zI (i : Int))], HPs L xs s0 s1 s2 s3 s4 s5 s6 s7 s8 ks)) (xNP_run hS0 2 rfl) ?_
      refine xB.alen oL_law (nx := 21) (a := 0) (ks := []) (ws := []) (v := .null) (o := 9216) (N := L) (c := 0) (z := .inl xs) (st0 := [.int (zI (i : Int))]) rfl rfl (by decide) ?_
      have e1 : nI L = zI (L : Int) := (Int32.ofInt_eq_ofNat).symm
      rw [e1]
      refine xB.run oL_law 2 (s := (23, LwV i, [.int (zI (L : Int) - 5), .int (zI (i : Int))], HPs L xs s0 s1 s2 s3 s4 s5 s6 s7 s8 ks)) (xNP_run hS0 2 rfl) ?_
      have e2 : zI (L : Int) - 5 = zI ((L : Int) - 5) := zi_sub (L : Int) 5
      rw [e2]
      refine xB.brE oL_law (P := (L : Int) - 5 < (i : Int)) (a := 1523) (b := 26) (lv1 := LwV i) (st1 := []) ((x1S hS0 (Nat.le_of_ble_eq_true rfl) _ _ _).trans rfl) (zc_gt ⟨by omega, by omega⟩) (fun q => A (by omega)) (fun q => B (by omega))
    by_cases q : i + 5 ≤ L
    · obtain ⟨hp', X, b⟩ := K q
      exact ⟨hp', pre (fun n => absurd q n) (fun _ => X), b⟩
    · refine ⟨HPs L xs s0 s1 s2 s3 s4 s5 s6 s7 s8 ks, pre (fun _ => ?_) (fun h => absurd h q), hp_room (by have := Q.2.2.2.2.2.2.1.2.2.1; omega)⟩
      refine xB.run oL_law 1 (s := (1524, LwV i, [.int 1], HPs L xs s0 s1 s2 s3 s4 s5 s6 s7 s8 ks)) (xNP_run hS26 1 rfl) ?_
      exact xB.ret oL_law (r1 := some (.int 1)) ((x1S hS26 (Nat.le_of_ble_eq_true rfl) _ _ _).trans rfl) rfl rfl
  induction m with
  | zero =>
    intro i s0 s1 s2 s3 s4 s5 s6 s7 s8 ks h1 h2 Q
    exact head i s0 s1 s2 s3 s4 s5 s6 s7 s8 ks h2 Q (fun h => by omega)
  | succ m ih =>
    intro i s0 s1 s2 s3 s4 s5 s6 s7 s8 ks h1 h2 Q
    refine head i s0 s1 s2 s3 s4 s5 s6 s7 s8 ks h2 Q (fun h => law_step hL h Q (fun s0 s1 s2 s3 s4 s5 s6 s7 s8 ks Q' => ?_))
    obtain ⟨hp', X, b⟩ := ih (i + 5) s0 s1 s2 s3 s4 s5 s6 s7 s8 ks (by omega) (by omega) Q'
    refine ⟨hp', ?_, b⟩
    refine xB.run oL_law 2 (s := (18, [some (.ref 9216), some (.ref 0), some (.ref 7168), some (.int (zI (i : Int) + 5))], [], HPs L xs s0 s1 s2 s3 s4 s5 s6 s7 s8 ks)) (xNP_run hS26 2 rfl) ?_
    have e : zI (i : Int) + 5 = zI ((i + 5 : Nat) : Int) := by
      rw [Int.natCast_add]
      exact zi_add (i : Int) 5
    rw [e]
    exact X
