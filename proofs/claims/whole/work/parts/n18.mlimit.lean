/-! the net: the share at which the first bar gives -/
def Bdf (B : Nat) (j : Nat) : Int := if j < B then 25000000 else 300000000
theorem Tv_bdf {s3 s8 s7 : zZ} {ks : List Int} (R : ND s3 s8 ks s7) {B : Nat} (hB : s7 0 25 = B) {v : Nat → Int} (hv : ∀ i, i < 8 → -30 ≤ v i ∧ v i ≤ 30) {n : Nat} (hn : n ≤ 8) : ∀ q, q ≤ B → ∀ r j, r < n → j < B + 1 → wi ((clr n (0, 1, Tv s3 s8 B v (-9), fun _ => -1) q).2.2.1 r j) (Bdf B j) := by
  intro q hq r j hr hj
  have nvs := Tv_nv R hB (v := v) (fun i hi => by have := hv i hi; omega) (but := -9) hn
  have nvy : ∀ b, b < B → nv n (fun r => Tv s3 s8 B v (-9) r b) ≤ yB s3 s8 b := by
    intro b hb
    by_cases g : s8 b 4 ≠ 0 ∨ (b : Int) = -9
    · rw [nv_congr (w := fun _ => 0) n (fun r _ => by unfold Tv; rw [if_pos hb, if_pos g])]
      have := nv_tot (v := fun _ => 0) (w := fun _ => 0) n (fun _ _ => by decide)
      rw [tot_zero n (fun _ _ => rfl)] at this
      omega
    · rw [nv_congr (w := fun r => mA s3 s8 b r) n (fun r _ => by unfold Tv; rw [if_pos hb, if_neg g])]
      exact mA_yB R (by omega) n
  have nvr : nv n (fun r => Tv s3 s8 B v (-9) r B) ≤ 7200 := by
    have h := nv_tot (v := fun r => Tv s3 s8 B v (-9) r B) (w := fun _ => 900) n (fun r hr => by
      unfold Tv
      rw [if_neg (Nat.lt_irrefl _)]
      have L := hv r (by omega)
      have w := wi_mul2 (a := - v r) (b := - v r) (A := 30) (B := 30) ⟨by omega, by omega⟩ ⟨by omega, by omega⟩
      have := w.2
      omega)
    have t := tot_le (v := fun _ => (900 : Int)) (c := 900) n (fun _ _ => Int.le_refl _)
    omega
  have C := clr_CI (n := n) (J := B + 1) (ld := B) (T0 := Tv s3 s8 B v (-9)) (K := 100) (by decide) (by omega) nvs.1 q hq
  generalize clr n (0, 1, Tv s3 s8 B v (-9), fun _ => -1) q = st at *
  obtain ⟨k, D, T, L⟩ := st
  obtain ⟨c, u, z, pc, Bi, P⟩ := C
  dsimp only at *
  have inj := Pvt_inj P
  obtain ⟨P1, P2, P3⟩ := P
  have kn := Bi.1
  have hpc : ∀ i, i < k → pc i < B := fun i hi => by have := (P1 i hi).1; omega
  have nvc : ∀ i, i < k → nv n (c i) ≤ ((yB s3 s8 (pc i) : Nat) : Int) := fun i hi => by
    rw [(P1 i hi).2.2.1]
    exact nvy _ (hpc i hi)
  unfold wi Bdf
  by_cases g : j < B
  · rw [if_pos g]
    refine sq_bd (M := 25000000) (by decide) ?_
    by_cases h : ∃ i, i < k ∧ j = pc i
    · obtain ⟨i, i1, i2⟩ := h
      rw [i2, (P1 i i1).2.2.2 r hr]
      by_cases e : r = i
      · rw [if_pos e]
        have h1 := (bI_bd2 Bi).1 (fun i => ((yB s3 s8 (pc i) : Nat) : Int)) nvc
        rw [prd_pn (fun i => yB s3 s8 (pc i))] at h1
        have h2 := fam_8 R hB hpc inj (by omega)
        omega
      · rw [if_neg e]
        decide
    · by_cases hk : k ≤ r
      · have h1 := bI_bd3 Bi j hj (yB s3 s8 j : Nat) (nvy j g) r hk hr (fun i => ((yB s3 s8 (pc i) : Nat) : Int)) nvc
        rw [prd_pn (fun i => yB s3 s8 (pc i)), ← Int.natCast_mul] at h1
        have e : pn (fun l => yB s3 s8 (if l = k then j else pc l)) (k + 1) = yB s3 s8 j * pn (fun i => yB s3 s8 (pc i)) k := by
          show yB s3 s8 (if k = k then j else pc k) * pn (fun l => yB s3 s8 (if l = k then j else pc l)) k = _
          rw [if_pos rfl, pn_congr k (fun l hl => by rw [if_neg (show ¬ (l = k) by omega)])]
        have h2 := fam_8 R hB (m := k + 1) (q := fun l => if l = k then j else pc l) (fun i hi => by
          by_cases w : i = k
          · rw [if_pos w]; exact g
          · rw [if_neg w]; exact hpc i (by omega)) (fun i l hi hl w => by
          by_cases w1 : i = k
          · by_cases w2 : l = k
            · omega
            · rw [if_pos w1, if_neg w2] at w
              exact absurd ⟨l, by omega, w⟩ h
          · by_cases w2 : l = k
            · rw [if_neg w1, if_pos w2] at w
              exact absurd ⟨i, by omega, w.symm⟩ h
            · rw [if_neg w1, if_neg w2] at w
              exact inj i l (by omega) (by omega) w) (by omega)
        rw [e] at h2
        omega
      · have h1 := (bI_bd2 Bi).2 j hj (yB s3 s8 j : Nat) (nvy j g) r (by omega) (fun l => ((if l = r then 1 else yB s3 s8 (pc l) : Nat) : Int)) (fun l hl w => by
          rw [if_neg w]
          exact nvc l hl) (by rw [if_pos rfl]; decide)
        rw [prd_pn (fun l => if l = r then 1 else yB s3 s8 (pc l)), ← Int.natCast_mul, ← pn_upd (y := fun l => yB s3 s8 (pc l)) (c := yB s3 s8 j) k (by omega)] at h1
        have h2 := fam_8 R hB (m := k) (q := fun l => if l = r then j else pc l) (fun i hi => by
          by_cases w : i = r
          · rw [if_pos w]; exact g
          · rw [if_neg w]; exact hpc i (by omega)) (fun i l hi hl w => by
          by_cases w1 : i = r
          · by_cases w2 : l = r
            · omega
            · rw [if_pos w1, if_neg w2] at w
              exact absurd ⟨l, by omega, w⟩ h
          · by_cases w2 : l = r
            · rw [if_neg w1, if_pos w2] at w
              exact absurd ⟨i, by omega, w.symm⟩ h
            · rw [if_neg w1, if_neg w2] at w
              exact inj i l (by omega) (by omega) w) (by omega)
        rw [pn_congr (z := fun l => if l = r then yB s3 s8 j else yB s3 s8 (pc l)) k (fun l hl => by
          by_cases w : l = r
          · rw [if_pos w, if_pos w]
          · rw [if_neg w, if_neg w])] at h2
        omega
  · rw [if_neg g]
    refine sq_bd (M := 300000000) (by decide) ?_
    have e : j = B := by omega
    subst e
    by_cases hk : k ≤ r
    · have h1 := bI_bd3 Bi j hj 7200 nvr r hk hr (fun i => ((yB s3 s8 (pc i) : Nat) : Int)) nvc
      rw [prd_pn (fun i => yB s3 s8 (pc i))] at h1
      have h2 := fam_7 R hB hpc inj (by omega)
      omega
    · have h1 := (bI_bd2 Bi).2 j hj 7200 nvr r (by omega) (fun l => ((if l = r then 1 else yB s3 s8 (pc l) : Nat) : Int)) (fun l hl w => by
        rw [if_neg w]
        exact nvc l hl) (by rw [if_pos rfl]; decide)
      rw [prd_pn (fun l => if l = r then 1 else yB s3 s8 (pc l))] at h1
      have h2 := fam_1 R hB hpc inj (by omega) (show r < k by omega)
      omega
theorem lsm_one {s7 : zZ} {c k : Nat} (hc : c < 6) : lsm s7 (2 ^ c) k 6 = s7 21 (8 * c + k) := by
  unfold lsm
  exact tot_bit (f := fun c => s7 21 (8 * c + k)) hc
theorem Bdf_2 {B : Nat} : ∀ j p, j < B + 1 → p < B → 2 * (Bdf B j * Bdf B p) ≤ 9223372036854775807 := by
  intro j p _ hp
  unfold Bdf
  rw [if_pos hp]
  split
  all_goals decide
theorem Bdf_1 {B : Nat} : ∀ j, j < B + 1 → Bdf B j ≤ 9223372036854775807 := by
  intro j _
  unfold Bdf
  split
  all_goals decide
/-- what a run of one case leaves, in the finer bounds -/
theorem e_runf {s3 s8 s7 s2 : zZ} {ks : List Int} (R : ND s3 s8 ks s7) {B F c : Nat} (hB : s7 0 25 = B) (hF : s7 0 21 = F) (hc : c < 6) (h : ∃ s1, d_X12_carry s7 ((2 ^ c : Nat) : Int) = some s1 ∧ d_X12_layNet s1 (-9) = some s2) : RMs s2 (2 * F) (B + 1) (Tm s8 B (2 ^ c) (XN s3 s8 B (2 * F)).2.2.1) (Bdf B) := by
  have r2 := R.2.1
  have r10 := R.2.2.2.2.2.2.2.2.2.1
  obtain ⟨s1, s2', a1, a2, _, _, a3, _⟩ := e_run_ R hB hF (p2c c hc) (Tv_bdf R hB (fun i hi => by
    rw [lsm_one hc]
    have := r10 c i hc hi
    omega) (by omega)) Bdf_2 Bdf_1
  obtain ⟨t1, b1, b2⟩ := h
  rw [a1] at b1
  obtain rfl := Option.some.inj b1
  rw [a2] at b2
  obtain rfl := Option.some.inj b2
  exact a3
