/-! the net: a run of the reference, beside the class's table -/
def Bdn (B : Nat) (j : Nat) : Int := if j < B then 100000000 else 6000000000
theorem CI_bd7 {n J q : Nat} {a : Nat → Nat → Int} {K : Int} (hK : 1 ≤ K) {st : Nat × Int × (Nat → Nat → Int) × (Nat → Int)} (C : CI n J q a K st) {kx : Nat} (hk : n ≤ kx + 1) {j : Nat} (hj : j < J) {A : Int} (hA : nv n (a j) ≤ A) {r : Nat} (hr : r < n) : st.2.2.1 r j * st.2.2.1 r j ≤ A * K ^ kx := by
  obtain ⟨c, u, z, pc, B, _⟩ := C
  have kn := B.1
  have A0 : 0 ≤ A := Int.le_trans (nv_nn n (a j)) hA
  have b := bI_bd B hj hA
  by_cases h : st.1 ≤ r
  · have m1 := pow_mono hK (show st.1 ≤ kx by omega)
    have n1 := Int.mul_le_mul_of_nonneg_left m1 A0
    have := b.2.1 r h hr
    omega
  · have m2 := pow_mono hK (show st.1 - 1 ≤ kx by omega)
    have n2 := Int.mul_le_mul_of_nonneg_left m2 A0
    have := b.2.2 r (by omega)
    omega
theorem Tv_bd {s3 s8 s7 : zZ} {ks : List Int} (R : ND s3 s8 ks s7) {B : Nat} (hB : s7 0 25 = B) {v : Nat → Int} (hv : ∀ i, i < 8 → -180 ≤ v i ∧ v i ≤ 180) {but : Int} {n : Nat} (hn : n ≤ 8) : ∀ q, q ≤ B → ∀ r j, r < n → j < B + 1 → wi ((clr n (0, 1, Tv s3 s8 B v but, fun _ => -1) q).2.2.1 r j) (Bdn B j) := by
  intro q hq r j hr hj
  have nvs := Tv_nv R hB hv (but := but) hn
  have C := clr_CI (n := n) (J := B + 1) (ld := B) (T0 := Tv s3 s8 B v but) (K := 100) (by decide) (by omega) nvs.1 q hq
  unfold wi Bdn
  by_cases g : j < B
  · have h := CI_bd7 (by decide) C (kx := 7) (by omega) hj (nvs.1 j g) hr
    rw [if_pos g]
    exact sq_bd (M := 100000000) (by decide) (Int.le_trans h (by decide))
  · have e : j = B := by omega
    subst e
    have h := CI_bd7 (by decide) C (kx := 7) (by omega) hj nvs.2 hr
    rw [if_neg g]
    exact sq_bd (M := 6000000000) (by decide) (Int.le_trans h (by decide))
theorem e_layNet {s3 s8 s : zZ} {ks : List Int} (R : ND s3 s8 ks s) {B F : Nat} (hB : s 0 25 = B) (hF : s 0 21 = F) {v : Nat → Int} (hv : ∀ i, i < 8 → -180 ≤ v i ∧ v i ≤ 180) (h24 : ∀ i, i < 8 → s 24 i = v i) {but : Int} (hbut : zr but) {Bd : Nat → Int} (hb : ∀ q, q ≤ B → ∀ r j, r < 2 * F → j < B + 1 → wi ((clr (2 * F) (0, 1, Tv s3 s8 B v but, fun _ => -1) q).2.2.1 r j) (Bd j)) (hB2 : ∀ j p, j < B + 1 → p < B → 2 * (Bd j * Bd p) ≤ 9223372036854775807) (hB1 : ∀ j, j < B + 1 → Bd j ≤ 9223372036854775807) : ∃ s', d_X12_layNet s but = some s' ∧ s' 0 33 = (clr (2 * F) (0, 1, Tv s3 s8 B v but, fun _ => -1) B).1 ∧ RMs s' (2 * F) (B + 1) (clr (2 * F) (0, 1, Tv s3 s8 B v but, fun _ => -1) B).2.2.1 Bd ∧ (∀ j, j < B → s' 23 j = lv (clr (2 * F) (0, 1, Tv s3 s8 B v but, fun _ => -1) B).2.2.2 j) ∧ Fr [22, 23] [33] s s' := by
  have r1 := R.1
  have r2 := R.2.1
  have r3 := R.2.2.1
  have r7 := R.2.2.2.2.2.2.1
  obtain ⟨N, hN⟩ : ∃ N : Nat, s 0 20 = N := ⟨(s 0 20).toNat, by omega⟩
  obtain ⟨z, s1, a1, a2, a3⟩ := e_lay2 (B := B) (N := N) hbut hv N 0 zF s (by omega) (by unfold zF; omega) R hB hN h24 (fun i f x d hi => absurd hi (Nat.not_lt_zero _))
  rw [show ((0 : Nat) : Int) = 0 from rfl] at a1
  have F4 : 2 * F ≤ 8 := by omega
  have B16 : B ≤ 16 := by omega
  have nvs := Tv_nv R hB hv (but := but) F4
  obtain ⟨s2, b1, b2, b3, b4, b5⟩ := e_reduce (n := 2 * F) (all := B + 1) (cols := B) (by omega) (by omega) (by omega) (T0 := Tv s3 s8 B v but) (K := 100) (by decide) nvs.1 (Bd := Bd) hb hB2 hB1 (s := s1) (fun r j hr hj => by
    obtain ⟨i, i1, i2⟩ := r7 (r / 2) (by omega)
    have := a2 i (r / 2) (r % 2) j (by omega) i2 (by omega) (by omega)
    rw [show 2 * (r / 2) + r % 2 = r by omega] at this
    exact this)
  have e1 : s1 0 = s 0 := a3 0 (by decide)
  have e2 : 2 * (s1 0 21) = ((2 * F : Nat) : Int) := by rw [e1, hF]; omega
  have e3 : s1 0 25 = B := by rw [e1, hB]
  have e4 : (B : Int) + 1 = ((B + 1 : Nat) : Int) := by omega
  refine ⟨s2, ?_, b2, b3, b4, Fr_trans ⟨fun q _ hq => a3 q (fun e => hq (by rw [e]; decide)), fun j _ => by rw [e1]⟩ b5⟩
  unfold d_X12_layNet
  rw [a1, Option.bind_some]
  dsimp only
  rw [e2, e3, e4, b1, Option.bind_some]
theorem Bdn_2 {B : Nat} : ∀ j p, j < B + 1 → p < B → 2 * (Bdn B j * Bdn B p) ≤ 9223372036854775807 := by
  intro j p _ hp
  unfold Bdn
  rw [if_pos hp]
  split
  all_goals decide
theorem Bdn_1 {B : Nat} : ∀ j, j < B + 1 → Bdn B j ≤ 9223372036854775807 := by
  intro j _
  unfold Bdn
  split
  all_goals decide
/-- the class's table, cleared -/
def XN (s3 s8 : zZ) (B n : Nat) : Nat × Int × (Nat → Nat → Int) × (Nat → Int) := clr n (0, 1, T0f s3 s8 B, fun _ => -1) (cn s8 B)
def mmS (s8 : zZ) (B set : Nat) (j i : Nat) : Int := if j < B then (if s8 j 4 = 0 ∧ i = cn s8 j then 1 else 0) else (if cn s8 B ≤ i ∧ set / 2 ^ (i - cn s8 B) % 2 = 1 then 1 else 0)
def Tm (s8 : zZ) (B set : Nat) (T : Nat → Nat → Int) (r j : Nat) : Int := if j < B then (if s8 j 4 = 0 then T r (cn s8 j) else 0) else tot (fun c => if set / 2 ^ c % 2 = 1 then T r (cn s8 B + c) else 0) 6
theorem tot_shift {f : Nat → Int} {a : Nat} (h : ∀ i, i < a → f i = 0) : ∀ n : Nat, tot f (a + n) = tot (fun c => f (a + c)) n := by
  intro n
  induction n with
  | zero => exact tot_zero a h
  | succ n ih =>
    show tot f (a + n) + f (a + n) = tot (fun c => f (a + c)) n + f (a + n)
    rw [ih]
theorem mmS_tot (s8 : zZ) (B set : Nat) (T : Nat → Nat → Int) (r j : Nat) (hj : j < B + 1) : tot (fun i => mmS s8 B set j i * T r i) (cn s8 B + 6) = Tm s8 B set T r j := by
  unfold Tm
  by_cases g : j < B
  · rw [if_pos g]
    by_cases h : s8 j 4 = 0
    · rw [if_pos h]
      have l := cn_lt s8 g h
      rw [tot_one (i := cn s8 j) _ (by omega) (fun l _ hl => by
        show mmS s8 B set j l * T r l = 0
        unfold mmS
        rw [if_pos g, if_neg (fun q => hl q.2), Int.zero_mul])]
      unfold mmS
      rw [if_pos g, if_pos ⟨h, rfl⟩, Int.one_mul]
    · rw [if_neg h]
      exact tot_zero _ (fun i _ => by
        unfold mmS
        rw [if_pos g, if_neg (fun q => h q.1), Int.zero_mul])
  · rw [if_neg g, tot_shift (fun i hi => by
      unfold mmS
      rw [if_neg g, if_neg (fun q => by omega), Int.zero_mul])]
    exact tot_congr 6 (fun c _ => by
      unfold mmS
      rw [if_neg g, show cn s8 B + c - cn s8 B = c by omega]
      by_cases q : set / 2 ^ c % 2 = 1
      · rw [if_pos q, if_pos ⟨by omega, q⟩, Int.one_mul]
      · rw [if_neg q, if_neg (fun w => q w.2), Int.zero_mul])
theorem tot_neg {f : Nat → Int} : ∀ n : Nat, tot (fun i => - f i) n = - tot f n := by
  intro n
  induction n with
  | zero => rfl
  | succ n ih =>
    show tot (fun i => - f i) n + - f n = - (tot f n + f n)
    rw [ih]
    omega
theorem Tv_lsm {s3 s8 s7 : zZ} {ks : List Int} (R : ND s3 s8 ks s7) {B set : Nat} {r j : Nat} (hr : r < 8) (hj : j < B + 1) : Tv s3 s8 B (fun k => lsm s7 set k 6) (-9) r j = Tm s8 B set (T0f s3 s8 B) r j := by
  unfold Tv Tm
  by_cases g : j < B
  · rw [if_pos g, if_pos g]
    by_cases h : s8 j 4 = 0
    · rw [if_neg (by omega), if_pos h, T0f_bar g h]
    · rw [if_pos (Or.inl h), if_neg h]
  · rw [if_neg g, if_neg g]
    show - lsm s7 set r 6 = _
    unfold lsm
    rw [← tot_neg]
    have r10 := R.2.2.2.2.2.2.2.2.2.1
    exact tot_congr 6 (fun c hc => by
      by_cases q : set / 2 ^ c % 2 = 1
      · rw [if_pos q, if_pos q, T0f_case, (r10 c r hc hr).1]
      · rw [if_neg q, if_neg q]
        rfl)
theorem e_run_ {s3 s8 s7 : zZ} {ks : List Int} (R : ND s3 s8 ks s7) {B F : Nat} (hB : s7 0 25 = B) (hF : s7 0 21 = F) {set : Nat} (hs : set < 64) {Bd : Nat → Int} (hb : ∀ q, q ≤ B → ∀ r j, r < 2 * F → j < B + 1 → wi ((clr (2 * F) (0, 1, Tv s3 s8 B (fun k => lsm s7 set k 6) (-9), fun _ => -1) q).2.2.1 r j) (Bd j)) (hB2 : ∀ j p, j < B + 1 → p < B → 2 * (Bd j * Bd p) ≤ 9223372036854775807) (hB1 : ∀ j, j < B + 1 → Bd j ≤ 9223372036854775807) : ∃ s1 s2, d_X12_carry s7 set = some s1 ∧ d_X12_layNet s1 (-9) = some s2 ∧ s2 0 33 = (XN s3 s8 B (2 * F)).1 ∧ (∀ b, b < B → s2 23 b = if s8 b 4 = 0 then lv (XN s3 s8 B (2 * F)).2.2.2 (cn s8 b) else -9) ∧ RMs s2 (2 * F) (B + 1) (Tm s8 B set (XN s3 s8 B (2 * F)).2.2.1) Bd ∧ (∀ i, i < 8 → s2 24 i = lsm s7 set i 6) ∧ Fr [22, 23, 24] [33] s7 s2 := by
  obtain ⟨s1, a1, a2, a3⟩ := e_carry hs s7
  have r2 := R.2.1
  have fr1 : Fr [22, 23, 24] [33] s7 s1 := ⟨fun q _ hq => a2 q (fun e => hq (by rw [e]; decide)), fun j _ => by rw [a2 0 (by decide)]⟩
  have R1 : ND s3 s8 ks s1 := ND_fr R (Fr_mono (by decide) (by decide) fr1)
  have hv : ∀ i, i < 8 → -180 ≤ lsm s7 set i 6 ∧ lsm s7 set i 6 ≤ 180 := fun i hi => lsm_rng R hi
  obtain ⟨s2, b1, b2, b3, b4, b5⟩ := e_layNet R1 (by rw [a2 0 (by decide)]; exact hB) (by rw [a2 0 (by decide)]; exact hF) (v := fun k => lsm s7 set k 6) hv a3 (but := -9) (by decide) hb hB2 hB1
  have F4 : 2 * F ≤ 8 := by omega
  have M := clr_map (n := 2 * F) (Jc := cn s8 B + 6) (Jv := B + 1) (bars := B) (ld := cn s8 B) (Tc := T0f s3 s8 B) (Tv := Tv s3 s8 B (fun k => lsm s7 set k 6) (-9)) (ph := cn s8) (cut := fun b => s8 b 4 ≠ 0) (mm := mmS s8 B set) rfl (fun b _ h => by
      show cn s8 b + (if s8 b 4 = 0 then 1 else 0) = cn s8 b
      rw [if_neg h]
      rfl) (fun b _ h => by
      show cn s8 b + (if s8 b 4 = 0 then 1 else 0) = cn s8 b + 1
      rw [if_pos (Decidable.byContradiction h)]) (fun b hb => by
      obtain ⟨d, rfl⟩ := Nat.exists_eq_add_of_le hb
      exact cn_mono s8 d) (by omega) (by omega) (fun r j hr hj => by
      rw [mmS_tot _ _ _ _ _ _ hj]
      exact Tv_lsm R (by omega) hj) (fun b hb h i => by
      unfold mmS
      rw [if_pos hb, if_neg (fun q => h q.1)]) (fun b hb h i => by
      unfold mmS
      have h0 : s8 b 4 = 0 := Decidable.byContradiction h
      rw [if_pos hb]
      by_cases e : i = cn s8 b
      · rw [if_pos ⟨h0, e⟩, if_pos e]
      · rw [if_neg (fun q => e q.2), if_neg e]) (K := 100) (by decide) (T0f_nv R hB (2 * F) F4).1 B (Nat.le_refl _)
  obtain ⟨m1, m2, m3, m4, m5, m6⟩ := M
  refine ⟨s1, s2, a1, b1, ?_, fun b hb => ?_, fun r hr => ?_, fun i hi => ?_, Fr_trans fr1 (Fr_mono (by decide) (by decide) b5)⟩
  · rw [b2, m1]
    rfl
  · rw [b4 b hb]
    unfold lv
    by_cases h : s8 b 4 = 0
    · rw [(m4 b hb).2 (fun q => q h), if_pos h]
      rfl
    · rw [(m4 b hb).1 h, if_neg h]
      rfl
  · obtain ⟨⟨x, y, hx, hy, e⟩, w⟩ := b3 r hr
    refine ⟨⟨x, y, hx, hy, fun j hj => ?_⟩, w⟩
    rw [e j hj, m3 r j hr hj, mmS_tot _ _ _ _ _ _ hj]
    rfl
  · rw [b5.1 24 (by decide) (by decide)]
    exact a3 i hi
theorem e_run {s3 s8 s7 : zZ} {ks : List Int} (R : ND s3 s8 ks s7) {B F : Nat} (hB : s7 0 25 = B) (hF : s7 0 21 = F) {set : Nat} (hs : set < 64) : ∃ s1 s2, d_X12_carry s7 set = some s1 ∧ d_X12_layNet s1 (-9) = some s2 ∧ s2 0 33 = (XN s3 s8 B (2 * F)).1 ∧ (∀ b, b < B → s2 23 b = if s8 b 4 = 0 then lv (XN s3 s8 B (2 * F)).2.2.2 (cn s8 b) else -9) ∧ RMs s2 (2 * F) (B + 1) (Tm s8 B set (XN s3 s8 B (2 * F)).2.2.1) (Bdn B) ∧ (∀ i, i < 8 → s2 24 i = lsm s7 set i 6) ∧ Fr [22, 23, 24] [33] s7 s2 := by
  have r2 := R.2.1
  exact e_run_ R hB hF hs (Tv_bd R hB (fun i hi => lsm_rng R hi) (by omega)) Bdn_2 Bdn_1
