/-! the net: needs -/
theorem e_without {s3 s8 s : zZ} {ks : List Int} (R : ND s3 s8 ks s) {B F c b : Nat} (hB : s 0 25 = B) (hF : s 0 21 = F) {v : Nat → Int} (hv : ∀ i, i < 8 → v i = s3 (7 + c) i) (hc : c < 6) (h24 : ∀ i, i < 8 → s 24 i = v i) (hb : b < B) (h0 : s8 b 4 = 0) : ∃ s', d_X12_layNet s b = some s' ∧ Fr [22, 23] [33] s s' ∧ ((d_X12_doesStand s' = some 1 ∧ Slv (2 * F) (cn s8 B) (fun j r => T0f s3 s8 B r j) ((fun j r => T0f s3 s8 B r j) (cn s8 B + c)) (fun j => j = cn s8 b)) ∨ (d_X12_doesStand s' = some 0 ∧ ¬ Slv (2 * F) (cn s8 B) (fun j r => T0f s3 s8 B r j) ((fun j r => T0f s3 s8 B r j) (cn s8 B + c)) (fun j => j = cn s8 b))) := by
  have r2 := R.2.1
  have r3 := R.2.2.1
  have r10 := R.2.2.2.2.2.2.2.2.2.1
  have hv2 : ∀ i, i < 8 → -180 ≤ v i ∧ v i ≤ 180 := fun i hi => by
    rw [hv i hi]
    have := r10 c i hc hi
    omega
  obtain ⟨s', a1, a2, a3, a4, a5⟩ := e_layNet R hB hF hv2 h24 (but := b) (by omega) (Tv_bd R hB hv2 (by omega)) Bdn_2 Bdn_1
  have nvs := Tv_nv R hB hv2 (but := b) (n := 2 * F) (by omega)
  have C := clr_CI (n := 2 * F) (J := B + 1) (ld := B) (T0 := Tv s3 s8 B v b) (K := 100) (by decide) (by omega) nvs.1 B (Nat.le_refl _)
  have iff := slv_iff (s3 := s3) (s8 := s8) (n := 2 * F) (c := c) (v := v) (fun s hs => hv s (by omega)) hb h0
  have S1 := sem_1 C (h := B) (by omega)
  have S2 := fun S r => sem_2 (by omega) C (h := B) (by omega) S (r := r)
  have kn := clr_le (2 * F) (0, 1, Tv s3 s8 B v b, fun _ => -1) (Nat.zero_le _) B
  have st := e_doesStand (s2 := s') (B := B) (F := F) (by rw [a5.2 25 (by decide)]; exact hB) (by omega) (by rw [a5.2 21 (by decide)]; exact hF) (by omega) a2 kn a3
  refine ⟨s', a1, a5, ?_⟩
  rcases st with ⟨d1, d2⟩ | ⟨d1, d2⟩
  · left
    refine ⟨d1, iff.mp ?_⟩
    obtain ⟨N, x, n0, _, e⟩ := S1 d2
    exact ⟨N, x, n0, fun _ h => h.elim, e⟩
  · right
    refine ⟨d1, fun S => d2 (fun i h1 h2 => ?_)⟩
    exact S2 (iff.mpr S) i h1 h2
theorem e_needb {s3 s8 s2 : zZ} {ks : List Int} {B F c : Nat} (K : NK s3 s8 ks s2 B F) (hc : c < 6) (st : stB s3 s8 B F (2 ^ c)) (h24 : ∀ i, i < 8 → s2 24 i = s3 (7 + c) i) : ∀ (m b f nd : Nat) (s : zZ), b + m = B → m + 1 ≤ f → nd < 2 ^ b → Fr [22, 23] [33] s2 s → ∃ (z z' : Int) (nd' : Int) (s' : zZ), d_X4_neededBars_4 s3 s8 ks c f nd b = some (nd', z) ∧ d_X12_needs_36 c f nd b s = some (nd', z', s') ∧ Fr [22, 23] [33] s2 s' := by
  have K' := K
  obtain ⟨R, hB, hF, h11, h5, H⟩ := K'
  have r2 := R.2.1
  have r3 := R.2.2.1
  have cB := cn_le s8 B
  have C := XN_CI R hB (n := 2 * F) (by omega)
  have sn := fun b hb => sem_need (h := cn s8 B + c) (by omega) C (by omega) ((stB_one hc).mp st) (b := b) hb
  intro m
  induction m with
  | zero =>
    intro b f nd s hb hf hnd fr
    obtain ⟨f, rfl⟩ : ∃ g, f = g + 1 := ⟨f - 1, by omega⟩
    have s25 : s 0 25 = B := by rw [fr.2 25 (by decide)]; exact hB
    unfold d_X4_neededBars_4 d_X12_needs_36
    rw [s25, show s3 0 7 = B by omega, if_pos (by omega), if_pos (by omega), if_pos (by omega), if_pos (by omega)]
    exact ⟨_, _, _, _, rfl, rfl, fr⟩
  | succ m ih =>
    intro b f nd s hb hf hnd fr
    obtain ⟨f, rfl⟩ : ∃ g, f = g + 1 := ⟨f - 1, by omega⟩
    have hbB : b < B := by omega
    have b15 : (2 : Nat) ^ b ≤ 2 ^ 15 := Nat.pow_le_pow_right (by decide) (by omega)
    have b15' : (2 : Nat) ^ 15 = 32768 := by decide
    have bs : (2 : Nat) ^ (b + 1) = 2 * 2 ^ b := by rw [Nat.pow_succ, Nat.mul_comm]
    have bp : 0 < (2 : Nat) ^ b := Nat.two_pow_pos b
    have s25 : s 0 25 = B := by rw [fr.2 25 (by decide)]; exact hB
    have s21 : s 0 21 = F := by rw [fr.2 21 (by decide)]; exact hF
    have s20 : s 20 = s2 20 := fr.1 20 (by decide) (by decide)
    have s24 : s 24 = s2 24 := fr.1 24 (by decide) (by decide)
    have Rs : ND s3 s8 ks s := ND_fr R (Fr_mono (by decide) (by decide) fr)
    have r8 := R.2.2.2.2.2.2.2.1 b (by omega)
    have r84 := r8.2.2.2.2.2.2
    have e3 : ((b : Int) + 1) = ((b + 1 : Nat) : Int) := by omega
    have orl : nd ||| 2 ^ b < 2 ^ (b + 1) := Nat.or_lt_two_pow (by omega) (by omega)
    have skip := ih (b + 1) f nd
    have put := ih (b + 1) f (nd ||| 2 ^ b)
    have gu := upC_rng R hB (n := 2 * F) (by omega) hbB hc
    unfold wi at gu
    clear ih
    have mo : ∀ X, d_X12_needs_36 c (f + 1) nd b s = X → d_X12_needs_36 c (f + 1) nd b s = X := fun _ h => h
    have moC : s8 b 4 ≠ 0 → d_X12_needs_36 c (f + 1) nd b s = d_X12_needs_36 c f nd ((b + 1 : Nat) : Int) s := by
      intro q
      rw [d_X12_needs_36, s25, s20, e3, Int.toNat_natCast, if_pos (by omega), if_neg (by omega), if_pos (by omega), if_pos (by omega), if_pos (by omega)]
    have mo1 : ∀ s', s8 b 4 = 0 → d_X12_layNet s b = some s' → d_X12_doesStand s' = some 1 → d_X12_needs_36 c (f + 1) nd b s = d_X12_needs_36 c f nd ((b + 1 : Nat) : Int) s' := by
      intro s' q h1 h2
      rw [d_X12_needs_36, s25, s20, e3, Int.toNat_natCast, if_pos (by omega), if_neg (by omega), if_pos (by omega), if_pos (by omega), if_neg (by omega), h1, Option.bind_some, h2, Option.bind_some, if_pos (by decide), if_neg (by decide), if_pos (by omega), Int.toNat_natCast, show (0 : Int).toNat = 0 from rfl, Nat.or_zero]
    have mo2 : ∀ s', s8 b 4 = 0 → d_X12_layNet s b = some s' → d_X12_doesStand s' = some 0 → d_X12_needs_36 c (f + 1) nd b s = d_X12_needs_36 c f ((nd ||| 2 ^ b : Nat) : Int) ((b + 1 : Nat) : Int) s' := by
      intro s' q h1 h2
      rw [d_X12_needs_36, s25, s20, e3, Int.toNat_natCast, if_pos (by omega), if_neg (by omega), if_pos (by omega), if_pos (by omega), if_neg (by omega), h1, Option.bind_some, h2, Option.bind_some, if_pos (by decide), if_pos rfl, if_pos (by omega), two_pow, if_pos (by omega), Int.toNat_natCast, Int.toNat_natCast]
    rw [d_X4_neededBars_4, show s3 0 7 = B by omega, show s3 5 0 = B by omega, e3, if_pos (by omega), if_neg (by omega), if_pos (by omega), e_upperPush K hc hbB, Option.bind_some, if_pos (by omega)]
    clear mo
    by_cases q : s8 b 4 = 0
    · obtain ⟨s', d1, d2, d3⟩ := e_without Rs s25 s21 (v := s3 (7 + c)) (fun _ _ => rfl) hc (fun i hi => by rw [s24]; exact h24 i hi) hbB q
      have fr' : Fr [22, 23] [33] s2 s' := Fr_trans fr d2
      have l := cn_lt s8 hbB q
      have sb := sn (cn s8 b) l
      have sk := skip s' (by omega) (by omega) (by omega) fr'
      have pt := put s' (by omega) (by omega) orl fr'
      clear skip put
      rcases XN_L R hB (n := 2 * F) (by omega) hbB q with e | ⟨i, e, h2, _⟩
      · have S := sb.1 e
        rcases d3 with ⟨d3, _⟩ | ⟨_, d3⟩
        · have U0 : upC s3 s8 B (2 * F) c b = 0 := if_neg (fun h => h.2 e)
          rw [if_pos U0, mo1 s' q d1 d3]
          exact sk
        · exact absurd S d3
      · have S := sb.2 i e
        have g := XN_rng R hB (n := 2 * F) (by omega)
        have Ue : upC s3 s8 B (2 * F) c b = (XN s3 s8 B (2 * F)).2.2.1 i (cn s8 B + c) := by
          unfold upC
          rw [if_pos ⟨q, by omega⟩, e, Int.toNat_natCast]
        by_cases U0 : upC s3 s8 B (2 * F) c b = 0
        · rcases d3 with ⟨d3, _⟩ | ⟨_, d3⟩
          · rw [if_pos U0, mo1 s' q d1 d3]
            exact sk
          · exact absurd (S.mpr (fun h => h.1 (by rw [← Ue]; exact U0))) d3
        · rw [if_neg U0, if_pos (by omega), Int.toNat_natCast, if_pos (by omega), h5 b hbB, if_pos q, e_leadsf H (by omega), if_pos (by omega), Option.bind_some, Int.toNat_natCast, e]
          rcases e_canChange K (i := i) (by omega) with ⟨c1, c2⟩ | ⟨c1, x, x1, x2, x3⟩
          · rcases d3 with ⟨_, d3⟩ | ⟨d3, _⟩
            · exact absurd ⟨by rw [← Ue]; exact U0, c2⟩ (S.mp d3)
            · rw [c1, Option.bind_some, if_pos (by decide), if_neg (by decide), if_pos (by omega), two_pow, if_pos (by omega), Int.toNat_natCast, Int.toNat_natCast, mo2 s' q d1 d3]
              exact pt
          · rcases d3 with ⟨d3, _⟩ | ⟨_, d3⟩
            · rw [c1, Option.bind_some, if_pos (by decide), if_pos (by decide), mo1 s' q d1 d3]
              exact sk
            · exact absurd (S.mpr (fun h => x3 (h.2 x x1 x2))) d3
    · have U0 : upC s3 s8 B (2 * F) c b = 0 := if_neg (fun h => q h.1)
      rw [if_pos U0, moC q]
      exact skip s (by omega) (by omega) (by omega) fr
theorem m_needs {s0 s3 s8 s7 : zZ} {ks : List Int} {c : Int} (hc : zr c) (R : ND s3 s8 ks s7) (C : NC s3 s8 s7) : ∃ r s3' s8' s7', d_X11_needs s0 s3 s8 ks c = some (r, s3', s8') ∧ d_X12_needs s7 c = some (r, s7') ∧ ND s3' s8' ks s7' ∧ NC s3' s8' s7' ∧ Fr [22, 23, 24, 25, 26] [33] s7 s7' := by
  by_cases q : 0 ≤ c ∧ c < 6
  · obtain ⟨x, rfl⟩ : ∃ x : Nat, c = x := ⟨c.toNat, by omega⟩
    have x6 : x < 6 := by omega
    obtain ⟨t3, t8, B, F, a1, K, C', _, _⟩ := e_rk R C
    have K' := K
    obtain ⟨R', hB, hF, h11, h5, H⟩ := K'
    obtain ⟨s1, s2, b1, b2, b3⟩ := e_run R' hB hF (p2c x x6)
    have h : RN t3 t8 B F (2 ^ x) s7 s2 := b3
    have f := RN_fr h
    have R2 := ND_fr R' f
    have sb := stB_one (s3 := t3) (s8 := t8) (B := B) (F := F) x6
    have r3 := R'.2.2.1
    have r10 := R'.2.2.2.2.2.2.2.2.2.1
    have cl0 : d_X11_needs s0 s3 s8 ks x = (d_X4_carries t3 x).bind fun y6 => if (zr y6) then (if y6 ≠ 0 then ((d_X4_neededBars t3 t8 ks x).bind fun y9 => some (y9, t3, t8)) else some ((-3), t3, t8)) else none := by
      unfold d_X11_needs
      rw [e_isCase4 hc, Option.bind_some, if_pos q, if_pos (by decide), if_pos (by decide), a1, Option.bind_some]
    have mo0 : d_X12_needs s7 x = (d_X12_doesStand s2).bind fun y8 => if (zr y8) then (if y8 ≠ 0 then ((d_X12_needs_36 x zF 0 0 s2).bind fun y25 => some (y25.1, y25.2.2)) else some ((-3), s2)) else none := by
      unfold d_X12_needs
      rw [e_isCase7 hc, Option.bind_some, if_pos q, if_pos (by decide), if_pos (by decide), if_pos (by omega), Int.toNat_natCast, two_pow, b1, Option.bind_some, b2, Option.bind_some]
    rw [cl0, mo0]
    rcases e_carries K x6 with ⟨a, b⟩ | ⟨a, b⟩
    · rcases e_stM R' hB hF h with ⟨a', b'⟩ | ⟨a', b'⟩
      · rw [a, a', Option.bind_some, Option.bind_some, if_pos (by decide), if_pos (by decide), if_pos (by decide), if_pos (by decide)]
        have K2 : NK t3 t8 ks s2 B F := ⟨R2, by rw [f.2 25 (by decide)]; exact hB, by rw [f.2 21 (by decide)]; exact hF, h11, h5, H⟩
        obtain ⟨z, z', nd, s', k1, k2, k3⟩ := e_needb K2 x6 b' (fun i hi => by rw [h.2.2.2.1 i hi, lsm_one x6]; exact (r10 x i x6 hi).1) B 0 zF 0 s2 (by omega) (by unfold zF; omega) (by decide) (Fr_refl _ _ _)
        rw [show ((0 : Nat) : Int) = 0 from rfl] at k1 k2
        unfold d_X4_neededBars
        rw [k1, k2, Option.bind_some, Option.bind_some, Option.bind_some]
        have f2 : Fr [22, 23, 24, 25, 26] [33] s7 s' := Fr_trans f (Fr_mono (by decide) (by decide) k3)
        exact ⟨_, _, _, _, rfl, rfl, ND_fr R' f2, NC_fr C' f2, f2⟩
      · exact absurd (sb.mpr b) b'
    · rcases e_stM R' hB hF h with ⟨a', b'⟩ | ⟨a', b'⟩
      · exact absurd (sb.mp b') b
      · rw [a, a', Option.bind_some, Option.bind_some, if_pos (by decide), if_neg (by decide), if_pos (by decide), if_neg (by decide)]
        exact ⟨_, _, _, _, rfl, rfl, R2, NC_fr C' f, f⟩
  · have cl : d_X11_needs s0 s3 s8 ks c = some (-1, s3, s8) := by
      unfold d_X11_needs
      rw [e_isCase4 hc, Option.bind_some, if_neg q, if_pos (by decide), if_neg (by decide)]
    have mo : d_X12_needs s7 c = some (-1, s7) := by
      unfold d_X12_needs
      rw [e_isCase7 hc, Option.bind_some, if_neg q, if_pos (by decide), if_neg (by decide)]
    exact ⟨_, _, _, _, cl, mo, R, C, Fr_refl _ _ _⟩
