/-! the net: reckon -/
theorem e_reckon {s3 s8 s7 : zZ} {ks : List Int} (R : ND s3 s8 ks s7) (C : NC s3 s8 s7) : ∃ s3' s8', d_X4_reckon s3 s8 ks = some (s3', s8') ∧ ND s3' s8' ks s7 ∧ NC s3' s8' s7 ∧ s3' 0 10 = 0 ∧ (∀ q, q ≠ 0 → q < 13 → s3' q = s3 q) ∧ (∀ d i, i ≠ 5 → s8' d i = s8 d i) := by
  have hR := R
  obtain ⟨r1, r2, r3, r4, r5, r6, r7, r8, r9, r10, r11, r12, r13⟩ := hR
  unfold d_X4_reckon
  by_cases ch : s3 0 10 = 0
  · rw [if_pos (by omega), if_neg (by omega)]
    exact ⟨_, _, rfl, R, C, ch, fun _ _ _ => rfl, fun _ _ _ => rfl⟩
  · rw [if_pos (by omega), if_pos ch]
    obtain ⟨B, hB⟩ : ∃ B : Nat, s7 0 25 = B := ⟨(s7 0 25).toNat, by omega⟩
    obtain ⟨fr, hfr⟩ : ∃ f : Nat, s7 0 21 = f := ⟨(s7 0 21).toNat, by omega⟩
    have tB : (s7 0 25).toNat = B := by omega
    have tf : (s7 0 21).toNat = fr := by omega
    obtain ⟨z, t8, g1, g2, g3⟩ := e_gc R B 0 zF s8 (by omega) (by unfold zF; omega) (fun _ _ _ => rfl) (fun d hd => by omega)
    rw [tB] at g1
    have g1' : d_X4_giveColumns_4 s3 ks zF 0 0 s8 = some (((cn s8 B : Nat) : Int), z, t8) := g1
    unfold d_X4_giveColumns
    rw [g1', Option.bind_some, Option.bind_some]
    dsimp only
    have cB := cn_le s8 B
    have R11 : ND (upz s3 0 11 ((cn s8 B : Nat) : Int)) s8 ks s7 := ND_11 R
    have u5 : upz s3 0 11 ((cn s8 B : Nat) : Int) 0 5 = fr := by rw [upz_at, if_pos rfl, if_neg (by decide)]; omega
    have u11 : upz s3 0 11 ((cn s8 B : Nat) : Int) 0 11 = ((cn s8 B : Nat) : Int) := upz_hit _ _ _ _
    have R11' := R11
    obtain ⟨_, _, _, _, _, _, _, _, _, _, q11, _, _⟩ := R11'
    obtain ⟨s1, a1, a2, a3⟩ := e_beginf q11.1 q11.2.1 q11.2.2 (n := 2 * fr) (c := cn s8 B + 6) (by omega) (by omega)
    rw [u5, u11, show (2 * (fr : Int)) = ((2 * fr : Nat) : Int) by omega, show (((cn s8 B : Nat) : Int) + 6) = ((cn s8 B + 6 : Nat) : Int) by omega, a1, Option.bind_some]
    obtain ⟨z2, s2, b1, b2, b3⟩ := e_rk38 R11 g2 g3 (n := 2 * fr) (c := cn s8 B + 6) (k := 0) (by omega) (by rw [tB]; omega) B 0 zF s1 (by omega) (by unfold zF; omega) (fun q hq => a3 q (by omega)) (TSf_congr a2 (fun _ _ _ _ => rfl) (fun _ _ => rfl))
    rw [show ((0 : Nat) : Int) = 0 from rfl] at b1
    rw [b1, Option.bind_some]
    dsimp only
    rw [tB] at b2
    obtain ⟨z3, s4, c1, c2, c3⟩ := e_rk76 R11 (s8' := t8) (cr := cn s8 B) u11 (n := 2 * fr) (k := 0) (by omega) (T := Tb (upz s3 0 11 ((cn s8 B : Nat) : Int)) s8 B) 6 0 zF s2 (by omega) (by unfold zF; omega) (fun q hq => by rw [b3 q (by omega)]; exact a3 q (by omega)) (TSf_congr b2 (fun r j _ _ => by rw [if_neg (by omega), Int.add_zero]) (fun _ _ => rfl))
    rw [show ((0 : Nat) : Int) = 0 from rfl] at c1
    rw [c1, Option.bind_some]
    dsimp only
    have s411 : s4 0 11 = ((cn s8 B : Nat) : Int) := by rw [c3 0 (by omega), b3 0 (by omega), a3 0 (by omega)]; exact u11
    rw [s411]
    obtain ⟨s5, d1, d2, d3⟩ := e_clearf (n := 2 * fr) (c := cn s8 B + 6) (ld := cn s8 B) (by omega) (by omega) (by omega) (st0 := (0, 1, T0f (upz s3 0 11 ((cn s8 B : Nat) : Int)) s8 B, fun _ => -1)) (T0f_ok R11 hB (by omega)) (s := s4) c2
    rw [d1, Option.bind_some]
    have low : ∀ q, q < 13 ∨ 23 < q → s5 q = upz s3 0 11 ((cn s8 B : Nat) : Int) q := fun q hq => by rw [d3 q (by omega), c3 q (by omega), b3 q (by omega), a3 q (by omega)]
    have un : ∀ q, q ≠ 0 → upz s5 0 10 0 q = s5 q := fun q hq => upz_ne _ _ _ _ hq
    have ev : ∀ q, q ≠ 0 → (q < 13 ∨ 23 < q) → upz s5 0 10 0 q = s3 q := fun q h0 hq => by rw [un q h0, low q hq, upz_ne _ _ _ _ h0]
    have e0 : ∀ j, j ≠ 10 → j ≠ 11 → upz s5 0 10 0 0 j = s3 0 j := fun j h1 h2 => by rw [upz_at, if_pos rfl, if_neg h1, low 0 (by omega), upz_at, if_pos rfl, if_neg h2]
    have e11 : upz s5 0 10 0 0 11 = ((cn s8 B : Nat) : Int) := by rw [upz_at, if_pos rfl, if_neg (by decide), low 0 (by omega)]; exact u11
    have cc := cn_congr (s8 := s8) (t := t8) (fun d => g2 d 4 (by decide))
    have TS' : TSf (upz s5 0 10 0) (2 * fr) (cn s8 B + 6) (clr (2 * fr) (0, 1, T0f (upz s3 0 11 ((cn s8 B : Nat) : Int)) s8 B, fun _ => -1) (cn s8 B)).1 (clr (2 * fr) (0, 1, T0f (upz s3 0 11 ((cn s8 B : Nat) : Int)) s8 B, fun _ => -1) (cn s8 B)).2.1 (clr (2 * fr) (0, 1, T0f (upz s3 0 11 ((cn s8 B : Nat) : Int)) s8 B, fun _ => -1) (cn s8 B)).2.2.1 (clr (2 * fr) (0, 1, T0f (upz s3 0 11 ((cn s8 B : Nat) : Int)) s8 B, fun _ => -1) (cn s8 B)).2.2.2 := by
      obtain ⟨h0, h1, h2, h4, h5, h6, h7, hp, ht, hl⟩ := d2
      refine ⟨h0, by rw [un 13 (by decide)]; exact h1, by rw [un 13 (by decide)]; exact h2, by rw [un 13 (by decide)]; exact h4, by rw [un 13 (by decide)]; exact h5, by rw [un 13 (by decide)]; exact h6, by rw [un 13 (by decide)]; exact h7, ?_, fun r j hr hj => ?_, by rw [un 23 (by decide)]; exact hl⟩
      · unfold PVf
        rw [un 14 (by decide)]
        exact hp
      · have := ht r j hr hj
        unfold tbf at this ⊢
        rw [un 14 (by decide), un _ (by omega)]
        exact this
    refine ⟨_, _, rfl, ?_, fun _ => ⟨?_, ?_, ?_⟩, upz_hit _ _ _ _, fun q h0 hq => ev q h0 (Or.inl hq), g2⟩
    · unfold ND
      rw [e0 4 (by decide) (by decide), e0 5 (by decide) (by decide), e0 7 (by decide) (by decide), ev 1 (by decide) (by omega), ev 2 (by decide) (by omega), ev 3 (by decide) (by omega), ev 4 (by decide) (by omega), ev 5 (by decide) (by omega), ev 24 (by decide) (by omega), upz_hit]
      refine ⟨r1, r2, r3, r4, r5, r6, r7, fun b hb => ?_, r9, fun c k hc hk => ?_, ⟨TS'.2.1, TS'.2.2.1, TS'.2.2.2.2.2.2.2.1⟩, ⟨r12.1, r12.2.1, ?_⟩, Or.inl rfl⟩
      · rw [g2 b 0 (by decide), g2 b 1 (by decide), g2 b 2 (by decide), g2 b 3 (by decide), g2 b 4 (by decide)]
        exact r8 b hb
      · rw [ev (7 + c) (by omega) (by omega)]
        exact r10 c k hc hk
      · unfold PVg
        rw [ev 25 (by decide) (by omega)]
        exact r12.2.2
    · rw [e11, tB, cc]
    · intro d hd
      rw [g3 d hd, g2 d 4 (by decide), cc]
    · rw [tB, tf, cc]
      have cg := clr_congr (n := 2 * fr) (J := cn s8 B + 6) (T := T0f (upz s3 0 11 ((cn s8 B : Nat) : Int)) s8 B) (T' := T0f (upz s5 0 10 0) t8 B) (fun r j _ hj => (T0f_congr (fun q h1 h2 => by rw [un q (by omega), low q (Or.inl h2)]) g2 B r j hj).symm) (k0 := 0) (Nat.zero_le _) (D0 := 1) (L0 := fun _ => -1) (cn s8 B) (by omega)
      rw [← cg.1, ← cg.2.1, ← cg.2.2.2]
      exact TSf_congr TS' cg.2.2.1 (fun _ _ => rfl)
