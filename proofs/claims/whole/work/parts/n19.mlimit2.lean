/-! the net: limit -/
theorem abs_prop {u d U D x y : Int} (hx : x ≠ 0) (hy : y ≠ 0) (e1 : x * u = y * U) (e2 : x * d = y * D) : ∃ a b : Int, 0 < a ∧ 0 < b ∧ a * (u.natAbs : Int) = b * (U.natAbs : Int) ∧ a * (d.natAbs : Int) = b * (D.natAbs : Int) := by
  refine ⟨x.natAbs, y.natAbs, by omega, by omega, ?_, ?_⟩
  · rw [← Int.natCast_mul, ← Int.natCast_mul, ← Int.natAbs_mul, ← Int.natAbs_mul, e1]
  · rw [← Int.natCast_mul, ← Int.natCast_mul, ← Int.natAbs_mul, ← Int.natAbs_mul, e2]
theorem cmp_iff {a b a' b' si sj ui di uj dj Ui Uj D : Int} (ha : 0 < a) (hb : 0 < b) (ha' : 0 < a') (hb' : 0 < b') (hD : 0 < D) (e1 : a * ui = b * Ui) (e2 : a * di = b * D) (e3 : a' * uj = b' * Uj) (e4 : a' * dj = b' * D) : si * di * uj ≤ sj * dj * ui ↔ si * Uj ≤ sj * Ui := by
  have p : 0 < a * a' := Int.mul_pos ha ha'
  have p2 : 0 < b * b' * D := Int.mul_pos (Int.mul_pos hb hb') hD
  have k1 : a * a' * (si * di * uj) = b * b' * D * (si * Uj) := by
    have : a * a' * (si * di * uj) = si * (a * di) * (a' * uj) := by grind
    rw [this, e2, e3]
    grind
  have k2 : a * a' * (sj * dj * ui) = b * b' * D * (sj * Ui) := by
    have : a * a' * (sj * dj * ui) = sj * (a' * dj) * (a * ui) := by grind
    rw [this, e4, e1]
    grind
  constructor
  · intro h
    have := Int.mul_le_mul_of_nonneg_left h (Int.le_of_lt p)
    rw [k1, k2] at this
    exact Int.le_of_mul_le_mul_left this p2
  · intro h
    have := Int.mul_le_mul_of_nonneg_left h (Int.le_of_lt p2)
    rw [← k1, ← k2] at this
    exact Int.le_of_mul_le_mul_left this p
def HL (s3 s8 : zZ) (ks : List Int) (s7 : zZ) (B c : Nat) (D : Int) (U u d : Nat → Int) : Prop := (s3 0 7 = B ∧ s3 5 0 = B ∧ s7 0 25 = B ∧ B ≤ 16 ∧ ks.length = B) ∧ D ≠ 0 ∧ wi D 100000000 ∧ s3 13 7 = D ∧ ∀ b, b < B → d_X4_upperPush s3 s8 ks c b = some (U b) ∧ d_X12_upOf s7 b = some (u b) ∧ d_X12_downOf s7 b = some (d b) ∧ wi (u b) 300000000 ∧ wi (d b) 25000000 ∧ d b ≠ 0 ∧ wi (U b) 900000000 ∧ (∃ x y : Int, x ≠ 0 ∧ y ≠ 0 ∧ x * u b = y * U b ∧ x * d b = y * D) ∧ s8 b 3 = s7 19 b ∧ 1 ≤ s7 19 b ∧ s7 19 b ≤ 999 ∧ s8 b 0 = b
def RLm (s7 : zZ) (B : Nat) (U u d : Nat → Int) (first fsz best bu bd : Int) : Prop := (first = -1 ∧ best = -9) ∨ ∃ i : Nat, i < B ∧ first = i ∧ best = i ∧ fsz = ((U i).natAbs : Int) ∧ U i ≠ 0 ∧ bu = s7 19 i * ((d i).natAbs : Int) ∧ bd = ((u i).natAbs : Int)
theorem wi_abs {x X : Int} (h : wi x X) : 0 ≤ (x.natAbs : Int) ∧ (x.natAbs : Int) ≤ X := by
  have h1 := h.1
  have h2 := h.2
  omega
theorem mul_rg {a b A B : Int} (ha : 0 ≤ a ∧ a ≤ A) (hb : 0 ≤ b ∧ b ≤ B) : 0 ≤ a * b ∧ a * b ≤ A * B := ⟨Int.mul_nonneg ha.1 hb.1, Int.mul_le_mul ha.2 hb.2 hb.1 (Int.le_trans ha.1 ha.2)⟩
theorem e_lim {s3 s8 s7 : zZ} {ks : List Int} {B c : Nat} {D : Int} {U u d : Nat → Int} (H : HL s3 s8 ks s7 B c D U u d) {wh : Int} : ∀ (m b f : Nat), b + m = B → m + 1 ≤ f → ∀ first fsz best bu bd : Int, RLm s7 B U u d first fsz best bu bd → ∃ z z' first' fsz' best' bu' bd', d_X4_limitOf_8 s3 s8 ks c wh f first fsz b = some (first', fsz', z) ∧ d_X12_limit_45 s7 c wh f best bu bd b = some (best', bu', bd', z') ∧ RLm s7 B U u d first' fsz' best' bu' bd' := by
  obtain ⟨⟨h1, h2, h3, h4, h5⟩, hD, hDr, h6, G⟩ := H
  intro m
  induction m with
  | zero =>
    intro b f hb hf first fsz best bu bd L
    obtain ⟨f, rfl⟩ : ∃ g, f = g + 1 := ⟨f - 1, by omega⟩
    unfold d_X4_limitOf_8 d_X12_limit_45
    rw [h1, h3, if_pos (by omega), if_pos (by omega), if_pos (by omega), if_pos (by omega)]
    exact ⟨_, _, _, _, _, _, _, rfl, rfl, L⟩
  | succ m ih =>
    intro b f hb hf first fsz best bu bd L
    obtain ⟨f, rfl⟩ : ∃ g, f = g + 1 := ⟨f - 1, by omega⟩
    have hbB : b < B := by omega
    obtain ⟨g1, g2, g3, g4, g5, g6, g7, ⟨x, y, g8, g9, g10, g11⟩, g12, g13, g14, g15⟩ := G b hbB
    have a4 := wi_abs g4
    have a5 := wi_abs g5
    have a7 := wi_abs g7
    have u4 := g4; have u5 := g5; have u7 := g7
    unfold wi at u4 u5 u7
    have e3 : ((b : Int) + 1) = ((b + 1 : Nat) : Int) := by omega
    have nx := ih (b + 1) f (by omega) (by omega)
    have uz : u b = 0 ↔ U b = 0 := by
      constructor
      · intro q
        rw [q, Int.mul_zero] at g10
        exact (Int.mul_eq_zero.mp g10.symm).resolve_left g9
      · intro q
        rw [q, Int.mul_zero] at g10
        exact (Int.mul_eq_zero.mp g10).resolve_left g8
    have me : RLm s7 B U u d b ((U b).natAbs : Int) b (s7 19 b * ((d b).natAbs : Int)) ((u b).natAbs : Int) ∨ U b = 0 := by
      by_cases q : U b = 0
      · exact Or.inr q
      · exact Or.inl (Or.inr ⟨b, hbB, rfl, rfl, rfl, q, rfl, rfl⟩)
    have mo0 : d_X12_limit_45 s7 c wh (f + 1) best bu bd b = if (((u b).natAbs : Nat) : Int) = 0 then (d_X12_limit_45 s7 c wh f best bu bd ((b + 1 : Nat) : Int)) else (if (zr best) then (if best = (-9) then (d_X12_limit_45 s7 c wh f b ((s7 19 b) * (((d b).natAbs : Nat) : Int)) (((u b).natAbs : Nat) : Int) ((b + 1 : Nat) : Int)) else (if (zrl (((s7 19 b) * (((d b).natAbs : Nat) : Int)) * bd) ∧ zrl (bu * (((u b).natAbs : Nat) : Int))) then (if (bu * (((u b).natAbs : Nat) : Int)) ≤ (((s7 19 b) * (((d b).natAbs : Nat) : Int)) * bd) then (d_X12_limit_45 s7 c wh f best bu bd ((b + 1 : Nat) : Int)) else (d_X12_limit_45 s7 c wh f b ((s7 19 b) * (((d b).natAbs : Nat) : Int)) (((u b).natAbs : Nat) : Int) ((b + 1 : Nat) : Int))) else none)) else none) := by
      rw [d_X12_limit_45, h3, e3, Int.toNat_natCast, if_pos (by omega), if_neg (by omega), if_pos (by omega), if_pos (by omega), g3, Option.bind_some, e_size (by omega), Option.bind_some, g2, Option.bind_some, e_size (by omega), Option.bind_some, if_pos (by omega)]
    rw [mo0, d_X4_limitOf_8, h1, h2, e3, Int.toNat_natCast, if_pos (by omega), if_neg (by omega), if_pos (by omega), g1, Option.bind_some, e_abs (by omega), Option.bind_some, if_pos (by omega)]
    by_cases q : U b = 0
    · rw [if_pos (by omega), if_pos (by have := uz.mpr q; omega)]
      exact nx _ _ _ _ _ L
    · have uq : u b ≠ 0 := fun h => q (uz.mp h)
      have me := me.resolve_right q
      rw [if_neg (by omega)]
      rcases L with ⟨l1, l2⟩ | ⟨i, i1, i2, i3, i4, i5, i6, i7⟩
      · rw [l1, l2, if_pos (by decide), if_pos (by omega), if_neg (by omega), if_pos (by decide), if_pos rfl]
        exact nx _ _ _ _ _ me
      · have L' : RLm s7 B U u d first fsz best bu bd := Or.inr ⟨i, i1, i2, i3, i4, i5, i6, i7⟩
        obtain ⟨k1, k2, k3, k4, k5, k6, k7, ⟨x', y', k8, k9, k10, k11⟩, k12, k13, k14, k15⟩ := G i i1
        obtain ⟨α, β, c1, c2, c3, c4⟩ := abs_prop g8 g9 g10 g11
        obtain ⟨α', β', d1, d2, d3, d4⟩ := abs_prop k8 k9 k10 k11
        have iff := cmp_iff (si := s7 19 i) (sj := s7 19 b) d1 d2 c1 c2 (show 0 < (D.natAbs : Int) by omega) d3 d4 c3 c4
        have b4 := wi_abs k4
        have b5 := wi_abs k5
        have b7 := wi_abs k7
        have m1 := mul_rg (a := s7 19 b) (A := 999) ⟨by omega, g14⟩ b7
        have m2 := mul_rg (a := s7 19 i) (A := 999) ⟨by omega, k14⟩ a7
        have m3 := mul_rg (mul_rg (a := s7 19 b) (A := 999) ⟨by omega, g14⟩ a5) b4
        have m4 := mul_rg (mul_rg (a := s7 19 i) (A := 999) ⟨by omega, k14⟩ b5) a4
        rw [if_neg (by omega), if_pos (by omega), if_pos (by omega), g12, if_pos (by omega), i2, Int.toNat_natCast, if_pos (by omega), k12, if_pos (by omega), i4, if_pos (by omega)]
        by_cases w : s7 19 i * ((U b).natAbs : Int) ≤ s7 19 b * ((U i).natAbs : Int)
        · rw [if_pos w, if_neg (by omega), i3, if_pos (by omega), if_neg (by omega), i6, i7, if_pos (by omega), if_pos (iff.mpr w)]
          rw [i2, i3, i4, i6, i7] at L'
          exact nx _ _ _ _ _ L'
        · rw [if_neg w, if_pos (by omega), if_neg (by omega), i3, if_pos (by omega), if_neg (by omega), i6, i7, if_pos (by omega), if_neg (fun h => w (iff.mp h))]
          exact nx _ _ _ _ _ me
theorem e_limitOf {s3 s8 s7 : zZ} {ks : List Int} {B c : Nat} {D : Int} {U u d : Nat → Int} (H : HL s3 s8 ks s7 B c D U u d) {wh : Int} (hw : 0 ≤ wh ∧ wh ≤ 2) : ∃ r, d_X4_limitOf s3 s8 ks c wh = some r ∧ ((d_X12_limit_45 s7 c wh zF (-9) 0 1 0).bind fun y28 => if (zr y28.1) then (if y28.1 = (-9) then (if zr y28.1 then some (y28.1, s7) else none) else (if (zr wh) then (if wh ≠ 2 then ((d_X12_part y28.2.1 y28.2.2.1 wh).bind fun y33 => some (y33, s7)) else (if zr y28.1 then some (y28.1, s7) else none)) else none)) else none) = some (r, s7) := by
  have H' := H
  obtain ⟨⟨h1, h2, h3, h4, h5⟩, hD, hDr, h6, G⟩ := H'
  obtain ⟨z, z', first, fsz, best, bu, bd, a1, a2, a3⟩ := e_lim H (wh := wh) B 0 zF (by omega) (by unfold zF; omega) (-1) 0 (-9) 0 1 (Or.inl ⟨rfl, rfl⟩)
  rw [show ((0 : Nat) : Int) = 0 from rfl] at a1 a2
  have hz : zr wh := by omega
  unfold d_X4_limitOf
  rw [a1, a2, Option.bind_some, Option.bind_some]
  dsimp only
  clear a1 a2
  rcases a3 with ⟨l1, l2⟩ | ⟨i, i1, i2, i3, i4, i5, i6, i7⟩
  · rw [l1, l2, if_pos (by decide), if_pos (by decide), if_pos rfl, if_pos (by decide)]
    exact ⟨_, rfl, rfl⟩
  · obtain ⟨g1, g2, g3, g4, g5, g6, g7, ⟨x, y, g8, g9, g10, g11⟩, g12, g13, g14, g15⟩ := G i i1
    have a4 := wi_abs g4
    have a5 := wi_abs g5
    have a7 := wi_abs g7
    have aD := wi_abs hDr
    have m1 := mul_rg (a := s7 19 i) (A := 999) ⟨by omega, g14⟩ a5
    have m2 := mul_rg (a := s7 19 i) (A := 999) ⟨by omega, g14⟩ aD
    unfold wi at hDr
    have uq : u i ≠ 0 := by
      intro q
      rw [q, Int.mul_zero] at g10
      exact i5 ((Int.mul_eq_zero.mp g10.symm).resolve_left g9)
    rw [i2, i3, i4, i6, i7, Int.toNat_natCast, g12, g15, if_neg (by omega), if_pos hz]
    by_cases w : wh = 2
    · rw [if_neg (fun h => h w), if_pos (by omega), if_pos (by omega), if_pos (by omega), if_neg (by omega), if_pos hz, if_neg (fun h => h w), if_pos (by omega)]
      exact ⟨_, rfl, rfl⟩
    · rw [if_pos w, if_pos (by omega), if_pos (by omega), if_pos (by omega), if_neg (by omega), if_pos hz, if_pos w]
      unfold d_X4_lowerPush
      obtain ⟨α, β, c1, c2, c3, c4⟩ := abs_prop g8 g9 g10 g11
      rw [Option.bind_some, h6, e_abs (by omega), Option.bind_some, e_least (by omega) (by omega) (by omega) hz, Option.bind_some, e_part (by omega) (by omega) (by omega) hz, Option.bind_some]
      have e := zlt_prop (u := s7 19 i * ((d i).natAbs : Int)) (d := ((u i).natAbs : Int)) (U := s7 19 i * (D.natAbs : Int)) (D := ((U i).natAbs : Int)) (x := α) (y := β) (w := wh) (by omega) (by omega) (by omega) (by omega) (by rw [Int.mul_left_comm, c4, Int.mul_left_comm]) c3
      rw [e]
      exact ⟨_, rfl, rfl⟩
theorem m_limit {s0 s3 s8 s7 : zZ} {ks : List Int} {c wh : Int} (hc : zr c) (hw : zr wh) (R : ND s3 s8 ks s7) (C : NC s3 s8 s7) : ∃ r s3' s8' s7', d_X11_limit s0 s3 s8 ks c wh = some (r, s3', s8') ∧ d_X12_limit s7 c wh = some (r, s7') ∧ ND s3' s8' ks s7' ∧ NC s3' s8' s7' ∧ Fr [22, 23, 24, 25, 26] [33] s7 s7' := by
  obtain ⟨t3, t8, B, F, a1, K, C', _, _⟩ := e_rk R C
  have K' := K
  obtain ⟨R', hB, hF, h11, h5, H⟩ := K'
  have r2 := R'.2.1
  have r3 := R'.2.2.1
  have cl0 : d_X11_limit s0 s3 s8 ks c wh = if (0 ≤ c ∧ c < 6) ∧ (0 ≤ wh ∧ wh ≤ 2) then ((d_X4_isTold t3 c).bind fun y8 => if (zr y8) then (if y8 ≠ 0 then ((d_X4_limitOf t3 t8 ks c wh).bind fun y11 => some (y11, t3, t8)) else some ((-9223372036854775808), t3, t8)) else none) else some (-9223372036854775808, t3, t8) := by
    unfold d_X11_limit
    rw [a1, Option.bind_some, e_isCase4 hc, Option.bind_some]
    by_cases qc : 0 ≤ c ∧ c < 6
    · rw [if_pos qc, if_pos (by decide), if_neg (by decide), if_pos hw]
      by_cases w : wh < 0
      · rw [if_pos w, if_neg (fun h => by omega)]
      · rw [if_neg w, if_pos hw]
        by_cases w2 : 2 < wh
        · rw [if_pos w2, if_neg (fun h => by omega)]
        · rw [if_neg w2, if_pos ⟨qc, by omega, by omega⟩]
    · rw [if_neg qc, if_pos (by decide), if_pos rfl, if_neg (fun h => qc h.1)]
  have mo0 : d_X12_limit s7 c wh = if (0 ≤ c ∧ c < 6) ∧ (0 ≤ wh ∧ wh ≤ 2) then ((d_X12_isTold s7 ((2 : Int) ^ c.toNat)).bind fun y7 => if (zr y7.1) then (if y7.1 ≠ 0 then ((d_X12_limit_45 y7.2 c wh zF (-9) 0 1 0).bind fun y28 => if (zr y28.1) then (if y28.1 = (-9) then (if zr y28.1 then some (y28.1, y7.2) else none) else (if (zr wh) then (if wh ≠ 2 then ((d_X12_part y28.2.1 y28.2.2.1 wh).bind fun y33 => some (y33, y7.2)) else (if zr y28.1 then some (y28.1, y7.2) else none)) else none)) else none) else some ((-9223372036854775808), y7.2)) else none) else some (-9223372036854775808, s7) := by
    unfold d_X12_limit
    rw [e_isCase7 hc, Option.bind_some]
    by_cases qc : 0 ≤ c ∧ c < 6
    · rw [if_pos qc, if_pos (by decide), if_neg (by decide), if_pos hw, e_X12_within (by omega), Option.bind_some]
      by_cases qw : 0 ≤ wh ∧ wh ≤ 2
      · rw [if_pos qw, if_pos (by decide), if_neg (by decide), if_pos (by omega), if_pos ⟨qc, qw⟩]
      · rw [if_neg qw, if_pos (by decide), if_pos rfl, if_neg (fun h => qw h.2)]
    · rw [if_neg qc, if_pos (by decide), if_pos rfl, if_neg (fun h => qc h.1)]
  rw [cl0, mo0]
  by_cases qq : (0 ≤ c ∧ c < 6) ∧ (0 ≤ wh ∧ wh ≤ 2)
  · obtain ⟨qc, qw⟩ := qq
    obtain ⟨x, rfl⟩ : ∃ x : Nat, c = x := ⟨c.toNat, by omega⟩
    have x6 : x < 6 := by omega
    obtain ⟨t, s2, b1, h, b2, ex⟩ := e_toldM R' hB hF (p2c x x6)
    have f := RN_fr h
    have R2 := ND_fr R' f
    have g := XN_rng R' hB (n := 2 * F) (by omega)
    rw [if_pos ⟨qc, qw⟩, if_pos ⟨qc, qw⟩, Int.toNat_natCast, two_pow, b1, Option.bind_some]
    dsimp only
    rcases e_toldC K x6 with ⟨a, b⟩ | ⟨a, b⟩
    · rcases b2 with ⟨rfl, _⟩ | ⟨_, b2⟩
      · have M := e_runf R' hB hF x6 ex
        have HH : HL t3 t8 ks s2 B x (XN t3 t8 B (2 * F)).2.1 (upC t3 t8 B (2 * F) x) (fun b => (d_X12_upOf s2 b).getD 0) (fun b => (d_X12_downOf s2 b).getD 0) := by
          have r3' := R2.2.2.1
          refine ⟨⟨by omega, by omega, by rw [f.2 25 (by decide)]; exact hB, by omega, by omega⟩, g.2.2.1, g.2.2.2.1, H.2.2.2.2.2.2.1, fun b hb => ?_⟩
          have e1 : Bdf B B = 300000000 := if_neg (Nat.lt_irrefl _)
          have e2 : Bdf B b = 25000000 := if_pos hb
          obtain ⟨u, d, u1, u2, ⟨x', y', u3, u4, u5, u6⟩, u7, u8, u9⟩ := e_updown_ R' hB hF (by rw [f.2 25 (by decide)]; exact hB) h.2.1 M hb (by rw [e1]; decide) (by rw [e2]; decide)
          rw [tot_bit (f := fun c => upC t3 t8 B (2 * F) c b) x6] at u5
          rw [e1] at u7
          rw [e2] at u8
          have r8 := R2.2.2.2.2.2.2.2.1 b (by rw [f.2 25 (by decide)]; omega)
          have gu : (d_X12_upOf s2 b).getD 0 = u := by rw [u1]; rfl
          have gd : (d_X12_downOf s2 b).getD 0 = d := by rw [u2]; rfl
          dsimp only
          rw [gu, gd]
          exact ⟨e_upperPush K x6 hb, u1, u2, u7, u8, u9, upC_rng R' hB (by omega) hb x6, ⟨x', y', u3, u4, u5, u6⟩, r8.2.2.2.2.2.1.1, r8.2.2.2.2.2.1.2.1, r8.2.2.2.2.2.1.2.2, r8.2.1⟩
        obtain ⟨r, l1, l2⟩ := e_limitOf HH qw
        rw [a, Option.bind_some, if_pos (by decide), if_pos (by decide), if_pos (by decide), if_pos (by decide), l1, Option.bind_some, l2]
        exact ⟨_, _, _, _, rfl, rfl, R2, NC_fr C' f, f⟩
      · exact absurd b b2
    · rcases b2 with ⟨_, b2⟩ | ⟨rfl, _⟩
      · exact absurd b2 b
      · rw [a, Option.bind_some, if_pos (by decide), if_neg (by decide), if_pos (by decide), if_neg (by decide)]
        exact ⟨_, _, _, _, rfl, rfl, R2, NC_fr C' f, f⟩
  · rw [if_neg qq, if_neg qq]
    exact ⟨_, _, _, _, rfl, rfl, R', C', Fr_refl _ _ _⟩
