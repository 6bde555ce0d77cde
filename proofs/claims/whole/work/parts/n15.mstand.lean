/-! the net: net, stands, push -/
theorem NC_fr {s3 s8 s7 s : zZ} (C : NC s3 s8 s7) (h : Fr [22, 23, 24, 25, 26] [33] s7 s) : NC s3 s8 s := by
  unfold NC at *
  rw [h.2 25 (by decide), h.2 21 (by decide)]
  exact C
def RN (s3 s8 : zZ) (B F set : Nat) (s7 s2 : zZ) : Prop := s2 0 33 = (XN s3 s8 B (2 * F)).1 ∧ (∀ b, b < B → s2 23 b = if s8 b 4 = 0 then lv (XN s3 s8 B (2 * F)).2.2.2 (cn s8 b) else -9) ∧ RMs s2 (2 * F) (B + 1) (Tm s8 B set (XN s3 s8 B (2 * F)).2.2.1) (Bdn B) ∧ (∀ i, i < 8 → s2 24 i = lsm s7 set i 6) ∧ Fr [22, 23, 24] [33] s7 s2
theorem RN_fr {s3 s8 s7 s2 : zZ} {B F set : Nat} (h : RN s3 s8 B F set s7 s2) : Fr [22, 23, 24, 25, 26] [33] s7 s2 := Fr_mono (by decide) (by decide) h.2.2.2.2
def stB (s3 s8 : zZ) (B F set : Nat) : Prop := ∀ i, (XN s3 s8 B (2 * F)).1 ≤ i → i < 2 * F → Tm s8 B set (XN s3 s8 B (2 * F)).2.2.1 i B = 0
theorem e_stM {s3 s8 s7 s2 : zZ} {ks : List Int} (R : ND s3 s8 ks s7) {B F set : Nat} (hB : s7 0 25 = B) (hF : s7 0 21 = F) (h : RN s3 s8 B F set s7 s2) : (d_X12_doesStand s2 = some 1 ∧ stB s3 s8 B F set) ∨ (d_X12_doesStand s2 = some 0 ∧ ¬ stB s3 s8 B F set) := by
  have r2 := R.2.1
  have r3 := R.2.2.1
  have f := RN_fr h
  exact e_doesStand (by rw [f.2 25 (by decide)]; exact hB) (by omega) (by rw [f.2 21 (by decide)]; exact hF) (by omega) h.1 (XN_rng R hB (by omega)).1 h.2.2.1
theorem bit_one : ∀ c, c < 6 → ∀ x, x < 6 → (2 ^ c / 2 ^ x % 2 = 1 ↔ x = c) := by decide
theorem tot_bit {f : Nat → Int} {c : Nat} (hc : c < 6) : tot (fun x => if 2 ^ c / 2 ^ x % 2 = 1 then f x else 0) 6 = f c := by
  rw [tot_one (i := c) 6 hc (fun l hl h => if_neg (fun q => h ((bit_one c hc l hl).mp q)))]
  exact if_pos ((bit_one c hc c hc).mpr rfl)
theorem stB_one {s3 s8 : zZ} {B F c : Nat} (hc : c < 6) : stB s3 s8 B F (2 ^ c) ↔ ∀ i, (XN s3 s8 B (2 * F)).1 ≤ i → i < 2 * F → (XN s3 s8 B (2 * F)).2.2.1 i (cn s8 B + c) = 0 := by
  unfold stB Tm
  constructor
  · intro h i h1 h2
    have := h i h1 h2
    rw [if_neg (Nat.lt_irrefl _), tot_bit (f := fun c => (XN s3 s8 B (2 * F)).2.2.1 i (cn s8 B + c)) hc] at this
    exact this
  · intro h i h1 h2
    rw [if_neg (Nat.lt_irrefl _), tot_bit (f := fun c => (XN s3 s8 B (2 * F)).2.2.1 i (cn s8 B + c)) hc]
    exact h i h1 h2
theorem p2c : ∀ c, c < 6 → 2 ^ c < 64 := by decide
theorem two_pow {c : Nat} : (2 : Int) ^ c = ((2 ^ c : Nat) : Int) := by
  rw [Int.natCast_pow]
  rfl
theorem e_toldC {s3 s8 s7 : zZ} {ks : List Int} {B F : Nat} (K : NK s3 s8 ks s7 B F) {c : Nat} (hc : c < 6) : (d_X4_isTold s3 c = some 1 ∧ (XN s3 s8 B (2 * F)).1 = cn s8 B ∧ stB s3 s8 B F (2 ^ c)) ∨ (d_X4_isTold s3 c = some 0 ∧ ¬ ((XN s3 s8 B (2 * F)).1 = cn s8 B ∧ stB s3 s8 B F (2 ^ c))) := by
  have st := e_carries K hc
  have sb := stB_one (s3 := s3) (s8 := s8) (B := B) (F := F) hc
  obtain ⟨R, hB, hF, h11, h5, H⟩ := K
  have r2 := R.2.1
  have r3 := R.2.2.1
  have cB := cn_le s8 B
  have g := XN_rng R hB (n := 2 * F) (by omega)
  have k13 := H.2.2.2.2.2.1
  unfold d_X4_isTold d_X4_loose
  rw [Option.bind_some, h11, k13]
  by_cases q : (XN s3 s8 B (2 * F)).1 = cn s8 B
  · rw [if_pos (by omega), if_neg (by omega)]
    rcases st with ⟨a, b⟩ | ⟨a, b⟩
    · rw [a, Option.bind_some, if_pos (by decide), if_neg (by decide)]
      exact Or.inl ⟨rfl, q, sb.mpr b⟩
    · rw [a, Option.bind_some, if_pos (by decide), if_pos (by decide)]
      exact Or.inr ⟨rfl, fun h => b (sb.mp h.2)⟩
  · rw [if_pos (by omega), if_pos (by omega)]
    exact Or.inr ⟨rfl, fun h => q h.1⟩
theorem e_toldM {s3 s8 s7 : zZ} {ks : List Int} (R : ND s3 s8 ks s7) {B F set : Nat} (hB : s7 0 25 = B) (hF : s7 0 21 = F) (hs : set < 64) : ∃ t s2, d_X12_isTold s7 set = some (t, s2) ∧ RN s3 s8 B F set s7 s2 ∧ ((t = 1 ∧ (XN s3 s8 B (2 * F)).1 = cn s8 B ∧ stB s3 s8 B F set) ∨ (t = 0 ∧ ¬ ((XN s3 s8 B (2 * F)).1 = cn s8 B ∧ stB s3 s8 B F set))) ∧ ∃ s1, d_X12_carry s7 set = some s1 ∧ d_X12_layNet s1 (-9) = some s2 := by
  obtain ⟨s1, s2, a1, a2, a3⟩ := e_run R hB hF hs
  have h : RN s3 s8 B F set s7 s2 := a3
  have f := RN_fr h
  have mb := e_manyBars (ND_fr R f) (by rw [f.2 25 (by decide)]; exact hB)
  have r2 := R.2.1
  have r3 := R.2.2.1
  have cB := cn_le s8 B
  have g := XN_rng R hB (n := 2 * F) (by omega)
  unfold d_X12_isTold
  rw [a1, Option.bind_some, a2, Option.bind_some]
  rcases e_stM R hB hF h with ⟨a, b⟩ | ⟨a, b⟩
  · rw [a, Option.bind_some, if_pos (by decide), if_neg (by decide), mb, Option.bind_some, h.1, if_pos (by omega)]
    by_cases q : (XN s3 s8 B (2 * F)).1 = cn s8 B
    · rw [if_neg (by omega)]
      exact ⟨_, _, rfl, h, Or.inl ⟨rfl, q, b⟩, s1, rfl, a2⟩
    · rw [if_pos (by omega)]
      exact ⟨_, _, rfl, h, Or.inr ⟨rfl, fun w => q w.1⟩, s1, rfl, a2⟩
  · rw [a, Option.bind_some, if_pos (by decide), if_pos (by decide)]
    exact ⟨_, _, rfl, h, Or.inr ⟨rfl, fun w => b w.2⟩, s1, rfl, a2⟩
theorem m_net {s0 s3 s8 s7 : zZ} {ks : List Int} {wh : Int} (hw : zr wh) (R : ND s3 s8 ks s7) (C : NC s3 s8 s7) : ∃ r s3' s8' s7', d_X11_net s0 s3 s8 ks wh = some (r, s3', s8') ∧ d_X12_net s7 wh = some (r, s7') ∧ ND s3' s8' ks s7' ∧ NC s3' s8' s7' ∧ Fr [22, 23, 24, 25, 26] [33] s7 s7' := by
  obtain ⟨t3, t8, B, F, a1, K, C', _, _⟩ := e_rk R C
  have K' := K
  obtain ⟨R', hB, hF, h11, h5, H⟩ := K'
  have r2 := R'.2.1
  have k13 := H.2.2.2.2.2.1
  by_cases q : 0 ≤ wh ∧ wh ≤ 2
  · obtain ⟨s1, s2, b1, b2, b3⟩ := e_run R' hB hF (set := 0) (by decide)
    have h : RN t3 t8 B F 0 s7 s2 := b3
    have f := RN_fr h
    have R2 := ND_fr R' f
    have mb := e_manyBars R2 (by rw [f.2 25 (by decide)]; exact hB)
    rw [show ((0 : Nat) : Int) = 0 from rfl] at b1
    have mo : d_X12_net s7 wh = if wh ≠ 0 then (if wh ≠ 1 then some (((cn t8 B : Nat) : Int) - ((XN t3 t8 B (2 * F)).1 : Int), s2) else some (2 * s7 0 21 - ((XN t3 t8 B (2 * F)).1 : Int), s2)) else some (((XN t3 t8 B (2 * F)).1 : Int), s2) := by
      unfold d_X12_net
      rw [if_pos hw, e_X12_within (by omega), Option.bind_some, if_pos q, if_pos (by decide), if_pos (by decide), b1, Option.bind_some, b2, Option.bind_some, if_pos hw, if_pos hw, h.1, f.2 21 (by decide), mb, Option.bind_some]
    have cl : d_X11_net s0 s3 s8 ks wh = if wh = 0 then some (((XN t3 t8 B (2 * F)).1 : Int), t3, t8) else (if wh = 1 then some (2 * s7 0 21 - ((XN t3 t8 B (2 * F)).1 : Int), t3, t8) else (if wh = 2 then some (((cn t8 B : Nat) : Int) - ((XN t3 t8 B (2 * F)).1 : Int), t3, t8) else some (-2, t3, t8))) := by
      unfold d_X11_net d_X4_rank d_X4_moves d_X4_loose
      rw [a1, Option.bind_some, if_pos hw]
      dsimp only
      rw [k13, h11, r2.1, Option.bind_some, Option.bind_some, Option.bind_some]
    rw [mo, cl]
    by_cases w0 : wh = 0
    · rw [if_pos w0, if_neg (fun h => h w0)]
      exact ⟨_, _, _, _, rfl, rfl, R2, NC_fr C' f, f⟩
    · rw [if_neg w0, if_pos w0]
      by_cases w1 : wh = 1
      · rw [if_pos w1, if_neg (fun h => h w1)]
        exact ⟨_, _, _, _, rfl, rfl, R2, NC_fr C' f, f⟩
      · rw [if_neg w1, if_pos (by omega), if_pos w1]
        exact ⟨_, _, _, _, rfl, rfl, R2, NC_fr C' f, f⟩
  · have mo : d_X12_net s7 wh = some (-2, s7) := by
      unfold d_X12_net
      rw [if_pos hw, e_X12_within (by omega), Option.bind_some, if_neg q, if_pos (by decide), if_neg (by decide)]
    have cl : d_X11_net s0 s3 s8 ks wh = some (-2, t3, t8) := by
      unfold d_X11_net
      rw [a1, Option.bind_some, if_pos hw, if_neg (by omega), if_neg (by omega), if_neg (by omega)]
    exact ⟨_, _, _, _, cl, mo, R', C', Fr_refl _ _ _⟩
theorem m_stands {s0 s3 s8 s7 : zZ} {ks : List Int} {c : Int} (hc : zr c) (R : ND s3 s8 ks s7) (C : NC s3 s8 s7) : ∃ r s3' s8' s7', d_X11_stands s0 s3 s8 ks c = some (r, s3', s8') ∧ d_X12_stands s7 c = some (r, s7') ∧ ND s3' s8' ks s7' ∧ NC s3' s8' s7' ∧ Fr [22, 23, 24, 25, 26] [33] s7 s7' := by
  unfold d_X11_stands d_X12_stands
  rw [e_isCase4 hc, e_isCase7 hc, Option.bind_some, Option.bind_some]
  by_cases q : 0 ≤ c ∧ c < 6
  · obtain ⟨x, rfl⟩ : ∃ x : Nat, c = x := ⟨c.toNat, by omega⟩
    have x6 : x < 6 := by omega
    obtain ⟨t3, t8, B, F, a1, K, C', _, _⟩ := e_rk R C
    have K' := K
    obtain ⟨R', hB, hF, h11, h5, H⟩ := K'
    obtain ⟨s1, s2, b1, b2, b3⟩ := e_run R' hB hF (p2c x x6)
    have h : RN t3 t8 B F (2 ^ x) s7 s2 := b3
    have f := RN_fr h
    have R2 := ND_fr R' f
    have sb := stB_one (s3 := t3) (s8 := t8) (B := B) (F := F) x6
    rw [if_pos q, if_pos (by decide), if_pos (by decide), if_pos (by decide), if_pos (by decide), if_pos (by omega), a1, Option.bind_some, Int.toNat_natCast, two_pow, b1, Option.bind_some, b2, Option.bind_some]
    dsimp only
    rcases e_carries K x6 with ⟨a, b⟩ | ⟨a, b⟩
    · rcases e_stM R' hB hF h with ⟨a', b'⟩ | ⟨a', b'⟩
      · rw [a, a', Option.bind_some, Option.bind_some, if_pos (by decide), if_neg (by decide), if_pos (by decide), if_neg (by decide)]
        exact ⟨_, _, _, _, rfl, rfl, R2, NC_fr C' f, f⟩
      · exact absurd (sb.mpr b) b'
    · rcases e_stM R' hB hF h with ⟨a', b'⟩ | ⟨a', b'⟩
      · exact absurd (sb.mp b') b
      · rw [a, a', Option.bind_some, Option.bind_some, if_pos (by decide), if_pos (by decide), if_pos (by decide), if_pos (by decide)]
        exact ⟨_, _, _, _, rfl, rfl, R2, NC_fr C' f, f⟩
  · rw [if_neg q, if_pos (by decide), if_neg (by decide), if_pos (by decide), if_neg (by decide)]
    exact ⟨_, _, _, _, rfl, rfl, R, C, Fr_refl _ _ _⟩
theorem zlt_neg {u d w : Int} (hd : d ≠ 0) : zlt (-u) (-d) w = zlt u d w := by
  unfold zlt
  rw [Int.gcd_neg, Int.neg_gcd]
  by_cases h : 0 ≤ d
  · rw [if_neg (show ¬ (0 ≤ -d) by omega), if_pos h, Int.neg_tdiv_neg, Int.neg_tdiv_neg]
  · rw [if_pos (show 0 ≤ -d by omega), if_neg h, Int.neg_tdiv, Int.neg_tdiv, Int.tdiv_neg, Int.tdiv_neg]
theorem zlt_mul {t u d w : Int} (ht : t ≠ 0) (hd : d ≠ 0) : zlt (t * u) (t * d) w = zlt u d w := by
  have key : ∀ t : Int, 0 < t → zlt (t * u) (t * d) w = zlt u d w := by
    intro t ht
    unfold zlt
    have e : (Int.gcd (t * u) (t * d) : Int) = t * (Int.gcd u d : Int) := by
      rw [Int.gcd_mul_left, Int.natCast_mul, Int.natAbs_of_nonneg (by omega)]
    have s : (0 ≤ t * d) = (0 ≤ d) := by
      apply propext
      constructor
      · intro h
        rcases Int.lt_or_le d 0 with q | q
        · have := Int.mul_neg_of_pos_of_neg ht q
          omega
        · exact q
      · intro h
        exact Int.mul_nonneg (by omega) h
    rw [e]
    simp only [s]
    have n : - (t * (Int.gcd u d : Int)) = t * - (Int.gcd u d : Int) := (Int.mul_neg _ _).symm
    rw [n]
    by_cases h : 0 ≤ d
    · simp only [if_pos h]
      rw [Int.mul_tdiv_mul_of_pos _ _ ht, Int.mul_tdiv_mul_of_pos _ _ ht]
    · simp only [if_neg h]
      rw [Int.mul_tdiv_mul_of_pos _ _ ht, Int.mul_tdiv_mul_of_pos _ _ ht]
  rcases Int.lt_or_lt_of_ne ht with q | q
  · have h := key (-t) (by omega)
    rw [Int.neg_mul, Int.neg_mul, zlt_neg (mul_ne ht hd)] at h
    exact h
  · exact key t q
theorem zlt_prop {u d U D x y w : Int} (hx : x ≠ 0) (hy : y ≠ 0) (hd : d ≠ 0) (hD : D ≠ 0) (e1 : x * u = y * U) (e2 : x * d = y * D) : zlt u d w = zlt U D w := by
  rw [← zlt_mul hx hd, e1, e2, zlt_mul hy hD]
theorem m_push {s0 s3 s8 s7 : zZ} {ks : List Int} {c b wh : Int} (hc : zr c) (hb : zr b) (hw : zr wh) (R : ND s3 s8 ks s7) (C : NC s3 s8 s7) : ∃ r s3' s8' s7', d_X11_push s0 s3 s8 ks c b wh = some (r, s3', s8') ∧ d_X12_push s7 c b wh = some (r, s7') ∧ ND s3' s8' ks s7' ∧ NC s3' s8' s7' ∧ Fr [22, 23, 24, 25, 26] [33] s7 s7' := by
  have r3 := R.2.2.1
  obtain ⟨t3, t8, B, F, a1, K, C', _, _⟩ := e_rk R C
  have K' := K
  obtain ⟨R', hB, hF, h11, h5, H⟩ := K'
  have r2 := R'.2.1
  by_cases qb : 0 ≤ b ∧ b < s7 0 25
  · have cl0 : d_X11_push s0 s3 s8 ks c b wh = if (0 ≤ c ∧ c < 6) ∧ (0 ≤ wh ∧ wh ≤ 1) then ((d_X4_isTold t3 c).bind fun y18 => if (zr y18) then (if y18 ≠ 0 then ((d_X4_upperPush t3 t8 ks c b).bind fun y21 => (d_X4_lowerPush t3).bind fun y23 => (d_X11_inLeastTerms y21 y23 wh).bind fun y25 => some (y25, t3, t8)) else some ((-9223372036854775808), t3, t8)) else none) else some (-9223372036854775808, t3, t8) := by
      unfold d_X11_push
      rw [e_barOf R hb, Option.bind_some, if_pos qb, if_neg (by omega), a1, Option.bind_some, e_isCase4 hc, Option.bind_some]
      by_cases qc : 0 ≤ c ∧ c < 6
      · rw [if_pos qc, if_pos (by decide), if_neg (by decide), e_isHalf hw, Option.bind_some]
        by_cases qw : 0 ≤ wh ∧ wh ≤ 1
        · rw [if_pos qw, if_pos (by decide), if_neg (by decide), if_pos ⟨qc, qw⟩]
        · rw [if_neg qw, if_pos (by decide), if_pos rfl, if_neg (fun h => qw h.2)]
      · rw [if_neg qc, if_pos (by decide), if_pos rfl, if_neg (fun h => qc h.1)]
    have mo0 : d_X12_push s7 c b wh = if (0 ≤ c ∧ c < 6) ∧ (0 ≤ wh ∧ wh ≤ 1) then ((d_X12_isTold s7 ((2 : Int) ^ c.toNat)).bind fun y10 => if (zr y10.1) then (if y10.1 ≠ 0 then ((d_X12_upOf y10.2 b).bind fun y13 => (d_X12_downOf y10.2 b).bind fun y15 => (d_X12_part y13 y15 wh).bind fun y17 => some (y17, y10.2)) else some ((-9223372036854775808), y10.2)) else none) else some (-9223372036854775808, s7) := by
      unfold d_X12_push
      rw [e_isCase7 hc, Option.bind_some]
      by_cases qc : 0 ≤ c ∧ c < 6
      · rw [if_pos qc, if_pos (by decide), if_neg (by decide), e_isBar hb (by omega), Option.bind_some, if_pos qb, if_pos (by decide), if_neg (by decide), if_pos hw, e_X12_within (by omega), Option.bind_some]
        by_cases qw : 0 ≤ wh ∧ wh ≤ 1
        · rw [if_pos qw, if_pos (by decide), if_neg (by decide), if_pos (by omega), if_pos ⟨qc, qw⟩]
        · rw [if_neg qw, if_pos (by decide), if_pos rfl, if_neg (fun h => qw h.2)]
      · rw [if_neg qc, if_pos (by decide), if_pos rfl, if_neg (fun h => qc h.1)]
    rw [cl0, mo0]
    by_cases qq : (0 ≤ c ∧ c < 6) ∧ (0 ≤ wh ∧ wh ≤ 1)
    · obtain ⟨qc, qw⟩ := qq
      obtain ⟨x, rfl⟩ : ∃ x : Nat, c = x := ⟨c.toNat, by omega⟩
      obtain ⟨y, rfl⟩ : ∃ x : Nat, b = x := ⟨b.toNat, by omega⟩
      have x6 : x < 6 := by omega
      obtain ⟨t, s2, b1, h, b2, _⟩ := e_toldM R' hB hF (p2c x x6)
      have f := RN_fr h
      have R2 := ND_fr R' f
      have g := XN_rng R' hB (n := 2 * F) (by omega)
      have gu := upC_rng R' hB (n := 2 * F) (by omega) (show y < B by omega) x6
      have gd := g.2.2.2.1
      unfold wi at gu gd
      rw [if_pos ⟨qc, qw⟩, if_pos ⟨qc, qw⟩, Int.toNat_natCast, two_pow, b1, Option.bind_some]
      dsimp only
      rcases e_toldC K x6 with ⟨a, b⟩ | ⟨a, b⟩
      · rcases b2 with ⟨rfl, _⟩ | ⟨_, b2⟩
        · obtain ⟨u, d, u1, u2, ⟨x', y', u3, u4, u5, u6⟩, u7, u8, u9⟩ := e_updown R' hB hF (by rw [f.2 25 (by decide)]; exact hB) h.2.1 h.2.2.1 (show y < B by omega)
          unfold wi at u7 u8
          rw [tot_bit (f := fun c => upC t3 t8 B (2 * F) c y) x6] at u5
          rw [a, Option.bind_some, if_pos (by decide), if_pos (by decide), if_pos (by decide), if_pos (by decide), e_upperPush K x6 (by omega), Option.bind_some]
          unfold d_X4_lowerPush
          rw [Option.bind_some, H.2.2.2.2.2.2.1, e_least (by omega) (by omega) g.2.2.1 hw, Option.bind_some, u1, Option.bind_some, u2, Option.bind_some, e_part (by omega) (by omega) u9 hw, Option.bind_some, zlt_prop u3 u4 u9 g.2.2.1 u5 u6]
          exact ⟨_, _, _, _, rfl, rfl, R2, NC_fr C' f, f⟩
        · exact absurd b b2
      · rcases b2 with ⟨_, b2⟩ | ⟨rfl, _⟩
        · exact absurd b2 b
        · rw [a, Option.bind_some, if_pos (by decide), if_neg (by decide), if_pos (by decide), if_neg (by decide)]
          exact ⟨_, _, _, _, rfl, rfl, R2, NC_fr C' f, f⟩
    · rw [if_neg qq, if_neg qq]
      exact ⟨_, _, _, _, rfl, rfl, R', C', Fr_refl _ _ _⟩
  · have cl : d_X11_push s0 s3 s8 ks c b wh = some (-9223372036854775808, t3, t8) := by
      unfold d_X11_push
      rw [e_barOf R hb, Option.bind_some, if_neg qb, if_pos (by decide), a1, Option.bind_some, e_isCase4 hc, Option.bind_some]
      by_cases qc : 0 ≤ c ∧ c < 6
      · rw [if_pos qc, if_pos (by decide), if_neg (by decide)]
      · rw [if_neg qc, if_pos (by decide), if_pos rfl]
    have mo : d_X12_push s7 c b wh = some (-9223372036854775808, s7) := by
      unfold d_X12_push
      rw [e_isCase7 hc, Option.bind_some]
      by_cases qc : 0 ≤ c ∧ c < 6
      · rw [if_pos qc, if_pos (by decide), if_neg (by decide), e_isBar hb (by omega), Option.bind_some, if_neg qb, if_pos (by decide), if_pos rfl]
      · rw [if_neg qc, if_pos (by decide), if_pos rfl]
    exact ⟨_, _, _, _, cl, mo, R', C', Fr_refl _ _ _⟩
