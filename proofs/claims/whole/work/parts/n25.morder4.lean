/-! the net: order, at last -/
theorem e_oC {s s8 t : zZ} {ks : List Int} {set i : Nat} (hs : set < 64) (hi : i + 1 ≤ zpc 12 set) (r : ∀ x, x < 64 → RO set (s 44) (t 26) x) (h0 : s 44 0 ≠ 0) : ∀ (m k on f fm : Nat) (lc lm : Int), k + m = i + 1 → m + 1 ≤ f → m + 1 ≤ fm → on < 64 → on &&& set = on → zpc 12 on = k → s 44 on ≠ 0 → (m = 0 → lc = lm) → ∃ z z' on' on'' l, d_X4_orderedCase_80 s s8 ks set i f on lc k = some (on', l, z) ∧ d_X12_order_94 t set i fm on lm k = some (on'', l, z') := by
  intro m
  have p6 := zpc6 set hs
  induction m with
  | zero =>
    intro k on f fm lc lm hk hf hfm ho hsub hp hv hl
    obtain ⟨f, rfl⟩ : ∃ g, f = g + 1 := ⟨f - 1, by omega⟩
    obtain ⟨fm, rfl⟩ : ∃ g, fm = g + 1 := ⟨fm - 1, by omega⟩
    unfold d_X4_orderedCase_80 d_X12_order_94
    rw [if_pos (by omega), if_pos (by omega), if_pos (by omega), if_pos (by omega), hl rfl]
    exact ⟨_, _, _, _, _, rfl, rfl⟩
  | succ m ih =>
    intro k on f fm lc lm hk hf hfm ho hsub hp hv hl
    obtain ⟨f, rfl⟩ : ∃ g, f = g + 1 := ⟨f - 1, by omega⟩
    obtain ⟨fm, rfl⟩ : ∃ g, fm = g + 1 := ⟨fm - 1, by omega⟩
    have e3 : ((k : Int) + 1) = ((k + 1 : Nat) : Int) := by omega
    have zc : ∀ x, on < x → x < 64 → zr (s 44 x) := fun x h1 h2 => by
      have := (r x h2).2.2.1
      omega
    have z0 : zr (s 44 0) := by
      have := (r 0 (by decide)).2.2.1
      omega
    have eqv : ∀ c, c < 6 → set / 2 ^ c % 2 = 1 → on / 2 ^ c % 2 = 0 → s 44 (on ||| 2 ^ c) = t 26 (on ||| 2 ^ c) := fun c hc h1 h2 => (r (on ||| 2 ^ c) (b_or on ho c hc).1).1 (sub_or hs hc hsub h1)
    have zm : ∀ c, c < 6 → set / 2 ^ c % 2 = 1 → on / 2 ^ c % 2 = 0 → zr (t 26 (on ||| 2 ^ c)) := fun c hc h1 h2 => by
      have Bo := b_or on ho c hc
      rw [← eqv c hc h1 h2]
      exact zc _ (Bo.2.2.2.1 h2) Bo.1
    have cq : ∀ c, c < 6 → (Cnd (s 44) set on c ↔ Cnd (t 26) set on c) := fun c hc => by
      unfold Cnd
      constructor
      · rintro ⟨a, b, d⟩
        exact ⟨a, b, by rw [← eqv c hc a b]; exact d⟩
      · rintro ⟨a, b, d⟩
        exact ⟨a, b, by rw [eqv c hc a b]; exact d⟩
    have ns : on ≠ set := fun h => by
      rw [h] at hp
      omega
    have ex := ((r on ho).2.2.2 hv).resolve_left ns
    rcases e_first hs ho zc with ⟨a, b⟩ | ⟨x, a, b1, b2, b3⟩
    · obtain ⟨c, c1, c2⟩ := ex
      exact absurd c2 (b c c1)
    · have q := e_103 hs ho (i := i) (v4 := lm) (v5 := k) b1 ((cq x b1).mp b2) (fun y hy h => b3 y hy ((cq y (by omega)).mpr h)) zm x 0 zF (by omega) (by unfold zF; omega)
      rw [show ((0 : Nat) : Int) = 0 from rfl] at q
      have Bo := b_or on ho x b1
      have p := p2c x b1
      have p0 : 0 < 2 ^ x := Nat.two_pow_pos x
      have nx := ih (k + 1) (on ||| 2 ^ x) f fm x x (by omega) (by omega) (by omega) Bo.1 (sub_or hs b1 hsub b2.1) (by rw [Bo.2.2.2.2.1 b2.2.1, hp]) b2.2.2 (fun _ => rfl)
      clear ih
      unfold d_X4_orderedCase_80 d_X12_order_94
      rw [if_pos (by omega), if_neg (by omega), if_pos (by omega), if_neg (by omega), if_pos z0, if_neg h0, a, Option.bind_some, if_pos (by omega), if_neg (by omega), if_pos (by omega), Int.toNat_natCast, Int.toNat_natCast, two_pow, Int.toNat_natCast, e3, if_pos (by omega), if_pos (by omega), if_neg (by omega), q, Option.bind_some, if_pos (by omega), Int.toNat_natCast, two_pow, Int.toNat_natCast, if_pos (by omega)]
      exact nx
theorem e_ordered {s3 s8 s7 t0 : zZ} {ks : List Int} {B F : Nat} (K : NK s3 s8 ks s7 B F) {set i : Nat} (hs : 1 ≤ set ∧ set < 64) (hi : i + 1 ≤ zpc 12 set) (hk : (XN s3 s8 B (2 * F)).1 = cn s8 B) (hst : ∀ c, c < 6 → set / 2 ^ c % 2 = 1 → stB s3 s8 B F (2 ^ c)) (fr : Fr [22, 23, 24, 25, 26] [33] s7 t0) : ∃ r s' t', d_X4_orderedCase s3 s8 ks set i = some (r, s') ∧ ((d_X12_findOrder t0 set).bind fun y23 => if (zr (y23 26 0)) then (if (y23 26 0) ≠ 0 then ((d_X12_order_94 y23 set i zF 0 0 0).bind fun y43 => some (y43.2.1, y23)) else some ((-9), y23)) else none) = some (r, t') ∧ (∀ q, q ≠ 44 → s' q = s3 q) ∧ Fr [22, 23, 24, 25, 26] [33] s7 t' := by
  have p6 := zpc6 set hs.2
  obtain ⟨s1, a1, a2, a3, a4⟩ := e_oA (s8 := s8) (ks := ks) (set := set) (pl := (i : Int)) hs.2 (63 - set) (zF - (63 - set)) s3 (by omega)
  rw [show zF - (63 - set) + (63 - set) = zF by unfold zF; omega, show ((set + (63 - set) : Nat) : Int) = 64 - 1 by omega] at a1
  obtain ⟨z, z', s', t', b1, b2, b3, b4, b5⟩ := e_oB K (pl := (i : Int)) hs.2 hk hst (set + 1) (zF - (63 - set)) zF s1 t0 (Nat.le_refl _) (by unfold zF; omega) (by unfold zF; omega) a2 fr (fun x h1 h2 => by
    have n : ¬ (x &&& set = x) := fun h => by
      have := Nat.and_le_right (n := x) (m := set)
      omega
    have z := a3 x (by omega) (by omega)
    exact ⟨fun h => absurd h n, fun _ => z, Or.inl z, fun h => absurd z h⟩)
  rw [show ((set + 1 : Nat) : Int) - 1 = (set : Int) by omega] at b1 b2
  have r0 := b5 0 (by decide)
  have e0 : s' 44 0 = t' 26 0 := r0.1 (Nat.zero_and _)
  have v0 := r0.2.2.1
  unfold d_X4_orderedCase d_X12_findOrder
  rw [a1, b1, b2, Option.bind_some, Option.bind_some, Option.bind_some]
  dsimp only
  rw [if_pos (show zr (t' 26 0) by rw [← e0]; omega)]
  by_cases q : s' 44 0 = 0
  · have go : ∀ (m k f : Nat) (lc : Int), k + m = i + 1 → m + 1 ≤ f → (m = 0 → lc = -9) → ∃ z on', d_X4_orderedCase_80 s' s8 ks set i f 0 lc k = some (on', -9, z) := by
      intro m
      induction m with
      | zero =>
        intro k f lc hk hf hl
        obtain ⟨f, rfl⟩ : ∃ g, f = g + 1 := ⟨f - 1, by omega⟩
        unfold d_X4_orderedCase_80
        rw [if_pos (by omega), if_pos (by omega), hl rfl]
        exact ⟨_, _, rfl⟩
      | succ m ih =>
        intro k f lc hk hf hl
        obtain ⟨f, rfl⟩ : ∃ g, f = g + 1 := ⟨f - 1, by omega⟩
        have e3 : ((k : Int) + 1) = ((k + 1 : Nat) : Int) := by omega
        have nx := ih (k + 1) f (-9) (by omega) (by omega) (fun _ => rfl)
        clear ih
        unfold d_X4_orderedCase_80
        rw [if_pos (by omega), if_neg (by omega), if_pos (by omega), if_neg (by omega), if_pos (by omega), if_pos q, if_pos (by decide), e3]
        exact nx
    obtain ⟨z2, on', g⟩ := go (i + 1) 0 zF (-9) (by omega) (by unfold zF; omega) (fun _ => rfl)
    rw [show ((0 : Nat) : Int) = 0 from rfl] at g
    rw [g, Option.bind_some, if_neg (fun h => h (by rw [← e0]; exact q))]
    exact ⟨_, _, _, rfl, rfl, b3, b4⟩
  · obtain ⟨z1, z2, o1, o2, l, g1, g2⟩ := e_oC (ks := ks) (s8 := s8) hs.2 hi b5 q (i + 1) 0 0 zF zF (-9) 0 (by omega) (by unfold zF; omega) (by unfold zF; omega) (by decide) (Nat.zero_and _) (by decide) q (fun h => by omega)
    rw [show ((0 : Nat) : Int) = 0 from rfl] at g1 g2
    rw [g1, g2, Option.bind_some, if_pos (show t' 26 0 ≠ 0 by rw [← e0]; exact q), Option.bind_some]
    exact ⟨_, _, _, rfl, rfl, b3, b4⟩
theorem m_order {s0 s3 s8 s7 : zZ} {ks : List Int} {set i : Int} (hs : zr set) (hi : zr i) (R : ND s3 s8 ks s7) (C : NC s3 s8 s7) : ∃ r s3' s8' s7', d_X11_order s0 s3 s8 ks set i = some (r, s3', s8') ∧ d_X12_order s7 set i = some (r, s7') ∧ ND s3' s8' ks s7' ∧ NC s3' s8' s7' ∧ Fr [22, 23, 24, 25, 26] [33] s7 s7' := by
  by_cases q : 1 ≤ set ∧ set ≤ 63
  · obtain ⟨x, rfl⟩ : ∃ x : Nat, set = x := ⟨set.toNat, by omega⟩
    have p6 := zpc6 x (by omega)
    by_cases qi : 0 ≤ i ∧ i ≤ ((zpc 12 x : Nat) : Int) - 1
    · obtain ⟨y, rfl⟩ : ∃ x : Nat, i = x := ⟨i.toNat, by omega⟩
      obtain ⟨t3, t8, B, F, a1, K, C', _, _⟩ := e_rk R C
      have K' := K
      obtain ⟨R', hB, hF, h11, h5, H⟩ := K'
      have A := e_at2 K (set := x) (by omega) 6 0 zF (by omega) (by unfold zF; omega)
      have M := e_o35 R' hB hF (set := x) (by omega) (i := (y : Int)) 6 0 zF s7 (by omega) (by unfold zF; omega) (Fr_refl _ _ _)
      rw [show ((0 : Nat) : Int) = 0 from rfl] at A M
      have cl0 : d_X11_order s0 s3 s8 ks x y = (d_X4_areTold t3 x).bind fun y9 => if (zr y9) then (if y9 ≠ 0 then ((d_X4_orderedCase t3 t8 ks x y).bind fun y12 => some (y12.1, y12.2, t8)) else some ((-3), t3, t8)) else none := by
        unfold d_X11_order
        rw [if_pos hs, if_neg (by omega), if_pos hs, if_pos (by omega), if_pos hi, if_neg (by omega), e_bc (by omega), Option.bind_some, if_pos (by omega), if_pos (by omega), a1, Option.bind_some]
      have mo0 : d_X12_order s7 x y = (d_X12_order_35 x y zF 0 s7).bind fun y19 => match y19 with | .inl y21 => (d_X12_findOrder y21.2 x).bind fun y23 => if (zr (y23 26 0)) then (if (y23 26 0) ≠ 0 then ((d_X12_order_94 y23 x y zF 0 0 0).bind fun y43 => some (y43.2.1, y23)) else some ((-9), y23)) else none | .inr y22 => some y22 := by
        unfold d_X12_order
        rw [if_pos hs, e_X12_within (by omega), Option.bind_some, if_pos q, if_pos (by decide), if_pos (by decide), if_pos hi, e_bits (by omega), Option.bind_some, if_pos (by omega), e_X12_within (by omega), Option.bind_some, if_pos qi, if_pos (by decide), if_pos (by decide)]
        rfl
      rw [cl0, mo0]
      unfold d_X4_areTold
      rcases A with ⟨z, a, b⟩ | ⟨a, b⟩
      · rcases M with ⟨z', s', a', g, b'⟩ | ⟨s', a', g, b'⟩
        · rw [a, a', Option.bind_some, Option.bind_some]
          try dsimp only
          have x0 : ∃ c, c < 6 ∧ x / 2 ^ c % 2 = 1 := by
            have d : ∀ x, x < 64 → 1 ≤ x → ∃ c, c < 6 ∧ x / 2 ^ c % 2 = 1 := by decide +kernel
            exact d x (by omega) (by omega)
          obtain ⟨c, c1, c2⟩ := x0
          obtain ⟨r, s3', t', o1, o2, o3, o4⟩ := e_ordered K (set := x) (i := y) ⟨by omega, by omega⟩ (by omega) (b c (Nat.zero_le _) c1 c2).1 (fun c h1 h2 => (b c (Nat.zero_le _) h1 h2).2) g
          rw [Option.bind_some, if_pos (by decide), if_pos (by decide), o1, Option.bind_some]
          have hs24 : ∀ q, q < 24 → s3' q = t3 q := fun q hq => o3 q (by omega)
          have r12 := R'.2.2.2.2.2.2.2.2.2.2.2.1
          have RR : ND s3' t8 ks s7 := ND_hi hs24 (by unfold PVg; rw [o3 24 (by decide), o3 25 (by decide)]; exact r12) R'
          exact ⟨_, _, _, _, rfl, o2, ND_fr RR o4, NC_fr (NC_hi hs24 C') o4, o4⟩
        · exact absurd b b'
      · rcases M with ⟨z', s', a', g, b'⟩ | ⟨s', a', g, b'⟩
        · exact absurd b' b
        · rw [a, a', Option.bind_some, Option.bind_some]
          try dsimp only
          rw [Option.bind_some, if_pos (by decide), if_neg (by decide)]
          exact ⟨_, _, _, _, rfl, rfl, ND_fr R' g, NC_fr C' g, g⟩
    · have mo : d_X12_order s7 x i = some (-1, s7) := by
        unfold d_X12_order
        rw [if_pos hs, e_X12_within (by omega), Option.bind_some, if_pos q, if_pos (by decide), if_pos (by decide), if_pos hi, e_bits (by omega), Option.bind_some, if_pos (by omega), e_X12_within (by omega), Option.bind_some, if_neg qi, if_pos (by decide), if_neg (by decide)]
      have cl : d_X11_order s0 s3 s8 ks x i = some (-1, s3, s8) := by
        unfold d_X11_order
        rw [if_pos hs, if_neg (by omega), if_pos hs, if_pos (by omega), if_pos hi]
        by_cases w : i < 0
        · rw [if_pos w]
        · rw [if_neg w, e_bc (by omega), Option.bind_some, if_pos (by omega), if_neg (by omega)]
      exact ⟨_, _, _, _, cl, mo, R, C, Fr_refl _ _ _⟩
  · have mo : d_X12_order s7 set i = some (-2, s7) := by
      unfold d_X12_order
      rw [if_pos hs, e_X12_within (by omega), Option.bind_some, if_neg q, if_pos (by decide), if_neg (by decide)]
    have cl : d_X11_order s0 s3 s8 ks set i = some (-2, s3, s8) := by
      unfold d_X11_order
      rw [if_pos hs]
      by_cases w : set < 1
      · rw [if_pos w]
      · rw [if_neg w, if_pos hs, if_neg (by omega)]
    exact ⟨_, _, _, _, cl, mo, R, C, Fr_refl _ _ _⟩
