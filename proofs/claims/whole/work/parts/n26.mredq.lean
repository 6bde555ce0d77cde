/-! the reference's clearing once more: its rows have no common divisor, or are small -/
def QU (all : Nat) (v : Nat → Int) : Prop := (∀ j, j < all → wi (v j) 5) ∨ ∀ d t : Int, (∀ j, j < all → d ∣ t * v j) → d ∣ t
def RMq (s : zZ) (n all : Nat) (T : Nat → Nat → Int) (Bd : Nat → Int) : Prop := ∀ r, r < n → (PRP all (T r) (fun j => s 22 (20 * r + j)) ∧ ∀ j, j < all → wi (s 22 (20 * r + j)) (Bd j)) ∧ QU all (fun j => s 22 (20 * r + j))
theorem QU_congr {all : Nat} {v w : Nat → Int} (h : ∀ j, j < all → v j = w j) (q : QU all v) : QU all w := by
  rcases q with q | q
  · exact Or.inl (fun j hj => by rw [← h j hj]; exact q j hj)
  · exact Or.inr (fun d t e => q d t (fun j hj => by rw [h j hj]; exact e j hj))
theorem e_rd81q {rows cols pv : Int} {n all k p : Nat} (hn : n ≤ 16) (hk : k < n) (ha : all ≤ 20) (hp : p < all) (hrows : rows = n) {D : Int} (hD : D ≠ 0) {T : Nat → Nat → Int} (hl : T k p ≠ 0) (dv : ∀ i j, i < n → i ≠ k → j < all → D ∣ (T k p * T i j - T i p * T k j)) {Bd : Nat → Int} (hB : ∀ i j, i < n → j < all → wi (elm k p D T i j) (Bd j)) (hB2 : ∀ j, j < all → 2 * (Bd j * Bd p) ≤ 9223372036854775807) : ∀ (m r0 f : Nat) (s : zZ), r0 + m = n → m + 1 ≤ f → s 0 33 = k → (∀ r, r < n → (PRP all (if r < r0 then elm k p D T r else T r) (fun j => s 22 (20 * r + j)) ∧ ∀ j, j < all → wi (s 22 (20 * r + j)) (Bd j)) ∧ QU all (fun j => s 22 (20 * r + j))) → ∃ z s', d_X12_reduce_81 rows cols all p pv f r0 s = some (z, s') ∧ (∀ q, q ≠ 22 → s' q = s q) ∧ RMq s' n all (elm k p D T) Bd := by
  subst hrows
  intro m
  induction m with
  | zero =>
    intro r0 f s hr hf h0 H
    obtain ⟨f, rfl⟩ : ∃ g, f = g + 1 := ⟨f - 1, by omega⟩
    unfold d_X12_reduce_81
    rw [if_pos (by omega), if_pos (by omega)]
    refine ⟨_, _, rfl, fun _ _ => rfl, fun r hr => ?_⟩
    have := H r hr
    rw [if_pos (by omega)] at this
    exact this
  | succ m ih =>
    intro r0 f s hr hf h0 H
    obtain ⟨f, rfl⟩ : ∃ g, f = g + 1 := ⟨f - 1, by omega⟩
    unfold d_X12_reduce_81
    have e1 : (20 * (r0 : Int) + p).toNat = 20 * r0 + p := by omega
    have e2 : (20 * (k : Int) + p).toNat = 20 * k + p := by omega
    have e3 : ((r0 : Int) + 1) = ((r0 + 1 : Nat) : Int) := by omega
    have R0q := (H r0 (by omega)).2
    have R0 := (H r0 (by omega)).1
    rw [if_neg (Nat.lt_irrefl _)] at R0
    have elk : elm k p D T k = T k := by
      funext j
      unfold elm
      rw [if_pos rfl]
    have Rk : PRP all (T k) (fun j => s 22 (20 * k + j)) ∧ ∀ j, j < all → wi (s 22 (20 * k + j)) (Bd j) := by
      have := (H k hk).1
      rw [elk, ite_self] at this
      exact this
    have b0 := R0.2 p hp
    have Bp : 0 ≤ Bd p := by have := b0.1; have := b0.2; omega
    have Bs9 : Bd p ≤ 9223372036854775807 := by
      have h2 := hB2 p hp
      rcases Int.lt_or_le 1 (Bd p) with q | q
      · have := Int.mul_le_mul_of_nonneg_right (show (1 : Int) ≤ Bd p by omega) Bp
        omega
      · omega
    simp only [h0, e1, e2, e3]
    rw [if_pos (by omega), if_neg (by omega), if_pos (by omega), if_pos (by omega)]
    have keep : ∀ T1 : Nat → Int, T1 = elm k p D T r0 → PRP all T1 (fun j => s 22 (20 * r0 + j)) → ∃ z s', d_X12_reduce_81 n cols all p pv f (r0 + 1 : Nat) s = some (z, s') ∧ (∀ q, q ≠ 22 → s' q = s q) ∧ RMq s' n all (elm k p D T) Bd := by
      intro T1 e hP
      subst e
      refine ih (r0 + 1) f s (by omega) (by omega) h0 (fun r hr2 => ?_)
      by_cases q : r = r0
      · subst q
        rw [if_pos (by omega)]
        exact ⟨⟨hP, R0.2⟩, R0q⟩
      · have := H r hr2
        have e : (r < r0 + 1) = (r < r0) := by apply propext; omega
        simp only [e]
        exact this
    by_cases q : r0 = k
    · rw [if_pos (by omega)]
      exact keep (T k) (by rw [q, elk]) (by rw [q]; exact Rk.1)
    · have zb : zrl (s 22 (20 * r0 + p)) := by have := b0.1; have := b0.2; omega
      rw [if_neg (by omega), if_pos zb]
      have DE : ∀ j, j < all → D * elm k p D T r0 j = T k p * T r0 j - T r0 p * T k j := by
        intro j hj
        obtain ⟨M, hM⟩ := dv r0 j (by omega) q hj
        unfold elm
        rw [if_neg q, hM, Int.mul_tdiv_cancel_left M hD]
      by_cases by0 : s 22 (20 * r0 + p) = 0
      · rw [if_neg (fun h => h by0)]
        have t0 := (PRP_zero R0.1 hp).mp by0
        obtain ⟨x, y, hx, hy, e⟩ := R0.1
        refine keep _ rfl ⟨x * T k p, y * D, mul_ne hx hl, mul_ne hy hD, fun j hj => ?_⟩
        have h1 := e j hj
        have h2 := DE j hj
        rw [t0, Int.zero_mul, Int.sub_zero] at h2
        rw [Int.mul_assoc y, h2]
        dsimp only at h1 ⊢
        grind
      · rw [if_pos by0, if_pos (by omega)]
        obtain ⟨z1, s1, a1, a2, a3, a4⟩ := e_rd141 (rows := n) (cols := cols) (c := p) (pv := pv) (by_ := s 22 (20 * r0 + p)) (p := s 22 (20 * k + p)) (all := all) (row := r0) (k := k) (by omega) (by omega) q ha (v := fun j => s 22 (20 * r0 + j)) (w := fun j => s 22 (20 * k + j)) all 0 zF s (by omega) (by unfold zF; omega) h0 (fun _ _ => rfl) (fun j hj => by omega) (fun _ _ _ => rfl)
        rw [show ((0 : Nat) : Int) = 0 from rfl] at a1
        rw [a1, Option.bind_some]
        dsimp only
        have Nb : ∀ j, j < all → -9223372036854775807 ≤ s1 22 (20 * r0 + j) ∧ s1 22 (20 * r0 + j) ≤ 9223372036854775807 := by
          intro j hj
          rw [a4 j hj]
          have w1 := wi_mul2 (R0.2 j hj) (Rk.2 p hp)
          have w2 := wi_mul2 (Rk.2 j hj) (R0.2 p hp)
          have := hB2 j hj
          exact ⟨by have := w1.1; have := w2.2; omega, by have := w1.2; have := w2.1; omega⟩
        obtain ⟨s2, c1, c2, c3, G, g0, g1, g2⟩ := e_divide (s := s1) (r := r0) (all := all) (by omega) ha Nb
        rw [c1, Option.bind_some]
        obtain ⟨x, y, hx, hy, e⟩ := R0.1
        obtain ⟨x', y', hx', hy', e'⟩ := Rk.1
        have pr : ∀ j, j < all → (x * x' * G) * s2 22 (20 * r0 + j) = (y * y' * D) * elm k p D T r0 j := by
          intro j hj
          rw [Int.mul_assoc (x * x'), g1 j hj, a4 j hj, Int.mul_assoc (y * y'), DE j hj]
          have h1 := e j hj
          have h2 := e p hp
          have h3 := e' j hj
          have h4 := e' p hp
          dsimp only at h1 h2 h3 h4 ⊢
          grind
        have X0 : x * x' * G ≠ 0 := mul_ne (mul_ne hx hx') g0
        have Y0 : y * y' * D ≠ 0 := mul_ne (mul_ne hy hy') hD
        have bd : ∀ j, j < all → wi (s2 22 (20 * r0 + j)) (Bd j) := by
          intro j hj
          have hb := hB r0 j (by omega) hj
          rcases g2 with g2 | g2
          · rw [g2 j hj]
            exact ⟨by have := hb.1; have := hb.2; omega, by have := hb.1; have := hb.2; omega⟩
          · obtain ⟨t, ht⟩ := g2 (y * y' * D) (x * x' * G) (fun j hj => ⟨_, pr j hj⟩)
            have t0 : t ≠ 0 := by
              intro h
              rw [h, Int.mul_zero] at ht
              exact X0 ht
            have : t * s2 22 (20 * r0 + j) = elm k p D T r0 j := by
              have h := pr j hj
              rw [ht, Int.mul_assoc] at h
              exact Int.eq_of_mul_eq_mul_left Y0 h
            refine wi_dvd t0 ?_
            rw [this]
            exact hb
        obtain ⟨z, s', d1, d2, d3⟩ := ih (r0 + 1) f s2 (by omega) (by omega) (by rw [c2 0 (by decide), a2 0 (by decide)]; exact h0) (fun r hr2 => by
          by_cases qr : r = r0
          · subst qr
            rw [if_pos (by omega)]
            refine ⟨⟨⟨_, _, X0, Y0, pr⟩, bd⟩, ?_⟩
            rcases g2 with g2 | g2
            · exact Or.inl (fun j hj => by dsimp only; rw [g2 j hj]; exact ⟨by decide, by decide⟩)
            · exact Or.inr g2
          · have hR := H r hr2
            have er : (r < r0 + 1) = (r < r0) := by apply propext; omega
            have same : ∀ j, j < all → s2 22 (20 * r + j) = s 22 (20 * r + j) := fun j hj => by rw [c3 _ (by omega), a3 _ (by omega)]
            simp only [er]
            obtain ⟨⟨⟨x, y, hx, hy, e⟩, hb⟩, hq⟩ := hR
            exact ⟨⟨⟨x, y, hx, hy, fun j hj => by dsimp only; rw [same j hj]; exact e j hj⟩, fun j hj => by rw [same j hj]; exact hb j hj⟩, QU_congr (fun j hj => (same j hj).symm) hq⟩)
        exact ⟨z, s', d1, fun q hq => by rw [d2 q hq, c2 q hq, a2 q hq], d3⟩
theorem e_rd8q {n all cols : Nat} (hn : n ≤ 16) (ha : all ≤ 20) (hc : cols ≤ all) {T0 : Nat → Nat → Int} {K : Int} (hK : 0 ≤ K) (hA : ∀ j, j < cols → nv n (fun r => T0 r j) ≤ K) {Bd : Nat → Int} (hb : ∀ q, q ≤ cols → ∀ r j, r < n → j < all → wi ((clr n (0, 1, T0, fun _ => -1) q).2.2.1 r j) (Bd j)) (hB2 : ∀ j p, j < all → p < cols → 2 * (Bd j * Bd p) ≤ 9223372036854775807) (hB1 : ∀ j, j < all → Bd j ≤ 9223372036854775807) : ∀ (m c f : Nat) (s : zZ), c + m = cols → m + 1 ≤ f → s 0 33 = (clr n (0, 1, T0, fun _ => -1) c).1 → RMq s n all (clr n (0, 1, T0, fun _ => -1) c).2.2.1 Bd → (∀ j, j < c → s 23 j = lv (clr n (0, 1, T0, fun _ => -1) c).2.2.2 j) → ∃ z s', d_X12_reduce_8 n cols all f c s = some (z, s') ∧ s' 0 33 = (clr n (0, 1, T0, fun _ => -1) cols).1 ∧ RMq s' n all (clr n (0, 1, T0, fun _ => -1) cols).2.2.1 Bd ∧ (∀ j, j < cols → s' 23 j = lv (clr n (0, 1, T0, fun _ => -1) cols).2.2.2 j) ∧ Fr [22, 23] [33] s s' := by
  intro m
  induction m with
  | zero =>
    intro c f s hm hf h33 hR h23
    obtain ⟨f, rfl⟩ : ∃ g, f = g + 1 := ⟨f - 1, by omega⟩
    unfold d_X12_reduce_8
    have : c = cols := by omega
    subst this
    rw [if_pos (by omega), if_pos (by omega)]
    exact ⟨_, _, rfl, h33, hR, h23, Fr_refl _ _ _⟩
  | succ m ih =>
    intro c f s hm hf h33 hR h23
    obtain ⟨f, rfl⟩ : ∃ g, f = g + 1 := ⟨f - 1, by omega⟩
    unfold d_X12_reduce_8
    have C := clr_CI (J := all) hK hc hA c (by omega)
    have S := (CI_step hK C (by omega) (hA c (by omega))).2
    have st1 : clr n (0, 1, T0, fun _ => -1) (c + 1) = clr1 n c (clr n (0, 1, T0, fun _ => -1) c) := rfl
    have hb1 := hb (c + 1) (by omega)
    have hb0 := hb c (by omega)
    have P3 : (clr n (0, 1, T0, fun _ => -1) c).2.2.2 c = -1 := by
      obtain ⟨_, _, _, _, _, P⟩ := C
      exact P.2.2 c (Nat.le_refl _)
    have kn : (clr n (0, 1, T0, fun _ => -1) c).1 ≤ n := by
      obtain ⟨_, _, _, _, B, _⟩ := C
      exact B.1
    have D0 : (clr n (0, 1, T0, fun _ => -1) c).2.1 ≠ 0 := by
      obtain ⟨_, _, _, _, B, _⟩ := C
      exact B.2.1
    generalize clr n (0, 1, T0, fun _ => -1) c = st at *
    obtain ⟨k, D, T, L⟩ := st
    dsimp only at *
    have e3 : ((c : Int) + 1) = ((c + 1 : Nat) : Int) := by omega
    have u0 : ∀ v, upz s 23 c v 0 33 = (k : Int) := fun v => by rw [upz_ne _ _ _ _ (by decide)]; exact h33
    have u22 : ∀ v, upz s 23 c v 22 = s 22 := fun v => upz_ne _ _ _ _ (by decide)
    have u23 : ∀ v j, upz s 23 c v 23 j = if j = c then v else s 23 j := fun v j => by rw [upz_at, if_pos rfl]
    have zr2 : ∀ r j, r < n → j < all → zrl (s 22 (20 * r + j)) := by
      intro r j hr hj
      have h := (hR r hr).1.2 j hj
      have B1 := hB1 j hj
      have := h.1
      have := h.2
      omega
    have pr29 := e_rd29 (s := upz s 23 c (-9)) (rows := n) (cols := cols) (all_ := all) (n := n) (all := all) (col := c) hn ha (by omega) (T := T) rfl (fun r hr => by rw [u22]; exact (hR r hr).1.1) (fun r hr => by rw [u22]; exact zr2 r c hr (by omega)) (n - k) k zF (by omega) (by unfold zF; omega)
    simp only [Int.toNat_natCast, u0, e3]
    rw [if_pos (by omega), if_neg (by omega), if_pos (by omega), pr29, Option.bind_some]
    have fr := fpw_rng T c (n - k) k
    unfold clr1 at st1
    dsimp only at st1
    generalize fpw T c (n - k) k = w at *
    rw [if_pos (by omega)]
    by_cases wn : w < n
    · rw [if_pos wn] at st1
      rw [if_pos (by omega)]
      obtain ⟨z1, s1, a1, a2, a3⟩ := e_swr (a := w) (b := k) (by omega) (by omega) 20 0 zF (upz s 23 c (-9)) (upz s 23 c (-9)) (by omega) (by unfold zF; omega) (fun _ _ => rfl) (fun i => by rw [if_neg (by omega), if_neg (by omega)])
      rw [show ((0 : Nat) : Int) = 0 from rfl] at a1
      unfold d_X12_swapRows
      rw [a1, Option.bind_some, Option.bind_some]
      dsimp only
      have k33 : s1 0 33 = k := by rw [a2 0 (by decide)]; exact u0 _
      have row : ∀ r j, r < n → j < all → s1 22 (20 * r + j) = s 22 (20 * (if r = k then w else if r = w then k else r) + j) := by
        intro r j hr hj
        rw [a3, u22]
        have d1 : (20 * r + j) / 20 = r := by omega
        have d2 : (20 * r + j) % 20 = j := by omega
        rw [d1, d2]
        by_cases q1 : r = k
        · have e : (if r = k then w else if r = w then k else r) = w := if_pos q1
          rw [e]
          by_cases q2 : r = w
          · rw [if_pos q2, show k = w by omega]
          · rw [if_neg q2, if_pos q1]
        · by_cases q2 : r = w
          · have e : (if r = k then w else if r = w then k else r) = k := by rw [if_neg q1, if_pos q2]
            rw [e, if_pos q2]
          · have e : (if r = k then w else if r = w then k else r) = r := by rw [if_neg q1, if_neg q2]
            rw [e, if_neg q2, if_neg q1]
      have lead : swT k w T k c ≠ 0 := by
        unfold swT
        rw [if_pos rfl]
        exact fr.2.2.1 (by omega)
      rw [st1] at hb1
      dsimp only at hb1
      have sl : ∀ r, r < n → (if r = k then w else if r = w then k else r) < n := by
        intro r hr
        repeat' split
        all_goals omega
      obtain ⟨z2, s2, b1, b2, b3⟩ := e_rd81q (rows := n) (cols := cols) (pv := w) hn (show k < n by omega) ha (show c < all by omega) rfl D0 (T := swT k w T) lead (fun i j hi hn2 hj => S wn i j hi hn2 hj) (Bd := Bd) hb1 (fun j hj => hB2 j c hj (by omega)) n 0 zF s1 (by omega) (by unfold zF; omega) k33 (fun r hr => by
        rw [if_neg (Nat.not_lt_zero _)]
        obtain ⟨⟨⟨x, y, hx, hy, e⟩, hbb⟩, hq⟩ := hR _ (sl r hr)
        refine ⟨⟨⟨x, y, hx, hy, fun j hj => ?_⟩, fun j hj => ?_⟩, QU_congr (fun j hj => (row r j hr hj).symm) hq⟩
        · dsimp only
          rw [row r j hr hj]
          exact e j hj
        · rw [row r j hr hj]
          exact hbb j hj)
      rw [show ((0 : Nat) : Int) = 0 from rfl] at b1
      rw [b1, Option.bind_some, if_pos (by omega)]
      dsimp only
      have k2 : s2 0 33 = k := by rw [b2 0 (by decide)]; exact k33
      have x33 : ∀ v, upz s2 23 c v 0 33 = (k : Int) := fun v => by rw [upz_ne _ _ _ _ (by decide)]; exact k2
      simp only [k2, x33]
      have y22 : upz (upz s2 23 c k) 0 33 ((k : Int) + 1) 22 = s2 22 := by rw [upz_ne _ _ _ _ (by decide), upz_ne _ _ _ _ (by decide)]
      obtain ⟨z3, s3, d1, d2, d3, d4, d5⟩ := ih (c + 1) f (upz (upz s2 23 c k) 0 33 ((k : Int) + 1)) (by omega) (by omega) (by rw [upz_hit, st1]; dsimp only; omega) (by
        rw [st1]
        dsimp only
        unfold RMq
        rw [y22]
        exact b3) (fun j hj => by
        rw [upz_ne _ _ _ _ (by decide), upz_at, if_pos rfl, st1]
        show _ = lv (fun j => if j = c then (k : Int) else L j) j
        unfold lv
        by_cases q : j = c
        · simp only [if_pos q]
          rw [if_neg (by omega)]
        · simp only [if_neg q]
          rw [b2 23 (by decide), a2 23 (by decide), u23, if_neg q]
          exact h23 j (by omega))
      refine ⟨z3, s3, d1, d2, d3, d4, Fr_trans ?_ d5⟩
      refine Fr_upz0 (by decide) (Fr_upz (by decide) (by decide) ⟨fun q h0 hq => ?_, fun j _ => by rw [b2 0 (by decide), a2 0 (by decide), upz_ne _ _ _ _ (by decide)]⟩)
      simp only [List.mem_cons, List.not_mem_nil, or_false, not_or] at hq
      rw [b2 q hq.1, a2 q hq.1, upz_ne _ _ _ _ hq.2]
    · rw [if_neg wn] at st1
      rw [if_neg (by omega)]
      obtain ⟨z3, s3, d1, d2, d3, d4, d5⟩ := ih (c + 1) f (upz s 23 c (-9)) (by omega) (by omega) (by rw [u0, st1]) (by rw [st1]; unfold RMq; rw [u22]; exact hR) (fun j hj => by
        rw [u23, st1]
        by_cases q : j = c
        · rw [if_pos q, q]
          unfold lv
          rw [if_pos P3]
        · rw [if_neg q]
          exact h23 j (by omega))
      exact ⟨z3, s3, d1, d2, d3, d4, Fr_trans (Fr_upz (by decide) (by decide) (Fr_refl _ _ _)) d5⟩
theorem e_reduceq {n all cols : Nat} (hn : n ≤ 16) (ha : all ≤ 20) (hc : cols ≤ all) {T0 : Nat → Nat → Int} {K : Int} (hK : 0 ≤ K) (hA : ∀ j, j < cols → nv n (fun r => T0 r j) ≤ K) {Bd : Nat → Int} (hb : ∀ q, q ≤ cols → ∀ r j, r < n → j < all → wi ((clr n (0, 1, T0, fun _ => -1) q).2.2.1 r j) (Bd j)) (hB2 : ∀ j p, j < all → p < cols → 2 * (Bd j * Bd p) ≤ 9223372036854775807) (hB1 : ∀ j, j < all → Bd j ≤ 9223372036854775807) {s : zZ} (h22 : ∀ r j, r < n → j < all → s 22 (20 * r + j) = T0 r j) (h5 : ∀ r j, r < n → j < all → wi (T0 r j) 5) : ∃ s', d_X12_reduce s n cols all = some s' ∧ s' 0 33 = (clr n (0, 1, T0, fun _ => -1) cols).1 ∧ RMq s' n all (clr n (0, 1, T0, fun _ => -1) cols).2.2.1 Bd ∧ (∀ j, j < cols → s' 23 j = lv (clr n (0, 1, T0, fun _ => -1) cols).2.2.2 j) ∧ Fr [22, 23] [33] s s' := by
  obtain ⟨z, s', a1, a2, a3, a4, a5⟩ := e_rd8q hn ha hc hK hA hb hB2 hB1 cols 0 zF (upz s 0 33 0) (by omega) (by unfold zF; omega) (upz_hit _ _ _ _) (fun r hr => by
    rw [upz_ne _ _ _ _ (by decide)]
    refine ⟨⟨⟨1, 1, by decide, by decide, fun j hj => ?_⟩, fun j hj => ?_⟩, Or.inl (fun j hj => by dsimp only; rw [h22 r j hr hj]; exact h5 r j hr hj)⟩
    · show 1 * s 22 (20 * r + j) = 1 * T0 r j
      rw [h22 r j hr hj]
    · rw [h22 r j hr hj]
      exact hb 0 (Nat.zero_le _) r j hr hj) (fun j hj => by omega)
  unfold d_X12_reduce
  rw [show ((0 : Nat) : Int) = 0 from rfl] at a1
  rw [a1]
  exact ⟨s', rfl, a2, a3, a4, Fr_trans (Fr_upz0 (by decide) (Fr_refl _ _ _)) a5⟩
