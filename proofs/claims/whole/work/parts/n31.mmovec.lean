/-! the class finds the move -/
theorem e_fm31 {s3 s8 s7 : zZ} {ks : List Int} (R : ND s3 s8 ks s7) {b : Nat} {col ways : Int} (hb : (b : Int) < s7 0 25) (hcol : s8 b 5 = col) (hcz : zr col) {n c k : Nat} {D : Int} {L : Nat → Int} : ∀ (m w f : Nat) (s : zZ) (T : Nat → Nat → Int), w + m = 2 → m + 1 ≤ f → (∀ q, q < 24 → s q = s3 q) → TSg s n c k D T L → ∃ z s', d_X4_findMove_31 s8 ks ways b f w s = some (z, s') ∧ TSg s' n c k D (fun r j => T r j + (if (r : Int) = col ∧ w ≤ j % 2 then -1 * mA s3 s8 b j else 0)) L ∧ (∀ q, q < 24 ∨ 42 ≤ q → s' q = s q) := by
  have hR := R
  obtain ⟨r1, r2, r3, r4, r5, r6, r7, r8, _⟩ := hR
  have B := r8 b hb
  obtain ⟨j1, hj1⟩ : ∃ j : Nat, s8 b 1 = j := ⟨(s8 b 1).toNat, by omega⟩
  obtain ⟨j2, hj2⟩ : ∃ j : Nat, s8 b 2 = j := ⟨(s8 b 2).toNat, by omega⟩
  have J1 := r5 j1 (by omega)
  have J2 := r5 j2 (by omega)
  have hlen : b < ks.length ∧ b < 1024 := by omega
  intro m
  induction m with
  | zero =>
    intro w f s T hw hf hs H
    obtain ⟨f, rfl⟩ : ∃ g, f = g + 1 := ⟨f - 1, by omega⟩
    unfold d_X4_findMove_31
    rw [if_pos (by omega), if_pos (by omega)]
    refine ⟨_, _, rfl, TSg_congr H (fun r j _ _ => ?_) (fun _ _ => rfl), fun _ _ => rfl⟩
    rw [if_neg (by omega), Int.add_zero]
  | succ m ih =>
    intro w f s T hw hf hs H
    obtain ⟨f, rfl⟩ : ∃ g, f = g + 1 := ⟨f - 1, by omega⟩
    unfold d_X4_findMove_31
    have dr := dfw_rng R hb w
    have e3 : ((w : Int) + 1) = ((w + 1 : Nat) : Int) := by omega
    have hs13 : ∀ q, q < 13 → s q = s3 q := fun q hq => hs q (by omega)
    have s5 : s 5 0 = s3 5 0 := by rw [hs 5 (by decide)]
    rw [s5, if_pos (by omega), if_neg (by omega), if_pos (by omega), e_diff R hs13 (fun _ _ _ => rfl) hb (by omega), Option.bind_some, if_pos (by omega), Int.toNat_natCast, if_pos hlen, if_pos (by omega), if_pos hlen, hj1, e_rowOf R hs13 (by omega), Option.bind_some, if_pos (by omega), hcol]
    obtain ⟨s1, a1, a2, a3⟩ := e_addg H (row := col) (col := if s3 4 j1 = -1 then -1 else 2 * s3 4 j1 + w) (num := - dfw s3 s8 b w) hcz (by split <;> omega)
    have hs1 : ∀ q, q < 24 → s1 q = s3 q := fun q hq => by rw [a3 q (by omega)]; exact hs q hq
    have hs1' : ∀ q, q < 13 → s1 q = s3 q := fun q hq => hs1 q (by omega)
    have s5' : s1 5 0 = s3 5 0 := by rw [hs1 5 (by decide)]
    rw [a1, Option.bind_some, s5', if_pos (by omega), if_pos hlen, if_pos (by omega), if_pos hlen, hj2, e_rowOf R hs1' (by omega), Option.bind_some, if_pos (by omega)]
    obtain ⟨s2, b1, b2, b3⟩ := e_addg a2 (row := col) (col := if s3 4 j2 = -1 then -1 else 2 * s3 4 j2 + w) (num := dfw s3 s8 b w) hcz (by split <;> omega)
    rw [b1, Option.bind_some, e3]
    obtain ⟨z, s', d1, d2, d3⟩ := ih (w + 1) f s2 _ (by omega) (by omega) (fun q hq => by rw [b3 q (by omega)]; exact hs1 q hq) b2
    refine ⟨z, s', d1, TSg_congr d2 (fun r j hr hj => ?_) (fun _ _ => rfl), fun q hq => by rw [d3 q hq, b3 q (by omega), a3 q (by omega)]⟩
    have wc : w = 0 ∨ w = 1 := by omega
    unfold mA fq
    rw [hj1, hj2, Int.toNat_natCast, Int.toNat_natCast]
    by_cases jc : (r : Int) = col
    · have e1 : ((j : Int) = (if s3 4 j1 = -1 then -1 else 2 * s3 4 j1 + w)) = (j % 2 = w ∧ s3 4 j1 = ((j / 2 : Nat) : Int)) := by
        apply propext
        split <;> omega
      have e2 : ((j : Int) = (if s3 4 j2 = -1 then -1 else 2 * s3 4 j2 + w)) = (j % 2 = w ∧ s3 4 j2 = ((j / 2 : Nat) : Int)) := by
        apply propext
        split <;> omega
      have e5 : ((r : Int) = col) = True := by simp [jc]
      simp only [e1, e2, e5, true_and]
      by_cases rw_ : j % 2 = w
      · simp only [rw_, true_and]
        rw [if_neg (show ¬ (w + 1 ≤ w) by omega), if_pos (Nat.le_refl w)]
        by_cases q1 : s3 4 j1 = ((j / 2 : Nat) : Int)
        · by_cases q2 : s3 4 j2 = ((j / 2 : Nat) : Int)
          · simp only [if_pos q1, if_pos q2]
            omega
          · simp only [if_pos q1, if_neg q2]
            omega
        · by_cases q2 : s3 4 j2 = ((j / 2 : Nat) : Int)
          · simp only [if_neg q1, if_pos q2]
            omega
          · simp only [if_neg q1, if_neg q2]
            omega
      · simp only [rw_, false_and, ↓reduceIte]
        have e6 : (w + 1 ≤ j % 2) = (w ≤ j % 2) := by apply propext; omega
        simp only [e6]
    · have e5 : ((r : Int) = col) = False := by simp [jc]
      simp only [e5, false_and, ↓reduceIte]
theorem e_fm21 {s3 s8 s7 : zZ} {ks : List Int} (R : ND s3 s8 ks s7) {B : Nat} (hB : s7 0 25 = B) (h5 : ∀ d, d < B → s8 d 5 = if s8 d 4 = 0 then ((cn s8 d : Nat) : Int) else -1) {ways : Int} {n c k : Nat} {D : Int} {L : Nat → Int} : ∀ (m b f : Nat) (s : zZ), b + m = B → m + 1 ≤ f → (∀ q, q < 24 → s q = s3 q) → TSg s n c k D (Tg s3 s8 b (-1)) L → ∃ z s', d_X4_findMove_21 s8 ks ways f b s = some (z, s') ∧ TSg s' n c k D (Tg s3 s8 B (-1)) L ∧ (∀ q, q < 24 ∨ 42 ≤ q → s' q = s q) := by
  have r3 := R.2.2.1
  intro m
  induction m with
  | zero =>
    intro b f s hb hf hs H
    obtain ⟨f, rfl⟩ : ∃ g, f = g + 1 := ⟨f - 1, by omega⟩
    have s07 : s 0 7 = B := by rw [hs 0 (by decide)]; omega
    unfold d_X4_findMove_21
    rw [s07, if_pos (by omega), if_pos (by omega)]
    have e : b = B := by omega
    subst e
    exact ⟨_, _, rfl, H, fun _ _ => rfl⟩
  | succ m ih =>
    intro b f s hb hf hs H
    obtain ⟨f, rfl⟩ : ∃ g, f = g + 1 := ⟨f - 1, by omega⟩
    have s07 : s 0 7 = B := by rw [hs 0 (by decide)]; omega
    have e3 : ((b : Int) + 1) = ((b + 1 : Nat) : Int) := by omega
    have cb := cn_le s8 b
    obtain ⟨z1, s1, a1, a2, a3⟩ := e_fm31 R (ways := ways) (show (b : Int) < s7 0 25 by omega) (h5 b (by omega)) (by split <;> omega) 2 0 zF s _ (by omega) (by unfold zF; omega) hs H
    rw [show ((0 : Nat) : Int) = 0 from rfl] at a1
    obtain ⟨z, s', d1, d2, d3⟩ := ih (b + 1) f s1 (by omega) (by omega) (fun q hq => by rw [a3 q (by omega)]; exact hs q hq) (TSg_congr a2 (fun r j _ _ => by
      show Tg s3 s8 b (-1) r j + _ = Tg s3 s8 b (-1) r j + (if s8 b 4 = 0 ∧ r = cn s8 b then -1 * mA s3 s8 b j else 0)
      by_cases q : s8 b 4 = 0
      · rw [if_pos q]
        have e : ((r : Int) = ((cn s8 b : Nat) : Int) ∧ 0 ≤ j % 2) = (s8 b 4 = 0 ∧ r = cn s8 b) := by
          apply propext
          omega
        simp only [e]
      · rw [if_neg q, if_neg (fun h => by omega), if_neg (fun h => q h.1)]) (fun _ _ => rfl))
    clear ih
    unfold d_X4_findMove_21
    rw [s07, if_pos (by omega), if_neg (by omega), a1, Option.bind_some, e3]
    exact ⟨z, s', d1, d2, fun q hq => by rw [d3 q hq, a3 q hq]⟩
theorem num4 : ∀ k : Nat, k < 8 → (200 : Int) ^ k * (200 * 200 ^ (k + 1)) ≤ 9223372036854775807 * 9223372036854775807 := by decide +kernel
theorem Tg_ok {s3 s8 s7 : zZ} {ks : List Int} (R : ND s3 s8 ks s7) {B N : Nat} (hB : s7 0 25 = B) (hN : N ≤ 8) {sg : Int} (hs : sg = 1 ∨ sg = -1) : ∀ q, q < N → Okc (cn s8 B) N q (clr (cn s8 B) (0, 1, Tg s3 s8 B sg, fun _ => -1) q) := by
  have kx : ∀ q, q ≤ N → (clr (cn s8 B) (0, 1, Tg s3 s8 B sg, fun _ => -1) q).1 ≤ 8 := fun q hq => Nat.le_trans (clr_lt (cn s8 B) (c := 0) q).1 (by omega)
  exact clr_ok (K := 200) (A := 200) (kx := 8) (by decide) (Nat.le_refl _) (fun j _ => Tg_nv R hB hs j) (fun j _ => Tg_nv R hB hs j) kx (by decide +kernel) (by decide +kernel) (fun k hk => num4 k (by omega))
def XG (s3 s8 : zZ) (B N : Nat) (sg : Int) : Nat × Int × (Nat → Nat → Int) × (Nat → Int) := clr (cn s8 B) (0, 1, Tg s3 s8 B sg, fun _ => -1) N
theorem e_fm140 {s s8 : zZ} {ks : List Int} {ways : Int} {n c k : Nat} {D : Int} {T : Nat → Nat → Int} {L : Nat → Int} (H : TSg s n c k D T L) {o : Nat} (ho : o < c) (hL : L o = -1) (hL2 : ∀ j, j < c → j ≠ o → ∃ i : Nat, L j = i ∧ i < k) : ∀ (m j f : Nat), o + m = j → j < c → m + 1 ≤ f → d_X4_findMove_140 s s8 ks ways f j = some (o : Int) := by
  have h0 := H.1
  intro m
  induction m with
  | zero =>
    intro j f hj hjc hf
    obtain ⟨f, rfl⟩ : ∃ g, f = g + 1 := ⟨f - 1, by omega⟩
    have e : j = o := by omega
    subst e
    unfold d_X4_findMove_140
    rw [if_pos (by omega)]
    by_cases q : (j : Int) ≤ 0
    · rw [if_pos q]
    · rw [if_neg q, e_leadsg H (by omega), if_pos (by omega), Option.bind_some, Int.toNat_natCast, hL, if_pos (by decide), if_pos (by decide)]
  | succ m ih =>
    intro j f hj hjc hf
    obtain ⟨f, rfl⟩ : ∃ g, f = g + 1 := ⟨f - 1, by omega⟩
    obtain ⟨i, i1, i2⟩ := hL2 j hjc (by omega)
    unfold d_X4_findMove_140
    rw [if_pos (by omega), if_neg (by omega), e_leadsg H (by omega), if_pos (by omega), Option.bind_some, Int.toNat_natCast, i1, if_pos (by omega), if_neg (by omega), show (j : Int) + -1 = ((j - 1 : Nat) : Int) by omega]
    exact ih (j - 1) f (by omega) (by omega) (by omega)
theorem TSg_hi {s s' : zZ} {n c k : Nat} {D : Int} {T : Nat → Nat → Int} {L : Nat → Int} (hs : ∀ q, 24 ≤ q → q < 43 → s' q = s q) (H : TSg s n c k D T L) : TSg s' n c k D T L := by
  obtain ⟨h0, h1, h2, h4, h5, h6, h7, hp, ht, hl⟩ := H
  unfold TSg PVg tbg
  rw [hs 24 (by decide) (by decide), hs 25 (by decide) (by decide), hs 42 (by decide) (by decide)]
  refine ⟨h0, h1, h2, h4, h5, h6, h7, hp, fun r j hr hj => ?_, hl⟩
  have p := hp r (by omega)
  rw [hs _ (by omega) (by omega)]
  exact ht r j hr hj
theorem e_fm163 {s8 : zZ} {ks : List Int} {n c k : Nat} {D : Int} {T : Nat → Nat → Int} {L : Nat → Int} {o : Nat} (ho : o < c) (hL2 : ∀ j, j < c → j ≠ o → ∃ i : Nat, L j = i ∧ i < k) : ∀ (m j f : Nat) (s : zZ), j + m = c → m + 1 ≤ f → TSg s n c k D T L → (∀ x, x < j → s 43 x = if x = o then D else - T (L x).toNat o) → ∃ z s', d_X4_findMove_163 s8 ks c o f j s = some (z, s') ∧ (∀ q, q ≠ 43 → s' q = s q) ∧ ∀ x, x < c → s' 43 x = if x = o then D else - T (L x).toNat o := by
  intro m
  induction m with
  | zero =>
    intro j f s hj hf H h
    obtain ⟨f, rfl⟩ : ∃ g, f = g + 1 := ⟨f - 1, by omega⟩
    have h0 := H.1
    unfold d_X4_findMove_163
    rw [if_pos (by omega), if_pos (by omega)]
    exact ⟨_, _, rfl, fun _ _ => rfl, fun x hx => h x (by omega)⟩
  | succ m ih =>
    intro j f s hj hf H h
    obtain ⟨f, rfl⟩ : ∃ g, f = g + 1 := ⟨f - 1, by omega⟩
    have h0 := H.1
    have e3 : ((j : Int) + 1) = ((j + 1 : Nat) : Int) := by omega
    have go : ∀ v, v = (if j = o then D else - T (L j).toNat o) → ∃ z s', d_X4_findMove_163 s8 ks c o f ((j + 1 : Nat) : Int) (upz s 43 j v) = some (z, s') ∧ (∀ q, q ≠ 43 → s' q = s q) ∧ ∀ x, x < c → s' 43 x = if x = o then D else - T (L x).toNat o := by
      intro v hv
      obtain ⟨z, s', a1, a2, a3⟩ := ih (j + 1) f (upz s 43 j v) (by omega) (by omega) (TSg_hi (fun q h1 h2 => upz_ne _ _ _ _ (by omega)) H) (fun x hx => by
        rw [upz_at, if_pos rfl]
        by_cases e : x = j
        · rw [if_pos e, hv, e]
        · rw [if_neg e]
          exact h x (by omega))
      exact ⟨z, s', a1, fun q hq => by rw [a2 q hq, upz_ne _ _ _ _ hq], a3⟩
    clear ih
    unfold d_X4_findMove_163
    rw [if_pos (by omega), if_neg (by omega), if_pos (by omega), e3, Int.toNat_natCast]
    by_cases q : j = o
    · rw [if_neg (by omega), if_pos (by omega), H.2.2.2.2.2.2.1]
      exact go D (by rw [if_pos q])
    · obtain ⟨i, i1, i2⟩ := hL2 j (by omega) q
      rw [if_pos (by omega), e_leadsg H (by omega), if_pos (by omega), Option.bind_some, Int.toNat_natCast, i1, e_numberg H (by omega) (by omega), if_pos (by omega), Option.bind_some, if_pos (by omega), Int.toNat_natCast, Int.toNat_natCast]
      exact go _ (by rw [if_neg q, i1, Int.toNat_natCast])
