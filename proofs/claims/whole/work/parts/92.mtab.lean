/-! the table f -/
def tbf (s : zZ) (r j : Nat) : Int := s (15 + (s 14 r).toNat) j
def PVf (s : zZ) : Prop := ∀ r, r < 8 → 0 ≤ s 14 r ∧ s 14 r < 8 ∧ ∀ r', r' < 8 → s 14 r' = s 14 r → r' = r
def TSf (s : zZ) (n c k : Nat) (D : Int) (T : Nat → Nat → Int) (L : Nat → Int) : Prop := (n ≤ 8 ∧ c ≤ 22 ∧ k ≤ n) ∧ s 13 0 = 8 ∧ s 13 1 = 22 ∧ s 13 4 = n ∧ s 13 5 = c ∧ s 13 6 = k ∧ s 13 7 = D ∧ PVf s ∧ (∀ r j, r < n → j < c → tbf s r j = T r j) ∧ (∀ j, j < c → s 23 j = L j)
theorem e_isTheref {s : zZ} {n c k : Nat} {D : Int} {T : Nat → Nat → Int} {L : Nat → Int} (H : TSf s n c k D T L) {row col : Int} (hr : zr row) (hc : zr col) : d_X9f_isThere s row col = some (if 0 ≤ row ∧ row < n ∧ 0 ≤ col ∧ col < c then 1 else 0) := by
  obtain ⟨h0, h1, h2, h4, h5, h6, h7, hp, ht, hl⟩ := H
  unfold d_X9f_isThere
  rw [h4, h5]
  repeat' split
  all_goals first | rfl | (exfalso; omega)
theorem e_numberf {s : zZ} {n c k : Nat} {D : Int} {T : Nat → Nat → Int} {L : Nat → Int} (H : TSf s n c k D T L) {row col : Int} (hr : zr row) (hc : zr col) : d_X9f_number s row col = some (if 0 ≤ row ∧ row < n ∧ 0 ≤ col ∧ col < c then T row.toNat col.toNat else 0) := by
  unfold d_X9f_number
  rw [e_isTheref H hr hc, Option.bind_some]
  obtain ⟨h0, h1, h2, h4, h5, h6, h7, hp, ht, hl⟩ := H
  by_cases q : 0 ≤ row ∧ row < n ∧ 0 ≤ col ∧ col < c
  · have P := hp row.toNat (by omega)
    have e := ht row.toNat col.toNat (by omega) (by omega)
    unfold tbf at e
    simp (disch := omega) only [↓if_pos, ↓if_neg]
    rw [e]
  · simp (disch := omega) only [↓if_pos, ↓if_neg]
theorem e_leadsf {s : zZ} {n c k : Nat} {D : Int} {T : Nat → Nat → Int} {L : Nat → Int} (H : TSf s n c k D T L) {col : Int} (hc : zr col) : d_X9f_leads s col = some (if 0 ≤ col ∧ col < c then L col.toNat else -1) := by
  obtain ⟨h0, h1, h2, h4, h5, h6, h7, hp, ht, hl⟩ := H
  unfold d_X9f_leads
  rw [h5]
  by_cases q : 0 ≤ col ∧ col < c
  · simp (disch := omega) only [↓if_pos, ↓if_neg]
    rw [hl col.toNat (by omega)]
  · by_cases q2 : col < 0
    · simp (disch := omega) only [↓if_pos, ↓if_neg]
    · simp (disch := omega) only [↓if_pos, ↓if_neg]
/-- writing a number: physical row w of the table -/
theorem TSf_put {s : zZ} {n c k : Nat} {D : Int} {T : Nat → Nat → Int} {L : Nat → Int} (H : TSf s n c k D T L) {r0 j0 : Nat} (hr : r0 < 8) {x : Int} : TSf (upz s (15 + (s 14 r0).toNat) j0 x) n c k D (fun r j => if r = r0 ∧ j = j0 then x else T r j) L := by
  obtain ⟨h0, h1, h2, h4, h5, h6, h7, hp, ht, hl⟩ := H
  have P := hp r0 hr
  have u : ∀ q, (q < 15 ∨ 23 ≤ q) → upz s (15 + (s 14 r0).toNat) j0 x q = s q := fun q hq => upz_ne _ _ _ _ (by omega)
  refine ⟨h0, by rw [u 13 (by omega)]; exact h1, by rw [u 13 (by omega)]; exact h2, by rw [u 13 (by omega)]; exact h4, by rw [u 13 (by omega)]; exact h5, by rw [u 13 (by omega)]; exact h6, by rw [u 13 (by omega)]; exact h7, ?_, fun r j hr2 hj => ?_, by rw [u 23 (by omega)]; exact hl⟩
  · unfold PVf
    rw [u 14 (by omega)]
    exact hp
  · show tbf (upz s (15 + (s 14 r0).toNat) j0 x) r j = if r = r0 ∧ j = j0 then x else T r j
    unfold tbf
    rw [u 14 (by omega), upz_at]
    have Q := hp r (by omega)
    have e := ht r j hr2 hj
    unfold tbf at e
    by_cases q : r = r0
    · subst q
      rw [if_pos rfl]
      by_cases q2 : j = j0
      · rw [if_pos q2, if_pos ⟨rfl, q2⟩]
      · rw [if_neg q2, if_neg (fun h => q2 h.2)]
        exact e
    · have : s 14 r ≠ s 14 r0 := fun h => q (P.2.2 r (by omega) h)
      rw [if_neg (by omega), if_neg (fun h => q h.1)]
      exact e
theorem e_addf {s : zZ} {n c k : Nat} {D : Int} {T : Nat → Nat → Int} {L : Nat → Int} (H : TSf s n c k D T L) {row col num : Int} (hr : zr row) (hc : zr col) : ∃ s', d_X9f_add s row col num = some s' ∧ TSf s' n c k D (fun r j => if (r : Int) = row ∧ (j : Int) = col then T r j + num else T r j) L ∧ (∀ q, q < 15 ∨ 23 ≤ q → s' q = s q) := by
  unfold d_X9f_add
  rw [e_isTheref H hr hc, Option.bind_some]
  have H' := H
  obtain ⟨h0, h1, h2, h4, h5, h6, h7, hp, ht, hl⟩ := H'
  by_cases q : 0 ≤ row ∧ row < n ∧ 0 ≤ col ∧ col < c
  · obtain ⟨r0, rfl⟩ : ∃ r0 : Nat, row = r0 := ⟨row.toNat, by omega⟩
    obtain ⟨j0, rfl⟩ : ∃ j0 : Nat, col = j0 := ⟨col.toNat, by omega⟩
    have P := hp r0 (by omega)
    have e := ht r0 j0 (by omega) (by omega)
    unfold tbf at e
    simp only [Int.toNat_natCast, e]
    simp (disch := omega) only [↓if_pos, ↓if_neg]
    refine ⟨_, rfl, ?_, fun q hq => upz_ne _ _ _ _ (by omega)⟩
    have K := TSf_put H (r0 := r0) (j0 := j0) (by omega) (x := T r0 j0 + num)
    obtain ⟨g0, g1, g2, g4, g5, g6, g7, gp, gt, gl⟩ := K
    refine ⟨g0, g1, g2, g4, g5, g6, g7, gp, fun r j hr2 hj => ?_, gl⟩
    rw [gt r j hr2 hj]
    dsimp only
    by_cases w : r = r0 ∧ j = j0
    · rw [if_pos w, if_pos (by omega), w.1, w.2]
    · rw [if_neg w, if_neg (by omega)]
  · simp (disch := omega) only [↓if_pos, ↓if_neg]
    refine ⟨_, rfl, ⟨h0, h1, h2, h4, h5, h6, h7, hp, fun r j hr2 hj => ?_, hl⟩, fun _ _ => rfl⟩
    dsimp only
    rw [if_neg (by omega)]
    exact ht r j hr2 hj
theorem e_begin44f {nr nc : Int} : ∀ (m r f : Nat) (s : zZ), r + m = 8 → m + 1 ≤ f → s 13 0 = 8 → PVf s → (∀ i j, i < r → j < 22 → tbf s i j = 0) → ∃ z s', d_X9f_begin_44 nr nc f r s = some (z, s') ∧ (∀ q, q < 15 ∨ 23 ≤ q → s' q = s q) ∧ ∀ i j, i < 8 → j < 22 → tbf s' i j = 0 := by
  intro m
  induction m with
  | zero =>
    intro r f s hr hf h0 hp h
    obtain ⟨f, rfl⟩ : ∃ g, f = g + 1 := ⟨f - 1, by omega⟩
    unfold d_X9f_begin_44
    rw [h0, if_pos (by omega), if_pos (by omega)]
    exact ⟨_, _, rfl, fun _ _ => rfl, fun i j hi hj => h i j (by omega) hj⟩
  | succ m ih =>
    intro r f s hr hf h0 hp h
    obtain ⟨f, rfl⟩ : ∃ g, f = g + 1 := ⟨f - 1, by omega⟩
    unfold d_X9f_begin_44
    have P := hp r (by omega)
    have e3 : ((r : Int) + 1) = ((r + 1 : Nat) : Int) := by omega
    simp only [Int.toNat_natCast, e3, h0]
    rw [if_pos (by omega), if_neg (by omega), if_pos (by omega), if_pos (by omega)]
    have u : ∀ q, (q < 15 ∨ 23 ≤ q) → zfl s (15 + (s 14 r).toNat) 22 0 q = s q := fun q hq => by
      funext j
      rw [zfl_at, if_neg (by omega)]
    obtain ⟨z, s', a1, a2, a3⟩ := ih (r + 1) f (zfl s (15 + (s 14 r).toNat) 22 0) (by omega) (by omega) (by rw [u 13 (by omega)]; exact h0) (by unfold PVf; rw [u 14 (by omega)]; exact hp) (fun i j hi hj => by
      unfold tbf
      rw [u 14 (by omega), zfl_at]
      by_cases q : i = r
      · rw [q, if_pos rfl, if_pos hj]
      · have : s 14 i ≠ s 14 r := fun h => q (P.2.2 i (by omega) h)
        have Q := hp i (by omega)
        rw [if_neg (by omega)]
        exact h i j (by omega) hj)
    exact ⟨z, s', a1, fun q hq => by rw [a2 q hq, u q hq], a3⟩
theorem e_beginf {s : zZ} (h0 : s 13 0 = 8) (h1 : s 13 1 = 22) (hp : PVf s) {n c : Nat} (hn : n ≤ 8) (hc : c ≤ 22) : ∃ s', d_X9f_begin s n c = some s' ∧ TSf s' n c 0 1 (fun _ _ => 0) (fun _ => -1) ∧ (∀ q, q < 13 ∨ 23 < q → s' q = s q) := by
  unfold d_X9f_begin
  have m1 : d_J9_min_7cf53 (n : Int) 8 = some (n : Int) := by rw [e_J9min (by omega) (by omega), if_pos (by omega)]
  have m2 : d_J9_max_7cf53 0 (n : Int) = some (n : Int) := by rw [e_J9max (by omega) (by omega), if_pos (by omega)]
  have m3 : d_J9_min_7cf53 (c : Int) 22 = some (c : Int) := by rw [e_J9min (by omega) (by omega), if_pos (by omega)]
  have m4 : d_J9_max_7cf53 0 (c : Int) = some (c : Int) := by rw [e_J9max (by omega) (by omega), if_pos (by omega)]
  have u1 : ∀ v, upz s 13 4 v 13 1 = 22 := fun v => by rw [upz_at, if_pos rfl, if_neg (by decide)]; exact h1
  rw [h0, m1, Option.bind_some, m2, Option.bind_some, u1, m3, Option.bind_some, m4, Option.bind_some]
  have v : ∀ q, q ≠ 13 → upz (upz (upz (upz s 13 4 n) 13 5 c) 13 6 0) 13 7 1 q = s q := fun q hq => by rw [upz_ne _ _ _ _ hq, upz_ne _ _ _ _ hq, upz_ne _ _ _ _ hq, upz_ne _ _ _ _ hq]
  have w : ∀ j, upz (upz (upz (upz s 13 4 n) 13 5 c) 13 6 0) 13 7 1 13 j = if j = 7 then 1 else if j = 6 then 0 else if j = 5 then (c : Int) else if j = 4 then (n : Int) else s 13 j := fun j => by
    rw [upz_at, if_pos rfl, upz_at, if_pos rfl, upz_at, if_pos rfl, upz_at, if_pos rfl]
  obtain ⟨z, s1, a1, a2, a3⟩ := e_begin44f (nr := (n : Int)) (nc := (c : Int)) 8 0 zF (upz (upz (upz (upz s 13 4 n) 13 5 c) 13 6 0) 13 7 1) (by omega) (by unfold zF; omega) (by rw [w]; exact h0) (by unfold PVf; rw [v 14 (by decide)]; exact hp) (fun i j hi => by omega)
  rw [show ((0 : Nat) : Int) = 0 from rfl] at a1
  rw [a1, Option.bind_some]
  dsimp only
  have y : ∀ q, q ≠ 23 → zfl s1 23 22 (-1) q = s1 q := fun q hq => by
    funext j
    rw [zfl_at, if_neg hq]
  refine ⟨_, rfl, ⟨⟨hn, hc, Nat.zero_le _⟩, ?_, ?_, ?_, ?_, ?_, ?_, ?_, fun r j hr hj => ?_, fun j hj => ?_⟩, fun q hq => ?_⟩
  · rw [y 13 (by decide), a2 13 (by omega), w]; exact h0
  · rw [y 13 (by decide), a2 13 (by omega), w]; exact h1
  · rw [y 13 (by decide), a2 13 (by omega), w]; rfl
  · rw [y 13 (by decide), a2 13 (by omega), w]; rfl
  · rw [y 13 (by decide), a2 13 (by omega), w]; rfl
  · rw [y 13 (by decide), a2 13 (by omega), w]; rfl
  · unfold PVf
    rw [y 14 (by decide), a2 14 (by omega), v 14 (by decide)]
    exact hp
  · have Q := hp r (by omega)
    have e := a3 r j (by omega) (by omega)
    unfold tbf at e ⊢
    have pm : s1 14 = s 14 := by rw [a2 14 (by omega), v 14 (by decide)]
    rw [pm] at e
    rw [y 14 (by decide), pm, y _ (by omega)]
    exact e
  · rw [zfl_at, if_pos rfl, if_pos (by omega)]
  · rw [y q (by omega), a2 q (by omega), v q (by omega)]
def fpv (n : Nat) (T : Nat → Nat → Int) (col : Nat) : Nat → Nat → Nat
  | 0, r => r
  | m + 1, r => if T r col = 0 then fpv n T col m (r + 1) else r
/-! the table g -/
def tbg (s : zZ) (r j : Nat) : Int := s (26 + (s 25 r).toNat) j
def PVg (s : zZ) : Prop := ∀ r, r < 16 → 0 ≤ s 25 r ∧ s 25 r < 16 ∧ ∀ r', r' < 16 → s 25 r' = s 25 r → r' = r
def TSg (s : zZ) (n c k : Nat) (D : Int) (T : Nat → Nat → Int) (L : Nat → Int) : Prop := (n ≤ 16 ∧ c ≤ 8 ∧ k ≤ n) ∧ s 24 0 = 16 ∧ s 24 1 = 8 ∧ s 24 4 = n ∧ s 24 5 = c ∧ s 24 6 = k ∧ s 24 7 = D ∧ PVg s ∧ (∀ r j, r < n → j < c → tbg s r j = T r j) ∧ (∀ j, j < c → s 42 j = L j)
theorem e_isThereg {s : zZ} {n c k : Nat} {D : Int} {T : Nat → Nat → Int} {L : Nat → Int} (H : TSg s n c k D T L) {row col : Int} (hr : zr row) (hc : zr col) : d_X9g_isThere s row col = some (if 0 ≤ row ∧ row < n ∧ 0 ≤ col ∧ col < c then 1 else 0) := by
  obtain ⟨h0, h1, h2, h4, h5, h6, h7, hp, ht, hl⟩ := H
  unfold d_X9g_isThere
  rw [h4, h5]
  repeat' split
  all_goals first | rfl | (exfalso; omega)
theorem e_numberg {s : zZ} {n c k : Nat} {D : Int} {T : Nat → Nat → Int} {L : Nat → Int} (H : TSg s n c k D T L) {row col : Int} (hr : zr row) (hc : zr col) : d_X9g_number s row col = some (if 0 ≤ row ∧ row < n ∧ 0 ≤ col ∧ col < c then T row.toNat col.toNat else 0) := by
  unfold d_X9g_number
  rw [e_isThereg H hr hc, Option.bind_some]
  obtain ⟨h0, h1, h2, h4, h5, h6, h7, hp, ht, hl⟩ := H
  by_cases q : 0 ≤ row ∧ row < n ∧ 0 ≤ col ∧ col < c
  · have P := hp row.toNat (by omega)
    have e := ht row.toNat col.toNat (by omega) (by omega)
    unfold tbg at e
    simp (disch := omega) only [↓if_pos, ↓if_neg]
    rw [e]
  · simp (disch := omega) only [↓if_pos, ↓if_neg]
theorem e_leadsg {s : zZ} {n c k : Nat} {D : Int} {T : Nat → Nat → Int} {L : Nat → Int} (H : TSg s n c k D T L) {col : Int} (hc : zr col) : d_X9g_leads s col = some (if 0 ≤ col ∧ col < c then L col.toNat else -1) := by
  obtain ⟨h0, h1, h2, h4, h5, h6, h7, hp, ht, hl⟩ := H
  unfold d_X9g_leads
  rw [h5]
  by_cases q : 0 ≤ col ∧ col < c
  · simp (disch := omega) only [↓if_pos, ↓if_neg]
    rw [hl col.toNat (by omega)]
  · by_cases q2 : col < 0
    · simp (disch := omega) only [↓if_pos, ↓if_neg]
    · simp (disch := omega) only [↓if_pos, ↓if_neg]
/-- writing a number: physical row w of the table -/
theorem TSg_put {s : zZ} {n c k : Nat} {D : Int} {T : Nat → Nat → Int} {L : Nat → Int} (H : TSg s n c k D T L) {r0 j0 : Nat} (hr : r0 < 16) {x : Int} : TSg (upz s (26 + (s 25 r0).toNat) j0 x) n c k D (fun r j => if r = r0 ∧ j = j0 then x else T r j) L := by
  obtain ⟨h0, h1, h2, h4, h5, h6, h7, hp, ht, hl⟩ := H
  have P := hp r0 hr
  have u : ∀ q, (q < 26 ∨ 42 ≤ q) → upz s (26 + (s 25 r0).toNat) j0 x q = s q := fun q hq => upz_ne _ _ _ _ (by omega)
  refine ⟨h0, by rw [u 24 (by omega)]; exact h1, by rw [u 24 (by omega)]; exact h2, by rw [u 24 (by omega)]; exact h4, by rw [u 24 (by omega)]; exact h5, by rw [u 24 (by omega)]; exact h6, by rw [u 24 (by omega)]; exact h7, ?_, fun r j hr2 hj => ?_, by rw [u 42 (by omega)]; exact hl⟩
  · unfold PVg
    rw [u 25 (by omega)]
    exact hp
  · show tbg (upz s (26 + (s 25 r0).toNat) j0 x) r j = if r = r0 ∧ j = j0 then x else T r j
    unfold tbg
    rw [u 25 (by omega), upz_at]
    have Q := hp r (by omega)
    have e := ht r j hr2 hj
    unfold tbg at e
    by_cases q : r = r0
    · subst q
      rw [if_pos rfl]
      by_cases q2 : j = j0
      · rw [if_pos q2, if_pos ⟨rfl, q2⟩]
      · rw [if_neg q2, if_neg (fun h => q2 h.2)]
        exact e
    · have : s 25 r ≠ s 25 r0 := fun h => q (P.2.2 r (by omega) h)
      rw [if_neg (by omega), if_neg (fun h => q h.1)]
      exact e
theorem e_addg {s : zZ} {n c k : Nat} {D : Int} {T : Nat → Nat → Int} {L : Nat → Int} (H : TSg s n c k D T L) {row col num : Int} (hr : zr row) (hc : zr col) : ∃ s', d_X9g_add s row col num = some s' ∧ TSg s' n c k D (fun r j => if (r : Int) = row ∧ (j : Int) = col then T r j + num else T r j) L ∧ (∀ q, q < 26 ∨ 42 ≤ q → s' q = s q) := by
  unfold d_X9g_add
  rw [e_isThereg H hr hc, Option.bind_some]
  have H' := H
  obtain ⟨h0, h1, h2, h4, h5, h6, h7, hp, ht, hl⟩ := H'
  by_cases q : 0 ≤ row ∧ row < n ∧ 0 ≤ col ∧ col < c
  · obtain ⟨r0, rfl⟩ : ∃ r0 : Nat, row = r0 := ⟨row.toNat, by omega⟩
    obtain ⟨j0, rfl⟩ : ∃ j0 : Nat, col = j0 := ⟨col.toNat, by omega⟩
    have P := hp r0 (by omega)
    have e := ht r0 j0 (by omega) (by omega)
    unfold tbg at e
    simp only [Int.toNat_natCast, e]
    simp (disch := omega) only [↓if_pos, ↓if_neg]
    refine ⟨_, rfl, ?_, fun q hq => upz_ne _ _ _ _ (by omega)⟩
    have K := TSg_put H (r0 := r0) (j0 := j0) (by omega) (x := T r0 j0 + num)
    obtain ⟨g0, g1, g2, g4, g5, g6, g7, gp, gt, gl⟩ := K
    refine ⟨g0, g1, g2, g4, g5, g6, g7, gp, fun r j hr2 hj => ?_, gl⟩
    rw [gt r j hr2 hj]
    dsimp only
    by_cases w : r = r0 ∧ j = j0
    · rw [if_pos w, if_pos (by omega), w.1, w.2]
    · rw [if_neg w, if_neg (by omega)]
  · simp (disch := omega) only [↓if_pos, ↓if_neg]
    refine ⟨_, rfl, ⟨h0, h1, h2, h4, h5, h6, h7, hp, fun r j hr2 hj => ?_, hl⟩, fun _ _ => rfl⟩
    dsimp only
    rw [if_neg (by omega)]
    exact ht r j hr2 hj
theorem e_begin44g {nr nc : Int} : ∀ (m r f : Nat) (s : zZ), r + m = 16 → m + 1 ≤ f → s 24 0 = 16 → PVg s → (∀ i j, i < r → j < 8 → tbg s i j = 0) → ∃ z s', d_X9g_begin_44 nr nc f r s = some (z, s') ∧ (∀ q, q < 26 ∨ 42 ≤ q → s' q = s q) ∧ ∀ i j, i < 16 → j < 8 → tbg s' i j = 0 := by
  intro m
  induction m with
  | zero =>
    intro r f s hr hf h0 hp h
    obtain ⟨f, rfl⟩ : ∃ g, f = g + 1 := ⟨f - 1, by omega⟩
    unfold d_X9g_begin_44
    rw [h0, if_pos (by omega), if_pos (by omega)]
    exact ⟨_, _, rfl, fun _ _ => rfl, fun i j hi hj => h i j (by omega) hj⟩
  | succ m ih =>
    intro r f s hr hf h0 hp h
    obtain ⟨f, rfl⟩ : ∃ g, f = g + 1 := ⟨f - 1, by omega⟩
    unfold d_X9g_begin_44
    have P := hp r (by omega)
    have e3 : ((r : Int) + 1) = ((r + 1 : Nat) : Int) := by omega
    simp only [Int.toNat_natCast, e3, h0]
    rw [if_pos (by omega), if_neg (by omega), if_pos (by omega), if_pos (by omega)]
    have u : ∀ q, (q < 26 ∨ 42 ≤ q) → zfl s (26 + (s 25 r).toNat) 8 0 q = s q := fun q hq => by
      funext j
      rw [zfl_at, if_neg (by omega)]
    obtain ⟨z, s', a1, a2, a3⟩ := ih (r + 1) f (zfl s (26 + (s 25 r).toNat) 8 0) (by omega) (by omega) (by rw [u 24 (by omega)]; exact h0) (by unfold PVg; rw [u 25 (by omega)]; exact hp) (fun i j hi hj => by
      unfold tbg
      rw [u 25 (by omega), zfl_at]
      by_cases q : i = r
      · rw [q, if_pos rfl, if_pos hj]
      · have : s 25 i ≠ s 25 r := fun h => q (P.2.2 i (by omega) h)
        have Q := hp i (by omega)
        rw [if_neg (by omega)]
        exact h i j (by omega) hj)
    exact ⟨z, s', a1, fun q hq => by rw [a2 q hq, u q hq], a3⟩
theorem e_beging {s : zZ} (h0 : s 24 0 = 16) (h1 : s 24 1 = 8) (hp : PVg s) {n c : Nat} (hn : n ≤ 16) (hc : c ≤ 8) : ∃ s', d_X9g_begin s n c = some s' ∧ TSg s' n c 0 1 (fun _ _ => 0) (fun _ => -1) ∧ (∀ q, q < 24 ∨ 42 < q → s' q = s q) := by
  unfold d_X9g_begin
  have m1 : d_J9_min_7cf53 (n : Int) 16 = some (n : Int) := by rw [e_J9min (by omega) (by omega), if_pos (by omega)]
  have m2 : d_J9_max_7cf53 0 (n : Int) = some (n : Int) := by rw [e_J9max (by omega) (by omega), if_pos (by omega)]
  have m3 : d_J9_min_7cf53 (c : Int) 8 = some (c : Int) := by rw [e_J9min (by omega) (by omega), if_pos (by omega)]
  have m4 : d_J9_max_7cf53 0 (c : Int) = some (c : Int) := by rw [e_J9max (by omega) (by omega), if_pos (by omega)]
  have u1 : ∀ v, upz s 24 4 v 24 1 = 8 := fun v => by rw [upz_at, if_pos rfl, if_neg (by decide)]; exact h1
  rw [h0, m1, Option.bind_some, m2, Option.bind_some, u1, m3, Option.bind_some, m4, Option.bind_some]
  have v : ∀ q, q ≠ 24 → upz (upz (upz (upz s 24 4 n) 24 5 c) 24 6 0) 24 7 1 q = s q := fun q hq => by rw [upz_ne _ _ _ _ hq, upz_ne _ _ _ _ hq, upz_ne _ _ _ _ hq, upz_ne _ _ _ _ hq]
  have w : ∀ j, upz (upz (upz (upz s 24 4 n) 24 5 c) 24 6 0) 24 7 1 24 j = if j = 7 then 1 else if j = 6 then 0 else if j = 5 then (c : Int) else if j = 4 then (n : Int) else s 24 j := fun j => by
    rw [upz_at, if_pos rfl, upz_at, if_pos rfl, upz_at, if_pos rfl, upz_at, if_pos rfl]
  obtain ⟨z, s1, a1, a2, a3⟩ := e_begin44g (nr := (n : Int)) (nc := (c : Int)) 16 0 zF (upz (upz (upz (upz s 24 4 n) 24 5 c) 24 6 0) 24 7 1) (by omega) (by unfold zF; omega) (by rw [w]; exact h0) (by unfold PVg; rw [v 25 (by decide)]; exact hp) (fun i j hi => by omega)
  rw [show ((0 : Nat) : Int) = 0 from rfl] at a1
  rw [a1, Option.bind_some]
  dsimp only
  have y : ∀ q, q ≠ 42 → zfl s1 42 8 (-1) q = s1 q := fun q hq => by
    funext j
    rw [zfl_at, if_neg hq]
  refine ⟨_, rfl, ⟨⟨hn, hc, Nat.zero_le _⟩, ?_, ?_, ?_, ?_, ?_, ?_, ?_, fun r j hr hj => ?_, fun j hj => ?_⟩, fun q hq => ?_⟩
  · rw [y 24 (by decide), a2 24 (by omega), w]; exact h0
  · rw [y 24 (by decide), a2 24 (by omega), w]; exact h1
  · rw [y 24 (by decide), a2 24 (by omega), w]; rfl
  · rw [y 24 (by decide), a2 24 (by omega), w]; rfl
  · rw [y 24 (by decide), a2 24 (by omega), w]; rfl
  · rw [y 24 (by decide), a2 24 (by omega), w]; rfl
  · unfold PVg
    rw [y 25 (by decide), a2 25 (by omega), v 25 (by decide)]
    exact hp
  · have Q := hp r (by omega)
    have e := a3 r j (by omega) (by omega)
    unfold tbg at e ⊢
    have pm : s1 25 = s 25 := by rw [a2 25 (by omega), v 25 (by decide)]
    rw [pm] at e
    rw [y 25 (by decide), pm, y _ (by omega)]
    exact e
  · rw [zfl_at, if_pos rfl, if_pos (by omega)]
  · rw [y q (by omega), a2 q (by omega), v q (by omega)]
