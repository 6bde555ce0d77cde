/-! the net: reckoning in the class -/
theorem e_rk84 {s3 s8 s7 : zZ} {ks : List Int} (R : ND s3 s8 ks s7) {s8' : zZ} {cr x : Nat} (h11 : s3 0 11 = cr) (hx : x < 6) {n k : Nat} (hn : s7 0 21 * 2 = n) {D : Int} {L : Nat → Int} {T : Nat → Nat → Int} : ∀ (m v f : Nat) (s : zZ), v + m = n → m + 1 ≤ f → (∀ q, q < 13 → s q = s3 q) → TSf s n (cr + 6) k D (fun r j => T r j + (if j = cr + x ∧ r < v then - s3 (7 + x) r else 0)) L → ∃ z s', d_X4_reckon_84 s8' ks x f v s = some (z, s') ∧ TSf s' n (cr + 6) k D (fun r j => T r j + (if j = cr + x then - s3 (7 + x) r else 0)) L ∧ (∀ q, q < 15 ∨ 23 ≤ q → s' q = s q) := by
  obtain ⟨r1, r2, r3, r4, r5, r6, r7, r8, r9, r10, _⟩ := R
  intro m
  induction m with
  | zero =>
    intro v f s hv hf hs H
    obtain ⟨f, rfl⟩ : ∃ g, f = g + 1 := ⟨f - 1, by omega⟩
    unfold d_X4_reckon_84
    rw [hs 0 (by omega), r2.1, if_pos (by omega), if_pos (by omega)]
    refine ⟨_, _, rfl, TSf_congr H (fun r j hr _ => ?_) (fun _ _ => rfl), fun _ _ => rfl⟩
    have e : (j = cr + x ∧ r < v) = (j = cr + x) := by apply propext; omega
    simp only [e]
  | succ m ih =>
    intro v f s hv hf hs H
    obtain ⟨f, rfl⟩ : ∃ g, f = g + 1 := ⟨f - 1, by omega⟩
    unfold d_X4_reckon_84
    have Lx := r10 x v hx (by omega)
    have c22 := H.1.2.1
    have e3 : ((v : Int) + 1) = ((v + 1 : Nat) : Int) := by omega
    simp only [hs 0 (by omega), hs (7 + x) (by omega), r2.1, h11, Int.toNat_natCast, e3]
    rw [if_pos (by omega), if_neg (by omega), if_pos (by omega), if_pos (by omega), if_pos (by omega)]
    obtain ⟨s1, a1, a2, a3⟩ := e_addf H (row := (v : Int)) (col := (cr : Int) + x) (num := - s3 (7 + x) v) (by omega) (by omega)
    rw [a1, Option.bind_some]
    obtain ⟨z, s2, b1, b2, b3⟩ := ih (v + 1) f s1 (by omega) (by omega) (fun q hq => by rw [a3 q (by omega)]; exact hs q hq) (TSf_congr a2 (fun r j _ _ => by
      by_cases q : r = v ∧ j = cr + x
      · obtain ⟨rfl, rfl⟩ := q
        rw [if_pos (by omega), if_neg (by omega), if_pos (by omega)]
        omega
      · rw [if_neg (by omega)]
        have e : (j = cr + x ∧ r < v) = (j = cr + x ∧ r < v + 1) := by apply propext; omega
        simp only [e]) (fun _ _ => rfl))
    exact ⟨z, s2, b1, b2, fun q hq => by rw [b3 q hq, a3 q hq]⟩
theorem e_rk76 {s3 s8 s7 : zZ} {ks : List Int} (R : ND s3 s8 ks s7) {s8' : zZ} {cr : Nat} (h11 : s3 0 11 = cr) {n k : Nat} (hn : s7 0 21 * 2 = n) {D : Int} {L : Nat → Int} {T : Nat → Nat → Int} : ∀ (m x f : Nat) (s : zZ), x + m = 6 → m + 1 ≤ f → (∀ q, q < 13 → s q = s3 q) → TSf s n (cr + 6) k D (fun r j => T r j + (if cr ≤ j ∧ j < cr + x then - s3 (7 + (j - cr)) r else 0)) L → ∃ z s', d_X4_reckon_76 s8' ks f x s = some (z, s') ∧ TSf s' n (cr + 6) k D (fun r j => T r j + (if cr ≤ j then - s3 (7 + (j - cr)) r else 0)) L ∧ (∀ q, q < 15 ∨ 23 ≤ q → s' q = s q) := by
  intro m
  induction m with
  | zero =>
    intro x f s hx hf hs H
    obtain ⟨f, rfl⟩ : ∃ g, f = g + 1 := ⟨f - 1, by omega⟩
    unfold d_X4_reckon_76
    rw [if_pos (by omega), if_pos (by omega)]
    refine ⟨_, _, rfl, TSf_congr H (fun r j hr hj => ?_) (fun _ _ => rfl), fun _ _ => rfl⟩
    have e : (cr ≤ j ∧ j < cr + x) = (cr ≤ j) := by apply propext; omega
    simp only [e]
  | succ m ih =>
    intro x f s hx hf hs H
    obtain ⟨f, rfl⟩ : ∃ g, f = g + 1 := ⟨f - 1, by omega⟩
    unfold d_X4_reckon_76
    have e3 : ((x : Int) + 1) = ((x + 1 : Nat) : Int) := by omega
    have n8 := H.1.1
    obtain ⟨z1, s1, a1, a2, a3⟩ := e_rk84 R (s8' := s8') h11 (show x < 6 by omega) hn (T := fun r j => T r j + (if cr ≤ j ∧ j < cr + x then - s3 (7 + (j - cr)) r else 0)) n 0 zF s (by omega) (by unfold zF; omega) hs (TSf_congr H (fun r j _ _ => by rw [if_neg (show ¬ (j = cr + x ∧ r < 0) by omega)]; omega) (fun _ _ => rfl))
    rw [show ((0 : Nat) : Int) = 0 from rfl] at a1
    rw [if_pos (by omega), if_neg (by omega), a1, Option.bind_some, e3]
    dsimp only
    obtain ⟨z, s2, b1, b2, b3⟩ := ih (x + 1) f s1 (by omega) (by omega) (fun q hq => by rw [a3 q (by omega)]; exact hs q hq) (TSf_congr a2 (fun r j _ _ => by
      by_cases q : j = cr + x
      · subst q
        rw [if_neg (by omega), if_pos rfl, if_pos (by omega), Nat.add_sub_cancel_left]
        omega
      · rw [if_neg q]
        have e : (cr ≤ j ∧ j < cr + x) = (cr ≤ j ∧ j < cr + (x + 1)) := by apply propext; omega
        simp only [e]
        omega) (fun _ _ => rfl))
    exact ⟨z, s2, b1, b2, fun q hq => by rw [b3 q hq, a3 q hq]⟩
/-- the table that the class lays: bars that are not cut, and the six cases -/
def T0f (s3 s8 : zZ) (B : Nat) (r j : Nat) : Int := Tb s3 s8 B r j + (if cn s8 B ≤ j then - s3 (7 + (j - cn s8 B)) r else 0)
theorem mA_11 (s3 s8 : zZ) (i : Nat) (v : Int) : mA (upz s3 0 i v) s8 = mA s3 s8 := by
  funext b r
  unfold mA fq dfw
  rw [upz_ne _ _ _ _ (show 4 ≠ 0 by decide), upz_ne _ _ _ _ (show 2 ≠ 0 by decide), upz_ne _ _ _ _ (show 3 ≠ 0 by decide)]
theorem ND_11 {s3 s8 s7 : zZ} {ks : List Int} (R : ND s3 s8 ks s7) {v : Int} : ND (upz s3 0 11 v) s8 ks s7 := by
  obtain ⟨r1, r2, r3, r4, r5, r6, r7, r8, r9, r10, r11, r12, r13⟩ := R
  have a : ∀ q, q ≠ 0 → upz s3 0 11 v q = s3 q := fun q hq => upz_ne _ _ _ _ hq
  have c : ∀ j, j ≠ 11 → upz s3 0 11 v 0 j = s3 0 j := fun j hj => by rw [upz_at, if_pos rfl, if_neg hj]
  unfold ND PVf PVg
  simp only [a 1 (by decide), a 2 (by decide), a 3 (by decide), a 4 (by decide), a 5 (by decide), a 13 (by decide), a 14 (by decide), a 24 (by decide), a 25 (by decide), c 4 (by decide), c 5 (by decide), c 7 (by decide), c 10 (by decide)]
  refine ⟨r1, r2, r3, r4, r5, r6, r7, r8, r9, fun x y hx hy => ?_, r11, r12, r13⟩
  rw [a (7 + x) (by omega)]
  exact r10 x y hx hy
