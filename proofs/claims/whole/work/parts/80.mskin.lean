/-! the skin: pieces, ways, lines -/
def RSk (s4 : zZ) (gp : Nat → Int) : Prop := ∀ a : Nat, a < 100 → (s4 1 a = 0 ∨ s4 1 a = 1) ∧ gp a = s4 1 a
theorem e_isPiece {x y : Int} (hx : zr x) (hy : zr y) : d_X8_isPiece x y = some (if 0 ≤ x ∧ x < 10 ∧ 0 ≤ y ∧ y < 10 then 1 else 0) := by
  unfold d_X8_isPiece
  repeat' split
  all_goals first | rfl | (exfalso; omega)
theorem m_hole {s0 s4 s7 : zZ} {row col out : Int} (hr : zr row) (hc : zr col) (ho : out = 0 ∨ out = 1) (R : RSk s4 (s7 27)) : ∃ r s4' s7', d_X11_hole s0 s4 row col out = some (r, s4') ∧ d_X12_hole s7 row col out = some (r, s7') ∧ RSk s4' (s7' 27) ∧ Fr [27] [] s7 s7' := by
  unfold d_X11_hole d_X12_hole d_X8_change
  rw [e_isPiece hr hc, e_X12_within (by omega), e_X12_within (by omega)]
  by_cases h : 0 ≤ row ∧ row < 10 ∧ 0 ≤ col ∧ col < 10
  · have e1 : (row * 10 + col).toNat = (10 * row + col).toNat := by omega
    have P := R (10 * row + col).toNat (by omega)
    simp only [e1, P.2]
    have fin : ∀ v : Int, (v = 0 ∨ v = 1) → RSk (upz s4 1 (10 * row + col).toNat v) ((upz s7 27 (10 * row + col).toNat v) 27) := by
      intro v hv a ha
      have Q := R a ha
      rw [upz_at, if_pos rfl, upz_at, if_pos rfl]
      split
      · exact ⟨hv, rfl⟩
      · exact Q
    have same : s4 1 (10 * row + col).toNat = out → RSk s4 ((upz s7 27 (10 * row + col).toNat out) 27) := by
      intro e a ha
      have Q := R a ha
      rw [upz_at, if_pos rfl]
      split
      · next h => subst h; exact ⟨Q.1, e.symm⟩
      · exact Q
    have F : ∀ v : Int, Fr [27] [] s7 (upz s7 27 (10 * row + col).toNat v) := fun v => Fr_upz (by decide) (by decide) (Fr_refl _ _ _)
    rcases ho with rfl | rfl
    · by_cases q : s4 1 (10 * row + col).toNat = 0
      · simp (disch := omega) only [↓if_pos, ↓if_neg, ↓Option.bind_some, ite_self]
        exact ⟨_, _, _, rfl, rfl, same q, F _⟩
      · simp (disch := omega) only [↓if_pos, ↓if_neg, ↓Option.bind_some, ite_self]
        exact ⟨_, _, _, rfl, rfl, fin 0 (Or.inl rfl), F _⟩
    · by_cases q : s4 1 (10 * row + col).toNat = 1
      · simp (disch := omega) only [↓if_pos, ↓if_neg, ↓Option.bind_some, ite_self]
        exact ⟨_, _, _, rfl, rfl, same q, F _⟩
      · simp (disch := omega) only [↓if_pos, ↓if_neg, ↓Option.bind_some, ite_self]
        exact ⟨_, _, _, rfl, rfl, fin 1 (Or.inr rfl), F _⟩
  · by_cases h2 : 0 ≤ row ∧ row ≤ 9
    · simp (disch := omega) only [↓if_pos, ↓if_neg, ↓Option.bind_some, ite_self]
      exact ⟨_, _, _, rfl, rfl, R, Fr_refl _ _ _⟩
    · simp (disch := omega) only [↓if_pos, ↓if_neg, ↓Option.bind_some, ite_self]
      exact ⟨_, _, _, rfl, rfl, R, Fr_refl _ _ _⟩
theorem e_pieces {s4 s7 : zZ} (R : RSk s4 (s7 27)) : ∀ (m k f g : Nat) (cn : Int), k + m = 100 → m + 1 ≤ f → m + 1 ≤ g → ∃ r y z, d_X8_piecesThere_4 s4 f cn k = some (r, y) ∧ d_X12_pieces_4 s7 g cn k = some (r, z) := by
  intro m
  induction m with
  | zero =>
    intro k f g cn hk hf hg
    obtain ⟨f, rfl⟩ : ∃ h, f = h + 1 := ⟨f - 1, by omega⟩
    obtain ⟨g, rfl⟩ : ∃ h, g = h + 1 := ⟨g - 1, by omega⟩
    unfold d_X8_piecesThere_4 d_X12_pieces_4
    rw [if_pos (by omega), if_pos (by omega), if_pos (by omega), if_pos (by omega)]
    exact ⟨_, _, _, rfl, rfl⟩
  | succ m ih =>
    intro k f g cn hk hf hg
    obtain ⟨f, rfl⟩ : ∃ h, f = h + 1 := ⟨f - 1, by omega⟩
    obtain ⟨g, rfl⟩ : ∃ h, g = h + 1 := ⟨g - 1, by omega⟩
    unfold d_X8_piecesThere_4 d_X12_pieces_4
    have P := R k (by omega)
    have e3 : ((k : Int) + 1) = ((k + 1 : Nat) : Int) := by omega
    simp only [e3, Int.toNat_natCast, P.2]
    by_cases q : s4 1 k = 0
    · simp (disch := omega) only [↓if_pos, ↓if_neg]
      exact ih (k + 1) f g _ (by omega) (by omega) (by omega)
    · simp (disch := omega) only [↓if_pos, ↓if_neg]
      exact ih (k + 1) f g _ (by omega) (by omega) (by omega)
/-! ways -/
def nr8 (a b : Nat) : Prop := a / 10 ≤ b / 10 + 1 ∧ b / 10 ≤ a / 10 + 1 ∧ a % 10 ≤ b % 10 + 1 ∧ b % 10 ≤ a % 10 + 1
def nr4 (a b : Nat) : Prop := nr8 a b ∧ (a / 10 = b / 10 ∨ a % 10 = b % 10)
def nbI (a : Nat) (w : Nat) : Int := if 0 ≤ (a : Int) / 10 + zrowS w ∧ (a : Int) / 10 + zrowS w < 10 ∧ 0 ≤ (a : Int) % 10 + zcolS w ∧ (a : Int) % 10 + zcolS w < 10 then ((a : Int) / 10 + zrowS w) * 10 + ((a : Int) % 10 + zcolS w) else -1
theorem zS_rng : ∀ w : Nat, w < 8 → (-1 ≤ zrowS w ∧ zrowS w ≤ 1) ∧ (-1 ≤ zcolS w ∧ zcolS w ≤ 1) := by decide
theorem e_nb {a w : Nat} (ha : a < 100) (hw : w < 8) : d_X8_neighbour a w = some (nbI a w) := by
  have S := zS_rng w hw
  unfold d_X8_neighbour nbI
  rw [Int.toNat_natCast, e_isPiece (by omega) (by omega)]
  simp (disch := omega) only [↓if_pos, ↓if_neg, ↓Option.bind_some]
  by_cases h : 0 ≤ (a : Int) / 10 + zrowS w ∧ (a : Int) / 10 + zrowS w < 10 ∧ 0 ≤ (a : Int) % 10 + zcolS w ∧ (a : Int) % 10 + zcolS w < 10
  · simp (disch := omega) only [↓if_pos, ↓if_neg]
  · simp (disch := omega) only [↓if_pos, ↓if_neg]
theorem nbI_rng {a w : Nat} (ha : a < 100) (hw : w < 8) : nbI a w = -1 ∨ ∃ b : Nat, nbI a w = b ∧ b < 100 ∧ nr8 a b := by
  have S := zS_rng w hw
  unfold nbI nr8
  by_cases h : 0 ≤ (a : Int) / 10 + zrowS w ∧ (a : Int) / 10 + zrowS w < 10 ∧ 0 ≤ (a : Int) % 10 + zcolS w ∧ (a : Int) % 10 + zcolS w < 10
  · rw [if_pos h]
    exact Or.inr ⟨(((a : Int) / 10 + zrowS w) * 10 + ((a : Int) % 10 + zcolS w)).toNat, by omega, by omega, by omega⟩
  · rw [if_neg h]
    exact Or.inl rfl
theorem z4 : ∀ w : Nat, w < 4 → zrowS w = 0 ∨ zcolS w = 0 := by decide
theorem nbI_4 {a w : Nat} (ha : a < 100) (hw : w < 4) : nbI a w = -1 ∨ ∃ b : Nat, nbI a w = b ∧ b < 100 ∧ nr4 a b := by
  have S := zS_rng w (by omega)
  have S2 := z4 w hw
  unfold nbI nr4 nr8
  by_cases h : 0 ≤ (a : Int) / 10 + zrowS w ∧ (a : Int) / 10 + zrowS w < 10 ∧ 0 ≤ (a : Int) % 10 + zcolS w ∧ (a : Int) % 10 + zcolS w < 10
  · rw [if_pos h]
    exact Or.inr ⟨(((a : Int) / 10 + zrowS w) * 10 + ((a : Int) % 10 + zcolS w)).toNat, by omega, by omega, by omega⟩
  · rw [if_neg h]
    exact Or.inl rfl
theorem nbI_hit {a b w : Nat} (ha : a < 100) (hb : b < 100) (h1 : (b : Int) / 10 = (a : Int) / 10 + zrowS w) (h2 : (b : Int) % 10 = (a : Int) % 10 + zcolS w) : nbI a w = b := by
  unfold nbI
  rw [if_pos (by omega)]
  omega
theorem nr8_way {a b : Nat} (ha : a < 100) (hb : b < 100) (h : nr8 a b) : a = b ∨ ∃ w, w < 8 ∧ nbI a w = b := by
  unfold nr8 at h
  by_cases e : a = b
  · exact Or.inl e
  · refine Or.inr ?_
    have r : b / 10 + 1 = a / 10 ∨ b / 10 = a / 10 ∨ b / 10 = a / 10 + 1 := by omega
    have c : b % 10 + 1 = a % 10 ∨ b % 10 = a % 10 ∨ b % 10 = a % 10 + 1 := by omega
    rcases r with r | r | r <;> rcases c with c | c | c
    · exact ⟨4, by omega, nbI_hit ha hb (by show _ = _ + (-1 : Int); omega) (by show _ = _ + (-1 : Int); omega)⟩
    · exact ⟨0, by omega, nbI_hit ha hb (by show _ = _ + (-1 : Int); omega) (by show _ = _ + (0 : Int); omega)⟩
    · exact ⟨5, by omega, nbI_hit ha hb (by show _ = _ + (-1 : Int); omega) (by show _ = _ + (1 : Int); omega)⟩
    · exact ⟨1, by omega, nbI_hit ha hb (by show _ = _ + (0 : Int); omega) (by show _ = _ + (-1 : Int); omega)⟩
    · omega
    · exact ⟨2, by omega, nbI_hit ha hb (by show _ = _ + (0 : Int); omega) (by show _ = _ + (1 : Int); omega)⟩
    · exact ⟨6, by omega, nbI_hit ha hb (by show _ = _ + (1 : Int); omega) (by show _ = _ + (-1 : Int); omega)⟩
    · exact ⟨3, by omega, nbI_hit ha hb (by show _ = _ + (1 : Int); omega) (by show _ = _ + (0 : Int); omega)⟩
    · exact ⟨7, by omega, nbI_hit ha hb (by show _ = _ + (1 : Int); omega) (by show _ = _ + (1 : Int); omega)⟩
theorem nr4_way {a b : Nat} (ha : a < 100) (hb : b < 100) (h : nr4 a b) : a = b ∨ ∃ w, w < 4 ∧ nbI a w = b := by
  unfold nr4 nr8 at h
  by_cases e : a = b
  · exact Or.inl e
  · refine Or.inr ?_
    have r : b / 10 + 1 = a / 10 ∨ b / 10 = a / 10 ∨ b / 10 = a / 10 + 1 := by omega
    rcases r with r | r | r
    · exact ⟨0, by omega, nbI_hit ha hb (by show _ = _ + (-1 : Int); omega) (by show _ = _ + (0 : Int); omega)⟩
    · have c : b % 10 + 1 = a % 10 ∨ b % 10 = a % 10 + 1 := by omega
      rcases c with c | c
      · exact ⟨1, by omega, nbI_hit ha hb (by show _ = _ + (0 : Int); omega) (by show _ = _ + (-1 : Int); omega)⟩
      · exact ⟨2, by omega, nbI_hit ha hb (by show _ = _ + (0 : Int); omega) (by show _ = _ + (1 : Int); omega)⟩
    · exact ⟨3, by omega, nbI_hit ha hb (by show _ = _ + (1 : Int); omega) (by show _ = _ + (0 : Int); omega)⟩
/-! sums of 0 and 1 -/
def tot (v : Nat → Int) : Nat → Int
  | 0 => 0
  | n + 1 => tot v n + v n
theorem tot_le {v : Nat → Int} {c : Int} : ∀ n : Nat, (∀ a, a < n → v a ≤ c) → tot v n ≤ c * n := by
  intro n
  induction n with
  | zero => intro _; exact Int.le_of_eq (Int.mul_zero c).symm
  | succ n ih =>
    intro h
    have a := ih (fun a ha => h a (by omega))
    have b := h n (by omega)
    show tot v n + v n ≤ _
    rw [show ((n + 1 : Nat) : Int) = (n : Int) + 1 by omega, Int.mul_add, Int.mul_one]
    omega
theorem tot_nn {v : Nat → Int} : ∀ n : Nat, (∀ a, a < n → 0 ≤ v a) → 0 ≤ tot v n := by
  intro n
  induction n with
  | zero => intro _; exact Int.le_refl _
  | succ n ih =>
    intro h
    have a := ih (fun a ha => h a (by omega))
    have b := h n (by omega)
    show 0 ≤ tot v n + v n
    omega
theorem tot_congr {v w : Nat → Int} : ∀ n : Nat, (∀ a, a < n → v a = w a) → tot v n = tot w n := by
  intro n
  induction n with
  | zero => intro _; rfl
  | succ n ih =>
    intro h
    show tot v n + v n = tot w n + w n
    rw [ih (fun a ha => h a (by omega)), h n (by omega)]
theorem tot_put {v w : Nat → Int} {i : Nat} {x : Int} : ∀ n : Nat, i < n → w i = v i + x → (∀ a, a ≠ i → w a = v a) → tot w n = tot v n + x := by
  intro n
  induction n with
  | zero => intro h; omega
  | succ n ih =>
    intro h h1 h2
    show tot w n + w n = tot v n + v n + x
    by_cases e : i = n
    · subst e
      rw [tot_congr i (fun a ha => h2 a (by omega)), h1]
      omega
    · rw [ih (by omega) h1 h2, h2 n (by omega)]
      omega
theorem tot_some {v : Nat → Int} {i n : Nat} (hi : i < n) (h : ∀ a, a < n → v a ≤ 1) (h0 : v i = 0) : tot v n ≤ n - 1 := by
  have := tot_put (v := v) (w := fun a => if a = i then 1 else v a) (i := i) (x := 1) n hi (by show (if i = i then (1 : Int) else v i) = _; rw [if_pos rfl, h0]; rfl) (fun a ha => if_neg ha)
  have l := tot_le (v := fun a => if a = i then 1 else v a) (c := 1) n (fun a ha => by
    show (if a = i then (1 : Int) else v a) ≤ 1
    split
    · omega
    · exact h a ha)
  omega
/-! a line -/
def psh (s : zZ) (p q : Nat) (y : Nat) : zZ := upz (upz (upz s 2 y 1) p (s 0 q).toNat y) 0 q (s 0 q + 1)
theorem e_lineUp {s : zZ} {y : Nat} (hy : y < 100) (h2 : s 2 y = 0 ∨ s 2 y = 1) (hw : 0 ≤ s 0 3 ∧ (s 2 y = 0 → s 0 3 < 100) ∧ s 0 3 ≤ 100) : d_X8_lineUp s y = some (if s 2 y = 0 then psh s 3 3 y else s) := by
  unfold d_X8_lineUp psh
  have e1 : upz s 2 y 1 0 3 = s 0 3 := by rw [upz_ne _ _ _ _ (by decide)]
  have e2 : ∀ v, upz (upz s 2 y 1) 3 (s 0 3).toNat v 0 3 = s 0 3 := fun v => by rw [upz_ne _ _ _ _ (by decide), upz_ne _ _ _ _ (by decide)]
  simp only [Int.toNat_natCast, e1, e2]
  by_cases q : s 2 y = 0
  · have := hw.2.1 q
    simp (disch := omega) only [↓if_pos, ↓if_neg]
  · simp (disch := omega) only [↓if_pos, ↓if_neg]
theorem e_lineL {s : zZ} {y : Nat} (hy : y < 100) (h2 : s 2 y = 0 ∨ s 2 y = 1) (hw : 0 ≤ s 0 5 ∧ (s 2 y = 0 → s 0 5 < 100) ∧ s 0 5 ≤ 100) : d_X8_lineUpForLater s y = some (if s 2 y = 0 then psh s 4 5 y else s) := by
  unfold d_X8_lineUpForLater psh
  have e1 : upz s 2 y 1 0 5 = s 0 5 := by rw [upz_ne _ _ _ _ (by decide)]
  have e2 : ∀ v, upz (upz s 2 y 1) 4 (s 0 5).toNat v 0 5 = s 0 5 := fun v => by rw [upz_ne _ _ _ _ (by decide), upz_ne _ _ _ _ (by decide)]
  simp only [Int.toNat_natCast, e1, e2]
  by_cases q : s 2 y = 0
  · have := hw.2.1 q
    simp (disch := omega) only [↓if_pos, ↓if_neg]
  · simp (disch := omega) only [↓if_pos, ↓if_neg]
