/-! the dome: items, the whole text -/
theorem mS_init (s : zZ) (a e : Int) : upz (upz s 0 9 a) 0 10 e = mS (upz s 0 10 e) a (s 0 11) := by
  funext q j
  simp only [mS, upz_at]
  grind
theorem e_items {base m : Nat} {c : Nat → Int} (K : CK base m c) (x : Int) : ∀ (n it A f g : Nat) (s t : zZ), it + n = 8 → 1 ≤ n → n + 2 ≤ f → n + 1 ≤ g → CC s m c → MM t base m c → IT s t it → A ≤ m → ∃ rc rm, d_X2_readItems_4 f it 1 (cS s A (-1)) = some rc ∧ d_X12_items_2 g it (mS t (base + A : Nat) x) = some rm ∧ ((∃ (L : Nat) (s' t' : zZ), 1 ≤ L ∧ L ≤ 8 ∧ rc = ((L : Int), 0, cS s' m (-1)) ∧ rm = ((L : Int), t') ∧ DD s s' ∧ MD t t' ∧ IT s' t' L) ∨ (∃ (s' t' : zZ) (A' k : Nat) (w it' : Int), A' ≤ m ∧ k ≤ m ∧ rc = (it', 0, cS s' A' w) ∧ (w = k ∨ (w = -1 ∧ A' = k ∧ k < m)) ∧ rm = (-1, t') ∧ t' 0 11 = ((base + k : Nat) : Int) ∧ DD s s' ∧ MD t t')) := by
  have K1 := K.1
  have K2 := K.2.1
  have z1 : zr (1 : Int) := by omega
  have z0 : zr (0 : Int) := by omega
  have n1 : (1 : Int) ≠ 0 := by omega
  have stop : ∀ (f : Nat) (i : Int) (s : zZ), 1 ≤ f → d_X2_readItems_4 f i 0 s = some (i, 0, s) := by
    intro f i s hf
    obtain ⟨f, rfl⟩ : ∃ h, f = h + 1 := ⟨f - 1, by omega⟩
    unfold d_X2_readItems_4
    rw [if_pos z0, if_pos rfl]
  intro n
  induction n with
  | zero => intro it A f g s t h1 h2; omega
  | succ n ih =>
    intro it A f g s t h1 h2 hf hg C M I hA
    obtain ⟨f, rfl⟩ : ∃ h, f = h + 1 := ⟨f - 1, by omega⟩
    obtain ⟨g, rfl⟩ : ∃ h, g = h + 1 := ⟨g - 1, by omega⟩
    unfold d_X2_readItems_4 d_X12_items_2
    rw [if_pos z1, if_neg n1, if_pos (show zr (it : Int) by omega), if_neg (show ¬ ((8 : Int) ≤ it) by omega)]
    obtain ⟨rc, rm, i1, i2, i3⟩ := e_item K (it := it) (by omega) C M hA x I
    rw [i1, i2, Option.bind_some, Option.bind_some]
    rcases i3 with ⟨s', t', A', a1, rfl, rfl, D, N, I'⟩ | ⟨s', t', A', k, a1, a2, rfl, rfl, a3, D, N⟩
    · have C' := CC_DD D C
      have M' := MM_MD N M
      dsimp only
      rw [cS_10, if_pos (show zr (-1 : Int) by omega), if_neg (show ¬ ((-1 : Int) ≠ -1) by omega), if_pos (show zr ((it : Int) + 1) by omega)]
      rw [if_pos z1, if_pos n1]
      simp only [mS_9, mS_10, M'.1]
      rw [if_pos (show zr ((base + A' : Nat) : Int) ∧ zr ((base + m : Nat) : Int) by omega)]
      have e1 : ((it : Int) + 1) = ((it + 1 : Nat) : Int) := by omega
      by_cases q1 : A' = m
      · rw [if_neg (show ¬ (((base + A' : Nat) : Int) ≠ ((base + m : Nat) : Int)) by omega)]
        have fin : ∀ it' : Int, it' = ((it + 1 : Nat) : Int) → ∃ rc rm, some (it', (0 : Int), cS s' A' (-1)) = some rc ∧ some ((it : Int) + 1, mS t' (base + A' : Nat) x) = some rm ∧ ((∃ (L : Nat) (s' t' : zZ), 1 ≤ L ∧ L ≤ 8 ∧ rc = ((L : Int), 0, cS s' m (-1)) ∧ rm = ((L : Int), t') ∧ DD s s' ∧ MD t t' ∧ IT s' t' L) ∨ (∃ (s' t' : zZ) (A' k : Nat) (w it' : Int), A' ≤ m ∧ k ≤ m ∧ rc = (it', 0, cS s' A' w) ∧ (w = k ∨ (w = -1 ∧ A' = k ∧ k < m)) ∧ rm = (-1, t') ∧ t' 0 11 = ((base + k : Nat) : Int) ∧ DD s s' ∧ MD t t')) := by
          intro it' hit'
          subst hit'
          subst q1
          refine ⟨_, _, rfl, rfl, Or.inl ⟨it + 1, s', mS t' (base + A' : Nat) x, by omega, by omega, rfl, by rw [e1], D, MD_mS N, ?_⟩⟩
          intro j hj
          have := I' j hj
          rw [mS_ne _ _ _ (by decide), mS_ne _ _ _ (by decide), mS_ne _ _ _ (by decide)]
          exact this
        by_cases q2 : (8 : Int) ≤ (it : Int) + 1
        · rw [if_pos q2, stop f _ _ (by omega)]
          exact fin _ e1
        · rw [if_neg q2, e_so K C' (by omega) a1, if_neg (by omega), Option.bind_some]
          dsimp only
          rw [if_pos z0, if_pos rfl, stop f _ _ (by omega)]
          exact fin _ e1
      · rw [if_pos (show (((base + A' : Nat) : Int) ≠ ((base + m : Nat) : Int)) by omega), e_code K M' a1, if_pos (show A' < m by omega), Option.bind_some]
        have zc := K.2.2 A' (by omega)
        rw [if_pos zc]
        have bad : ∀ it' : Int, ∃ rc rm, some (it', (0 : Int), cS s' A' (-1)) = some rc ∧ some ((-1 : Int), upz (mS t' (base + A' : Nat) x) 0 11 (base + A' : Nat)) = some rm ∧ ((∃ (L : Nat) (s' t' : zZ), 1 ≤ L ∧ L ≤ 8 ∧ rc = ((L : Int), 0, cS s' m (-1)) ∧ rm = ((L : Int), t') ∧ DD s s' ∧ MD t t' ∧ IT s' t' L) ∨ (∃ (s' t' : zZ) (A' k : Nat) (w it' : Int), A' ≤ m ∧ k ≤ m ∧ rc = (it', 0, cS s' A' w) ∧ (w = k ∨ (w = -1 ∧ A' = k ∧ k < m)) ∧ rm = (-1, t') ∧ t' 0 11 = ((base + k : Nat) : Int) ∧ DD s s' ∧ MD t t')) := by
          intro it'
          refine ⟨_, _, rfl, rfl, Or.inr ⟨s', _, A', A', -1, it', a1, a1, rfl, Or.inr ⟨rfl, rfl, by omega⟩, rfl, upz_hit _ _ _ _, D, ?_⟩⟩
          rw [mS_u11]
          exact MD_mS N
        by_cases q3 : c A' = 59
        · rw [if_neg (show ¬ (c A' ≠ 59) by omega), if_pos (show zr ((it : Int) + 1) by omega)]
          by_cases q2 : (8 : Int) ≤ (it : Int) + 1
          · rw [if_pos q2, stop f _ _ (by omega), if_neg (show ¬ ((it : Int) + 1 ≠ 8) by omega)]
            exact bad _
          · rw [if_neg q2, e_so K C' (by omega) a1, if_pos ⟨by omega, q3⟩, Option.bind_some]
            dsimp only
            rw [if_pos z1, if_neg n1, if_pos (show ((it : Int) + 1 ≠ 8) by omega), mS_u9, e1, show (((base + A' : Nat) : Int) + 1) = ((base + (A' + 1) : Nat) : Int) by omega]
            obtain ⟨rc, rm, j1, j2, j3⟩ := ih (it + 1) (A' + 1) f g s' t' (by omega) (by omega) (by omega) (by omega) C' M' I' (by omega)
            refine ⟨rc, rm, j1, j2, ?_⟩
            rcases j3 with ⟨L, s2, t2, b1, b2, b3, b4, b5, b6, b7⟩ | ⟨s2, t2, A2, k, w, it', b1, b2, b3, b4, b5, b6, b7, b8⟩
            · exact Or.inl ⟨L, s2, t2, b1, b2, b3, b4, DD_trans D b5, MD_trans N b6, b7⟩
            · exact Or.inr ⟨s2, t2, A2, k, w, it', b1, b2, b3, b4, b5, b6, DD_trans D b7, MD_trans N b8⟩
        · rw [if_pos (show (c A' ≠ 59) by omega)]
          by_cases q2 : (8 : Int) ≤ (it : Int) + 1
          · rw [if_pos q2, stop f _ _ (by omega)]
            exact bad _
          · rw [if_neg q2, e_so K C' (by omega) a1, if_neg (fun q => q3 q.2), Option.bind_some]
            dsimp only
            rw [if_pos z0, if_pos rfl, stop f _ _ (by omega)]
            exact bad _
    · dsimp only
      rw [cS_10, if_pos (show zr (k : Int) by omega), if_pos (show ((k : Int) ≠ -1) by omega), if_pos z0, if_neg (show ¬ ((0 : Int) ≠ 0) by omega), stop f _ _ (by omega)]
      exact ⟨_, _, rfl, rfl, Or.inr ⟨s', t', A', k, k, _, a1, a2, rfl, Or.inl rfl, rfl, a3, D, N⟩⟩
theorem e_read {base m : Nat} {c : Nat → Int} (K : CK base m c) (x : Int) {s t : zZ} (C : CC s m c) (M : MM t base m c) : ∃ rc rm, d_X2_readItems (cS s 0 (-1)) = some rc ∧ d_X12_items (mS t (base : Nat) x) = some rm ∧ ((∃ (L : Nat) (s' t' : zZ), 1 ≤ L ∧ L ≤ 8 ∧ rc = ((L : Int), cS s' m (-1)) ∧ rm = ((L : Int), t') ∧ DD s s' ∧ MD t t' ∧ IT s' t' L) ∨ (∃ (s' t' : zZ) (A' k : Nat) (it' : Int), A' ≤ m ∧ k ≤ m ∧ rc = (it', cS s' A' k) ∧ rm = (-1, t') ∧ t' 0 11 = ((base + k : Nat) : Int) ∧ DD s s' ∧ MD t t')) := by
  have K1 := K.1
  have K2 := K.2.1
  obtain ⟨rc, rm, j1, j2, j3⟩ := e_items K x 8 0 0 zF zF s t (by omega) (by omega) (by unfold zF; omega) (by unfold zF; omega) C M (fun j hj => by omega) (by omega)
  rw [show ((0 : Nat) : Int) = 0 from rfl] at j1 j2
  rw [show base + 0 = base from rfl] at j2
  unfold d_X2_readItems d_X12_items
  rw [j1, j2, Option.bind_some, Option.bind_some]
  rcases j3 with ⟨L, s2, t2, b1, b2, rfl, rfl, b5, b6, b7⟩ | ⟨s2, t2, A2, k, w, it', b1, b2, rfl, b4, rfl, b6, b7, b8⟩
  · dsimp only
    simp only [cS_9, cS_8, (CC_DD b5 C).1]
    rw [if_pos (by omega), if_pos (by omega)]
    exact ⟨_, _, rfl, rfl, Or.inl ⟨L, s2, t2, b1, b2, rfl, rfl, b5, b6, b7⟩⟩
  · dsimp only
    simp only [cS_9, cS_8, (CC_DD b7 C).1]
    rw [if_pos (by omega)]
    by_cases q : (m : Int) ≤ A2
    · rw [if_pos q]
      rcases b4 with b4 | b4
      · subst b4
        exact ⟨_, _, rfl, rfl, Or.inr ⟨s2, t2, A2, k, it', b1, b2, rfl, rfl, b6, b7, b8⟩⟩
      · omega
    · rw [if_neg q, e_wrong (by omega), Option.bind_some]
      have e : (if w = -1 then (A2 : Int) else w) = k := by
        rcases b4 with b4 | b4
        · rw [if_neg (by omega)]; exact b4
        · rw [if_pos b4.1]; omega
      rw [e]
      exact ⟨_, _, rfl, rfl, Or.inr ⟨s2, t2, A2, k, it', b1, b2, rfl, rfl, b6, b7, b8⟩⟩
theorem e_cp1 {cn : Int} {L : Nat} (hL : L ≤ 8) : ∀ (n p f : Nat) (s : zZ), p + n = L → n + 1 ≤ f → (∀ j, j < p → s 1 j = s 5 j ∧ s 2 j = s 6 j ∧ s 3 j = s 7 j) → ∃ z s', d_X2_becomeText_47 cn L f p s = some (z, s') ∧ (∀ q, q ≠ 1 → q ≠ 2 → q ≠ 3 → s' q = s q) ∧ ∀ j, j < L → s' 1 j = s 5 j ∧ s' 2 j = s 6 j ∧ s' 3 j = s 7 j := by
  intro n
  induction n with
  | zero =>
    intro p f s hp hf h
    obtain ⟨f, rfl⟩ : ∃ h, f = h + 1 := ⟨f - 1, by omega⟩
    unfold d_X2_becomeText_47
    rw [if_pos (by omega), if_pos (by omega)]
    exact ⟨_, _, rfl, fun _ _ _ _ => rfl, fun j hj => h j (by omega)⟩
  | succ n ih =>
    intro p f s hp hf h
    obtain ⟨f, rfl⟩ : ∃ h, f = h + 1 := ⟨f - 1, by omega⟩
    unfold d_X2_becomeText_47
    simp only [Int.toNat_natCast]
    rw [if_pos (by omega), if_neg (by omega), if_pos (by omega), if_pos (by omega), if_pos (by omega), if_pos (by omega), if_pos (by omega), if_pos (by omega)]
    have e1 : ((p : Int) + 1) = ((p + 1 : Nat) : Int) := by omega
    rw [e1]
    obtain ⟨z, s', a1, a2, a3⟩ := ih (p + 1) f (upz (upz (upz s 1 p (s 5 p)) 2 p ((upz s 1 p (s 5 p)) 6 p)) 3 p ((upz (upz s 1 p (s 5 p)) 2 p ((upz s 1 p (s 5 p)) 6 p)) 7 p)) (by omega) (by omega) (by
      intro j hj
      have := h j
      simp only [upz_at]
      grind)
    refine ⟨z, s', a1, fun q b1 b2 b3 => ?_, fun j hj => ?_⟩
    · rw [a2 q b1 b2 b3, upz_ne _ _ _ _ b3, upz_ne _ _ _ _ b2, upz_ne _ _ _ _ b1]
    · have := a3 j hj
      simp only [upz_at] at this
      grind
theorem e_cp2 {sh lane i m fr : Int} {L : Nat} (hL : L ≤ 8) : ∀ (n p f : Nat) (s : zZ), p + n = L → n + 1 ≤ f → (∀ j, j < p → s 4 j = s 4 (8 + j) ∧ s 5 j = s 5 (8 + j) ∧ s 6 j = s 6 (8 + j)) → ∃ z s', d_X12_text_166 sh lane i m fr L f p s = some (z, s') ∧ (∀ q, q ≠ 4 → q ≠ 5 → q ≠ 6 → s' q = s q) ∧ ∀ j, j < L → s' 4 j = s 4 (8 + j) ∧ s' 5 j = s 5 (8 + j) ∧ s' 6 j = s 6 (8 + j) := by
  intro n
  induction n with
  | zero =>
    intro p f s hp hf h
    obtain ⟨f, rfl⟩ : ∃ h, f = h + 1 := ⟨f - 1, by omega⟩
    unfold d_X12_text_166
    rw [if_pos (by omega), if_pos (by omega)]
    exact ⟨_, _, rfl, fun _ _ _ _ => rfl, fun j hj => h j (by omega)⟩
  | succ n ih =>
    intro p f s hp hf h
    obtain ⟨f, rfl⟩ : ∃ h, f = h + 1 := ⟨f - 1, by omega⟩
    unfold d_X12_text_166
    have e8 : (8 + (p : Int)).toNat = 8 + p := by omega
    simp only [Int.toNat_natCast, e8]
    rw [if_pos (by omega), if_neg (by omega), if_pos (by omega), if_pos (by omega), if_pos (by omega), if_pos (by omega), if_pos (by omega), if_pos (by omega)]
    have e1 : ((p : Int) + 1) = ((p + 1 : Nat) : Int) := by omega
    rw [e1]
    obtain ⟨z, s', a1, a2, a3⟩ := ih (p + 1) f (upz (upz (upz s 4 p (s 4 (8 + p))) 5 p ((upz s 4 p (s 4 (8 + p))) 5 (8 + p))) 6 p ((upz (upz s 4 p (s 4 (8 + p))) 5 p ((upz s 4 p (s 4 (8 + p))) 5 (8 + p))) 6 (8 + p))) (by omega) (by omega) (by
      intro j hj
      have := h j
      simp only [upz_at]
      grind)
    refine ⟨z, s', a1, fun q b1 b2 b3 => ?_, fun j hj => ?_⟩
    · rw [a2 q b1 b2 b3, upz_ne _ _ _ _ b3, upz_ne _ _ _ _ b2, upz_ne _ _ _ _ b1]
    · have := a3 j hj
      simp only [upz_at] at this
      grind
theorem e_codes {s0 s6 : zZ} {k lane fl : Int} {i m : Nat} (hk : 0 ≤ k ∧ k < 4) (h : s6 7 k.toNat ≤ 60) (hm : (i : Int) + m ≤ s6 7 k.toNat) : ∀ (n p f : Nat) (s : zZ), p + n = m → n + 1 ≤ f → (∀ j, j < p → s 4 j = s6 (2 + k.toNat) (i + j)) → ∃ z s', d_X11_text_53 s0 s6 k lane i m fl f p s = some (z, s') ∧ (∀ q, q ≠ 4 → s' q = s q) ∧ ∀ j, j < m → s' 4 j = s6 (2 + k.toNat) (i + j) := by
  intro n
  induction n with
  | zero =>
    intro p f s hp hf h1
    obtain ⟨f, rfl⟩ : ∃ h, f = h + 1 := ⟨f - 1, by omega⟩
    unfold d_X11_text_53
    rw [if_pos (by omega), if_pos (by omega)]
    exact ⟨_, _, rfl, fun _ _ => rfl, fun j hj => h1 j (by omega)⟩
  | succ n ih =>
    intro p f s hp hf h1
    obtain ⟨f, rfl⟩ : ∃ h, f = h + 1 := ⟨f - 1, by omega⟩
    unfold d_X11_text_53 d_X6_number d_X2_takeCode
    have e1 : ((p : Int) + 1) = ((p + 1 : Nat) : Int) := by omega
    have e2 : ((i : Int) + (p : Int)).toNat = i + p := by omega
    rw [if_pos (by omega), if_neg (by omega), e_X6_faultOfCell hk (by omega) (by omega), if_neg (by omega), if_pos (by omega), Option.bind_some, if_pos (by omega), if_neg (by omega), if_pos (by omega), if_pos (by omega), Option.bind_some, if_pos (by omega), if_neg (by omega), if_pos (by omega), if_neg (by omega), if_pos (by omega), Option.bind_some, e1, e2, Int.toNat_natCast]
    obtain ⟨z, s', a1, a2, a3⟩ := ih (p + 1) f (upz s 4 p (s6 (2 + k.toNat) (i + p))) (by omega) (by omega) (by
      intro j hj
      have := h1 j
      simp only [upz_at]
      grind)
    exact ⟨z, s', a1, fun q b1 => by rw [a2 q b1, upz_ne _ _ _ _ b1], a3⟩
