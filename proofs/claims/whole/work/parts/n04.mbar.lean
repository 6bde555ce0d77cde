/-! the net: a bar -/
theorem getD_snoc (ks : List Int) (k : Int) (b : Nat) : (ks ++ [k]).getD b 0 = if b = ks.length then k else ks.getD b 0 := by
  simp only [List.getD_eq_getElem?_getD]
  by_cases h : b < ks.length
  · rw [List.getElem?_append_left h, if_neg (by omega)]
  · rw [List.getElem?_append_right (by omega)]
    by_cases e : b = ks.length
    · rw [if_pos e, e]
      simp
    · rw [if_neg e, List.getElem?_eq_none (by simp; omega), List.getElem?_eq_none (by omega)]
theorem ND_bar {s3 s8 s7 s3' s8' s7' : zZ} {ks : List Int} (R : ND s3 s8 ks s7) {n : Nat} (hn : s7 0 25 = n) (h16 : n < 16) {kind a b str : Int} (hk : 0 ≤ kind ∧ kind ≤ 2) (ha : 0 ≤ a ∧ a < s7 0 20) (hb : 0 ≤ b ∧ b < s7 0 20) (hab : a ≠ b) (hs : 1 ≤ str ∧ str ≤ 999) (new : ∀ d : Nat, (d : Int) < s7 0 25 → ¬ (s7 18 (2 * d) = a ∧ s7 18 (2 * d + 1) = b) ∧ ¬ (s7 18 (2 * d) = b ∧ s7 18 (2 * d + 1) = a)) (a0 : s3' 0 7 = n + 1 ∧ s3' 5 0 = n + 1 ∧ s3' 0 4 = s3 0 4 ∧ s3' 0 5 = s3 0 5 ∧ s3' 0 10 = 1) (a1 : ∀ q, q ≠ 0 → q ≠ 5 → s3' q = s3 q) (c0 : s8' n 0 = n ∧ s8' n 1 = a ∧ s8' n 2 = b ∧ s8' n 3 = str ∧ s8' n 4 = 0) (c1 : ∀ d, d < n → s8' d = s8 d) (b0 : s7' 0 25 = n + 1 ∧ s7' 0 20 = s7 0 20 ∧ s7' 0 21 = s7 0 21 ∧ s7' 0 1 = s7 0 1) (b17 : ∀ d, s7' 17 d = if d = n then kind else s7 17 d) (b18 : ∀ d, s7' 18 d = if d = 2 * n + 1 then b else if d = 2 * n then a else s7 18 d) (b19 : ∀ d, s7' 19 d = if d = n then str else s7 19 d) (b20 : ∀ d, s7' 20 d = if d = n then 0 else s7 20 d) (b14 : s7' 14 = s7 14 ∧ s7' 15 = s7 15 ∧ s7' 16 = s7 16 ∧ s7' 21 = s7 21) : ND s3' s8' (ks ++ [kind]) s7' := by
  obtain ⟨r1, r2, r3, r4, r5, r6, r7, r8, r9, r10, r11, r12, r13⟩ := R
  unfold ND PVf PVg
  rw [b0.1, b0.2.1, b0.2.2.1, b0.2.2.2, a0.1, a0.2.1, a0.2.2.1, a0.2.2.2.1, a0.2.2.2.2, b14.1, b14.2.1, b14.2.2.1, b14.2.2.2, a1 1 (by decide) (by decide), a1 2 (by decide) (by decide), a1 3 (by decide) (by decide), a1 4 (by decide) (by decide), a1 13 (by decide) (by decide), a1 14 (by decide) (by decide), a1 24 (by decide) (by decide), a1 25 (by decide) (by decide)]
  have len : ks.length = n := by omega
  refine ⟨r1, r2, ⟨rfl, rfl, by rw [List.length_append, List.length_singleton]; omega, by rw [List.length_append, List.length_singleton]; omega⟩, r4, r5, r6, r7, fun d hd => ?_, fun d e hd he hde => ?_, fun c k hc hk => ?_, r11, r12, Or.inr rfl⟩
  · rw [getD_snoc, b17, b18, b18, b19, b20, len]
    by_cases q : d = n
    · subst q
      rw [if_pos rfl, if_pos rfl, if_neg (by omega), if_pos rfl, if_pos rfl, if_pos rfl, if_pos rfl]
      exact ⟨⟨rfl, hk.1, hk.2⟩, c0.1, ⟨c0.2.1, ha.1, ha.2⟩, ⟨c0.2.2.1, hb.1, hb.2⟩, hab, ⟨c0.2.2.2.1, hs.1, hs.2⟩, c0.2.2.2.2, Or.inl rfl⟩
    · rw [if_neg q, if_neg q, if_neg (by omega), if_neg (by omega), if_neg (by omega), if_neg (by omega), if_neg q, if_neg q, c1 d (by omega)]
      exact r8 d (by omega)
  · rw [b18, b18, b18, b18]
    by_cases q : d = n
    · subst q
      have N := new e (by omega)
      rw [if_neg (by omega), if_pos rfl, if_neg (by omega), if_neg (by omega), if_pos rfl, if_neg (by omega), if_neg (by omega)]
      exact ⟨fun h => N.1 ⟨h.1.symm, h.2.symm⟩, fun h => N.2 ⟨h.2.symm, h.1.symm⟩⟩
    · by_cases q2 : e = n
      · subst q2
        have N := new d (by omega)
        rw [if_neg (by omega), if_neg (by omega), if_neg (by omega), if_pos rfl, if_neg (by omega), if_neg (by omega), if_pos rfl]
        exact ⟨fun h => N.1 ⟨h.1, h.2⟩, fun h => N.2 ⟨h.1, h.2⟩⟩
      · rw [if_neg (by omega), if_neg (by omega), if_neg (by omega), if_neg (by omega), if_neg (by omega), if_neg (by omega), if_neg (by omega), if_neg (by omega)]
        exact r9 d e (by omega) (by omega) hde
  · rw [a1 (7 + c) (by omega) (by omega)]
    exact r10 c k hc hk
theorem e_joined {s3 s8 s7 : zZ} {ks : List Int} (R : ND s3 s8 ks s7) {kind a b str : Int} (ha : zr a) (hb : zr b) : ∀ (m k f g : Nat), ((k : Int) + m = s7 0 25) → m + 1 ≤ f → m + 1 ≤ g → (∃ z, d_X4_isJoined_2 s3 s8 ks a b f k = some (.inr 1) ∧ d_X12_bar_54 s7 kind a b str g k = some (.inr ((-3), s7)) ∧ z = (0 : Int)) ∨ (∃ z w, d_X4_isJoined_2 s3 s8 ks a b f k = some (.inl z) ∧ d_X12_bar_54 s7 kind a b str g k = some (.inl w) ∧ ∀ d : Nat, k ≤ d → (d : Int) < s7 0 25 → ¬ (s7 18 (2 * d) = a ∧ s7 18 (2 * d + 1) = b) ∧ ¬ (s7 18 (2 * d) = b ∧ s7 18 (2 * d + 1) = a)) := by
  obtain ⟨r1, r2, r3, r4, r5, r6, r7, r8, _⟩ := R
  intro m
  induction m with
  | zero =>
    intro k f g hk hf hg
    obtain ⟨f, rfl⟩ : ∃ h, f = h + 1 := ⟨f - 1, by omega⟩
    obtain ⟨g, rfl⟩ : ∃ h, g = h + 1 := ⟨g - 1, by omega⟩
    unfold d_X4_isJoined_2 d_X12_bar_54
    rw [r3.1, if_pos (by omega), if_pos (by omega), if_pos (by omega), if_pos (by omega)]
    exact Or.inr ⟨_, _, rfl, rfl, fun j h1 h2 => by omega⟩
  | succ m ih =>
    intro k f g hk hf hg
    obtain ⟨f, rfl⟩ : ∃ h, f = h + 1 := ⟨f - 1, by omega⟩
    obtain ⟨g, rfl⟩ : ∃ h, g = h + 1 := ⟨g - 1, by omega⟩
    unfold d_X4_isJoined_2 d_X12_bar_54
    have B := r8 k (by omega)
    have e2 : (2 * (k : Int)).toNat = 2 * k := by omega
    have e4 : (2 * (k : Int) + 1).toNat = 2 * k + 1 := by omega
    have e3 : ((k : Int) + 1) = ((k + 1 : Nat) : Int) := by omega
    simp only [r3.1, r3.2.1, Int.toNat_natCast, e2, e3, e4, B.2.2.1.1, B.2.2.2.1.1]
    have I := ih (k + 1) f g (by omega) (by omega) (by omega)
    have more : (¬ (s7 18 (2 * k) = a ∧ s7 18 (2 * k + 1) = b) ∧ ¬ (s7 18 (2 * k) = b ∧ s7 18 (2 * k + 1) = a)) → (∃ z, d_X4_isJoined_2 s3 s8 ks a b f (k + 1 : Nat) = some (.inr 1) ∧ d_X12_bar_54 s7 kind a b str g (k + 1 : Nat) = some (.inr ((-3), s7)) ∧ z = (0 : Int)) ∨ (∃ z w, d_X4_isJoined_2 s3 s8 ks a b f (k + 1 : Nat) = some (.inl z) ∧ d_X12_bar_54 s7 kind a b str g (k + 1 : Nat) = some (.inl w) ∧ ∀ d : Nat, k ≤ d → (d : Int) < s7 0 25 → ¬ (s7 18 (2 * d) = a ∧ s7 18 (2 * d + 1) = b) ∧ ¬ (s7 18 (2 * d) = b ∧ s7 18 (2 * d + 1) = a)) := by
      intro hn
      rcases I with h | ⟨z, w, h1, h2, h3⟩
      · exact Or.inl h
      · refine Or.inr ⟨z, w, h1, h2, fun j x y => ?_⟩
        by_cases e : j = k
        · rw [e]; exact hn
        · exact h3 j (by omega) y
    clear I ih
    by_cases q : (s7 18 (2 * k) = a ∧ s7 18 (2 * k + 1) = b) ∨ (s7 18 (2 * k) = b ∧ s7 18 (2 * k + 1) = a)
    · clear more
      refine Or.inl ⟨0, ?_, ?_, rfl⟩
      · by_cases q1 : s7 18 (2 * k) = a
        · by_cases q2 : s7 18 (2 * k + 1) = b
          · clear q
            simp (disch := omega) only [↓if_pos, ↓if_neg]
          · exfalso
            rcases q with h | h <;> omega
        · have h : s7 18 (2 * k) = b ∧ s7 18 (2 * k + 1) = a := q.resolve_left (fun h => q1 h.1)
          clear q
          simp (disch := omega) only [↓if_pos, ↓if_neg]
      · by_cases q1 : s7 18 (2 * k) = a
        · by_cases q2 : s7 18 (2 * k + 1) = b
          · clear q
            simp (disch := omega) only [↓if_pos, ↓if_neg]
          · exfalso
            rcases q with h | h <;> omega
        · have h : s7 18 (2 * k) = b ∧ s7 18 (2 * k + 1) = a := q.resolve_left (fun h => q1 h.1)
          clear q
          simp (disch := omega) only [↓if_pos, ↓if_neg]
    · have M := more ⟨fun h => q (Or.inl h), fun h => q (Or.inr h)⟩
      clear more
      by_cases q1 : s7 18 (2 * k) = a
      · have n1 : s7 18 (2 * k + 1) ≠ b := fun h => q (Or.inl ⟨q1, h⟩)
        by_cases q3 : s7 18 (2 * k) = b
        · have n2 : s7 18 (2 * k + 1) ≠ a := fun h => q (Or.inr ⟨q3, h⟩)
          clear q
          simp (disch := omega) only [↓if_pos, ↓if_neg]
          exact M
        · clear q
          simp (disch := omega) only [↓if_pos, ↓if_neg]
          exact M
      · by_cases q3 : s7 18 (2 * k) = b
        · have n2 : s7 18 (2 * k + 1) ≠ a := fun h => q (Or.inr ⟨q3, h⟩)
          clear q
          simp (disch := omega) only [↓if_pos, ↓if_neg]
          exact M
        · clear q
          simp (disch := omega) only [↓if_pos, ↓if_neg]
          exact M
theorem e_addBar {s0 s1 s2 s3 s4 s5 s6 s7 s8 : zZ} {ks : List Int} {n : Nat} (h1 : s3 0 7 = n) (h2 : s3 5 0 = n) (h3 : ks.length = n) (h16 : n < 16) {kind a b str : Int} (hk : 0 ≤ kind ∧ kind ≤ 2) : d_X4_addBar s0 s1 s2 s3 s4 s5 s6 s7 s8 ks kind a b str = some ((n : Int), upz (upz (upz s3 5 0 ((n : Int) + 1)) 0 10 1) 0 7 ((n : Int) + 1), upz (upz (upz (upz (upz (znew s8 n) n 0 n) n 1 a) n 2 b) n 3 str) n 5 (-1), ks ++ [kind]) := by
  have u7 : upz (upz s3 5 0 ((n : Int) + 1)) 0 10 1 0 7 = n := by rw [upz_at, if_pos rfl, if_neg (by decide), upz_ne _ _ _ _ (by decide)]; exact h1
  have L : ∀ k : Int, (ks ++ [k]).length = n + 1 := fun k => by rw [List.length_append, List.length_singleton, h3]
  have I : ∀ k : Int, d_X0_init (znew s8 n) (ks ++ [k]) n a b str n = some (upz (upz (upz (upz (upz (znew s8 n) n 0 n) n 1 a) n 2 b) n 3 str) n 5 (-1)) := fun k => by
    unfold d_X0_init
    rw [Int.toNat_natCast, L, if_pos (by omega), if_pos (by omega), if_pos (by omega), if_pos (by omega), if_pos (by omega)]
  unfold d_X4_addBar d_X4_hasRoomForBar d_X1_init d_X3_init
  have kd : kind = 0 ∨ kind = 1 ∨ kind = 2 := by omega
  simp only [h1, h2, h3, I, L, u7, upz_hit, Int.toNat_natCast, Option.bind_some]
  rcases kd with rfl | rfl | rfl
  all_goals
    simp (disch := omega) only [↓if_pos, ↓if_neg, ↓Option.bind_some]
    rw [show (n : Int) + 1 - 1 = n by omega, if_pos ⟨trivial, trivial, by omega, by omega⟩]
theorem m_bar {s0 s1 s2 s3 s4 s5 s6 s7 s8 : zZ} {ks : List Int} {kind a b str : Int} (hk : zr kind) (ha : zr a) (hb : zr b) (hs : zr str) (R : ND s3 s8 ks s7) : ∃ r s3' s8' ks' s7', d_X11_bar s0 s1 s2 s3 s4 s5 s6 s7 s8 ks kind a b str = some (r, s3', s8', ks') ∧ d_X12_bar s7 kind a b str = some (r, s7') ∧ ND s3' s8' ks' s7' ∧ ((s3' = s3 ∧ s8' = s8 ∧ ks' = ks) ∨ s3' 0 10 = 1) ∧ Fr [17, 18, 19, 20] [25] s7 s7' := by
  have hR := R
  obtain ⟨r1, r2, r3, r4, r5, r6, r7, r8, r9, r10, r11, r12, r13⟩ := hR
  have off : ∀ (r : Int) (A : Option (Int × zZ × zZ × List Int)) (B : Option (Int × zZ)), A = some (r, s3, s8, ks) → B = some (r, s7) → ∃ r s3' s8' ks' s7', A = some (r, s3', s8', ks') ∧ B = some (r, s7') ∧ ND s3' s8' ks' s7' ∧ ((s3' = s3 ∧ s8' = s8 ∧ ks' = ks) ∨ s3' 0 10 = 1) ∧ Fr [17, 18, 19, 20] [25] s7 s7' := fun r A B x y => ⟨r, s3, s8, ks, s7, x, y, R, Or.inl ⟨rfl, rfl, rfl⟩, Fr_refl _ _ _⟩
  unfold d_X11_bar d_X12_bar
  rw [e_isJ4 ha (by omega), e_isJ4 hb (by omega), e_isJ7 ha (by omega), e_isJ7 hb (by omega), e_isKind hk, e_X12_within (by omega), e_X12_within (by omega), r1.1]
  by_cases q1 : 0 ≤ a ∧ a < s7 0 20
  · by_cases q2 : 0 ≤ b ∧ b < s7 0 20
    · by_cases q3 : a = b
      · refine off (-2) _ _ ?_ ?_
        · simp (disch := omega) only [↓if_pos, ↓if_neg, ↓Option.bind_some]
        · simp (disch := omega) only [↓if_pos, ↓if_neg, ↓Option.bind_some]
      · by_cases q4 : 0 ≤ kind ∧ kind ≤ 2
        · by_cases q5 : 1 ≤ str ∧ str ≤ 999
          · unfold d_X4_isJoined d_X4_hasRoomForBar
            rcases e_joined R (kind := kind) (str := str) ha hb (s7 0 25).toNat 0 zF zF (by omega) (by unfold zF; omega) (by unfold zF; omega) with ⟨_, t1, t2, _⟩ | ⟨z, w, t1, t2, t3⟩
            · rw [show ((0 : Nat) : Int) = 0 from rfl] at t1 t2
              rw [t1, t2]
              refine off (-3) _ _ ?_ ?_
              · simp (disch := omega) only [↓if_pos, ↓if_neg, ↓Option.bind_some]
              · simp (disch := omega) only [↓if_pos, ↓if_neg, ↓Option.bind_some]
            · rw [show ((0 : Nat) : Int) = 0 from rfl] at t1 t2
              rw [t1, t2]
              obtain ⟨n, hn⟩ : ∃ n : Nat, s7 0 25 = n := ⟨(s7 0 25).toNat, by omega⟩
              by_cases full : n = 16
              · refine off (-4) _ _ ?_ ?_
                · simp (disch := omega) only [↓if_pos, ↓if_neg, ↓Option.bind_some]
                · simp (disch := omega) only [↓if_pos, ↓if_neg, ↓Option.bind_some]
              · rw [e_addBar (n := n) (by omega) (by omega) (by omega) (by omega) q4]
                have e2 : (2 * (n : Int)).toNat = 2 * n := by omega
                have e4 : (2 * (n : Int) + 1).toNat = 2 * n + 1 := by omega
                simp only [Option.bind_some, hn, Int.toNat_natCast, upz_at]
                simp (disch := omega) only [↓if_pos, ↓if_neg, ↓Option.bind_some, Int.toNat_natCast, e2, e4]
                simp only [↓reduceIte]
                rw [show (n : Int) + 1 - 1 = n by omega]
                refine ⟨_, _, _, _, _, rfl, rfl, ?_, Or.inr (by simp only [upz_at]; grind), by repeat first | exact Fr_refl _ _ _ | refine Fr_upz0 (by decide) ?_ | refine Fr_upz (by decide) (by decide) ?_⟩
                · exact ND_bar R hn (by omega) q4 q1 q2 q3 q5 (fun d hd => t3 d (Nat.zero_le _) hd) ⟨by simp only [upz_at]; grind, by simp only [upz_at]; grind, by simp only [upz_at]; grind, by simp only [upz_at]; grind, by simp only [upz_at]; grind⟩ (fun q h0 h5 => by rw [upz_ne _ _ _ _ (by omega), upz_ne _ _ _ _ (by omega), upz_ne _ _ _ _ (by omega)]) ⟨by simp only [upz_at, znew]; grind, by simp only [upz_at, znew]; grind, by simp only [upz_at, znew]; grind, by simp only [upz_at, znew]; grind, by simp only [upz_at, znew]; grind⟩ (fun d hd => by funext j; simp only [upz_at, znew]; grind) ⟨by simp only [upz_at]; grind, by simp only [upz_at]; grind, by simp only [upz_at]; grind, by simp only [upz_at]; grind⟩ (fun d => by simp only [upz_at]; grind) (fun d => by simp only [upz_at]; grind) (fun d => by simp only [upz_at]; grind) (fun d => by simp only [upz_at]; grind) ⟨by rw [upz_ne _ _ _ _ (by omega), upz_ne _ _ _ _ (by omega), upz_ne _ _ _ _ (by omega), upz_ne _ _ _ _ (by omega), upz_ne _ _ _ _ (by omega), upz_ne _ _ _ _ (by omega)], by rw [upz_ne _ _ _ _ (by omega), upz_ne _ _ _ _ (by omega), upz_ne _ _ _ _ (by omega), upz_ne _ _ _ _ (by omega), upz_ne _ _ _ _ (by omega), upz_ne _ _ _ _ (by omega)], by rw [upz_ne _ _ _ _ (by omega), upz_ne _ _ _ _ (by omega), upz_ne _ _ _ _ (by omega), upz_ne _ _ _ _ (by omega), upz_ne _ _ _ _ (by omega), upz_ne _ _ _ _ (by omega)], by rw [upz_ne _ _ _ _ (by omega), upz_ne _ _ _ _ (by omega), upz_ne _ _ _ _ (by omega), upz_ne _ _ _ _ (by omega), upz_ne _ _ _ _ (by omega), upz_ne _ _ _ _ (by omega)]⟩
          · refine off (-2) _ _ ?_ ?_
            · by_cases s1 : str < 1
              · simp (disch := omega) only [↓if_pos, ↓if_neg, ↓Option.bind_some]
              · simp (disch := omega) only [↓if_pos, ↓if_neg, ↓Option.bind_some]
            · simp (disch := omega) only [↓if_pos, ↓if_neg, ↓Option.bind_some]
        · refine off (-2) _ _ ?_ ?_
          · simp (disch := omega) only [↓if_pos, ↓if_neg, ↓Option.bind_some]
          · simp (disch := omega) only [↓if_pos, ↓if_neg, ↓Option.bind_some]
    · refine off (-1) _ _ ?_ ?_
      · simp (disch := omega) only [↓if_pos, ↓if_neg, ↓Option.bind_some]
      · simp (disch := omega) only [↓if_pos, ↓if_neg, ↓Option.bind_some]
  · refine off (-1) _ _ ?_ ?_
    · simp (disch := omega) only [↓if_pos, ↓if_neg, ↓Option.bind_some]
    · simp (disch := omega) only [↓if_pos, ↓if_neg, ↓Option.bind_some]
