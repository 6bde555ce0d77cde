/-! the skin: shortest cut in the class -/
theorem DP_min {g D : Nat → Int} (P : DP g D) {x : Nat} {d : Int} (hx : x < 100) (h : Wk g x d) : D x ≤ d := by
  obtain ⟨p1, p2, p3, p4⟩ := P
  exact (h (fun y e => y < 100 ∧ D y ≤ e) (fun y hy h0 => ⟨hy, p2 y hy h0⟩) (fun y b e hy hb hn k => ⟨hy, by have := p3 y b hy hb hn; have := k.2; omega⟩)).2
theorem DP_tight {g D : Nat → Int} (P : DP g D) {x : Nat} (hx : x < 100) : (x % 10 = 0 ∧ D x = co g x) ∨ ∃ b, b < 100 ∧ nr8 x b ∧ D x = D b + co g x := by
  have p3 := P.2.2.1
  have p4 := P.2.2.2
  have k := p4 x hx (fun y e => Wk g y e ∧ ((y % 10 = 0 ∧ e = co g y) ∨ ∃ b e', b < 100 ∧ nr8 y b ∧ Wk g b e' ∧ e = e' + co g y)) (fun y hy h0 => ⟨Wk_0 hy h0, Or.inl ⟨h0, rfl⟩⟩) (fun y b e hy hb hn h => ⟨Wk_s hy hb hn h.1, Or.inr ⟨b, e, hb, hn, h.1, rfl⟩⟩)
  rcases k.2 with h | ⟨b, e, h1, h2, h3, h4⟩
  · exact Or.inl h
  · refine Or.inr ⟨b, h1, h2, ?_⟩
    have := DP_min P h1 h3
    have := p3 x b hx h1 h2
    omega
def Prc (s : zZ) (x : Nat) : Prop := (∀ y, y < 100 → nr8 x y → s 2 y = 1) ∧ x % 10 ≠ 9
/-- what holds in the l-th level after k steps; ex is the place at hand -/
def Bf (g D : Nat → Int) (l : Int) (ex : Nat → Prop) (k : Int) (s : zZ) : Prop := (∀ a, a < 100 → s 1 a = g a) ∧ (∀ a, a < 100 → s 2 a = 0 ∨ s 2 a = 1) ∧ 0 ≤ s 0 3 ∧ 0 ≤ s 0 5 ∧ s 0 3 + s 0 5 + k ≤ tot (s 2) 100 ∧ (∀ i : Nat, (i : Int) < s 0 3 → ∃ x : Nat, s 3 i = x ∧ x < 100 ∧ s 2 x = 1 ∧ D x ≤ l) ∧ (∀ i : Nat, (i : Int) < s 0 5 → ∃ x : Nat, s 4 i = x ∧ x < 100 ∧ s 2 x = 1 ∧ D x = l + 1) ∧ (∀ x, x < 100 → s 2 x = 1 → ¬ ex x → (∃ i : Nat, (i : Int) < s 0 3 ∧ s 3 i = x) ∨ (∃ i : Nat, (i : Int) < s 0 5 ∧ s 4 i = x) ∨ Prc s x) ∧ (∀ y, y < 100 → D y ≤ l - 1 → Prc s y)
theorem Bf_tot {g D : Nat → Int} {l k : Int} {ex : Nat → Prop} {s : zZ} (F : Bf g D l ex k s) : s 0 3 + s 0 5 + k ≤ 100 ∧ ∀ y, y < 100 → s 2 y = 0 → s 0 3 + s 0 5 + k ≤ 99 := by
  obtain ⟨f1, f2, f3, f4, f5, f6, f7, f8, f9⟩ := F
  have h1 := tot_le (v := s 2) (c := 1) 100 (fun a ha => by have := f2 a ha; omega)
  refine ⟨by omega, fun y hy h0 => ?_⟩
  have := tot_some (v := s 2) (i := y) (n := 100) hy (fun a ha => by have := f2 a ha; omega) h0
  omega
theorem Prc_mono {s s' : zZ} {x : Nat} (h : ∀ a, a < 100 → s 2 a = 1 → s' 2 a = 1) (p : Prc s x) : Prc s' x := ⟨fun y hy hn => h y hy (p.1 y hy hn), p.2⟩
theorem Bf_w {g D : Nat → Int} {l k : Int} {ex : Nat → Prop} {s : zZ} {y : Nat} (F : Bf g D l ex k s) (hy : y < 100) (h0 : s 2 y = 0) (hd : D y ≤ l) : Bf g D l ex k (psh s 3 3 y) := by
  obtain ⟨f1, f2, f3, f4, f5, f6, f7, f8, f9⟩ := F
  have p2 := psh_2 s (Or.inl rfl : (3 = 3 ∨ 3 = 4)) 3 y
  have mono : ∀ a, a < 100 → s 2 a = 1 → psh s 3 3 y 2 a = 1 := by
    intro a _ ha
    rw [p2]
    split
    · rfl
    · exact ha
  have c5 := psh_c' s (Or.inl rfl : (3 = 3 ∨ 3 = 4)) 3 y (show 5 ≠ 3 by decide)
  have l4 := psh_l' s (p := 3) 3 y (show 4 ≠ 0 by decide) (by decide) (by decide)
  refine ⟨by rw [psh_1 s (Or.inl rfl)]; exact f1, fun a ha => ?_, ?_, by rw [c5]; exact f4, ?_, fun i hi => ?_, fun i hi => ?_, fun x hx h h2 => ?_, fun x hx h => Prc_mono mono (f9 x hx h)⟩
  · rw [p2]
    split
    · exact Or.inr rfl
    · exact f2 a ha
  · rw [psh_c]; omega
  · rw [psh_c, c5, tot_put (v := s 2) (i := y) (x := 1) 100 hy (by rw [p2, if_pos rfl, h0]; rfl) (fun a ha => by rw [p2, if_neg ha])]
    omega
  · rw [psh_c] at hi
    rw [psh_l s (Or.inl rfl)]
    by_cases q : i = (s 0 3).toNat
    · rw [if_pos q]
      exact ⟨y, rfl, hy, by rw [p2, if_pos rfl], hd⟩
    · rw [if_neg q]
      obtain ⟨x, x1, x2, x3, x4⟩ := f6 i (by omega)
      exact ⟨x, x1, x2, mono x x2 x3, x4⟩
  · rw [c5] at hi
    rw [l4]
    obtain ⟨x, x1, x2, x3, x4⟩ := f7 i hi
    exact ⟨x, x1, x2, mono x x2 x3, x4⟩
  · rw [psh_c, c5, l4]
    by_cases q : x = y
    · subst q
      refine Or.inl ⟨(s 0 3).toNat, by omega, ?_⟩
      rw [psh_l s (Or.inl rfl), if_pos rfl]
    · rw [p2, if_neg q] at h
      rcases f8 x hx h h2 with ⟨i, i1, i2⟩ | i | i
      · refine Or.inl ⟨i, by omega, ?_⟩
        rw [psh_l s (Or.inl rfl), if_neg (by omega)]
        exact i2
      · exact Or.inr (Or.inl i)
      · exact Or.inr (Or.inr (Prc_mono mono i))
theorem Bf_l {g D : Nat → Int} {l k : Int} {ex : Nat → Prop} {s : zZ} {y : Nat} (F : Bf g D l ex k s) (hy : y < 100) (h0 : s 2 y = 0) (hd : D y = l + 1) : Bf g D l ex k (psh s 4 5 y) := by
  obtain ⟨f1, f2, f3, f4, f5, f6, f7, f8, f9⟩ := F
  have p2 := psh_2 s (Or.inr rfl : (4 = 3 ∨ 4 = 4)) 5 y
  have mono : ∀ a, a < 100 → s 2 a = 1 → psh s 4 5 y 2 a = 1 := by
    intro a _ ha
    rw [p2]
    split
    · rfl
    · exact ha
  have c3 := psh_c' s (Or.inr rfl : (4 = 3 ∨ 4 = 4)) 5 y (show 3 ≠ 5 by decide)
  have l3 := psh_l' s (p := 4) 5 y (show 3 ≠ 0 by decide) (by decide) (by decide)
  refine ⟨by rw [psh_1 s (Or.inr rfl)]; exact f1, fun a ha => ?_, by rw [c3]; exact f3, by rw [psh_c]; omega, ?_, fun i hi => ?_, fun i hi => ?_, fun x hx h h2 => ?_, fun x hx h => Prc_mono mono (f9 x hx h)⟩
  · rw [p2]
    split
    · exact Or.inr rfl
    · exact f2 a ha
  · rw [psh_c, c3, tot_put (v := s 2) (i := y) (x := 1) 100 hy (by rw [p2, if_pos rfl, h0]; rfl) (fun a ha => by rw [p2, if_neg ha])]
    omega
  · rw [c3] at hi
    rw [l3]
    obtain ⟨x, x1, x2, x3, x4⟩ := f6 i hi
    exact ⟨x, x1, x2, mono x x2 x3, x4⟩
  · rw [psh_c] at hi
    rw [psh_l s (Or.inr rfl)]
    by_cases q : i = (s 0 5).toNat
    · rw [if_pos q]
      exact ⟨y, rfl, hy, by rw [p2, if_pos rfl], hd⟩
    · rw [if_neg q]
      obtain ⟨x, x1, x2, x3, x4⟩ := f7 i (by omega)
      exact ⟨x, x1, x2, mono x x2 x3, x4⟩
  · rw [psh_c, c3, l3]
    by_cases q : x = y
    · subst q
      refine Or.inr (Or.inl ⟨(s 0 5).toNat, by omega, ?_⟩)
      rw [psh_l s (Or.inr rfl), if_pos rfl]
    · rw [p2, if_neg q] at h
      rcases f8 x hx h h2 with i | ⟨i, i1, i2⟩ | i
      · exact Or.inl i
      · refine Or.inr (Or.inl ⟨i, by omega, ?_⟩)
        rw [psh_l s (Or.inr rfl), if_neg (by omega)]
        exact i2
      · exact Or.inr (Or.inr (Prc_mono mono i))
theorem e_come {g D : Nat → Int} (hg : ∀ a, a < 100 → g a = 0 ∨ g a = 1) {l k : Int} (hk : 0 ≤ k) {ex : Nat → Prop} {s : zZ} {y : Nat} (F : Bf g D l ex k s) (hy : y < 100) (hw : g y ≠ 0 → s 2 y = 0 → D y ≤ l) (hl : g y = 0 → s 2 y = 0 → D y = l + 1) : ∃ s', d_X8_comeTo s y = some s' ∧ Bf g D l ex k s' ∧ (∀ a, a < 100 → s 2 a = 1 → s' 2 a = 1) ∧ s' 2 y = 1 := by
  have T := Bf_tot F
  have F' := F
  obtain ⟨f1, f2, f3, f4, f5, f6, f7, f8, f9⟩ := F'
  have g1 := f1 y hy
  have gy := hg y hy
  have sy := f2 y hy
  unfold d_X8_comeTo
  simp only [Int.toNat_natCast, g1]
  rw [if_pos (by omega), if_pos (by omega)]
  by_cases q : g y = 0
  · rw [if_pos (by omega), e_lineL hy sy ⟨f4, fun h0 => by have := T.2 y hy h0; omega, by omega⟩, Option.bind_some]
    by_cases h0 : s 2 y = 0
    · rw [if_pos h0]
      refine ⟨_, rfl, Bf_l F hy h0 (hl q h0), fun a _ ha => ?_, by rw [psh_2 s (Or.inr rfl), if_pos rfl]⟩
      rw [psh_2 s (Or.inr rfl)]
      split
      · rfl
      · exact ha
    · rw [if_neg h0]
      exact ⟨_, rfl, F, fun _ _ h => h, by omega⟩
  · rw [if_neg (by omega), e_lineUp hy sy ⟨f3, fun h0 => by have := T.2 y hy h0; omega, by omega⟩, Option.bind_some]
    by_cases h0 : s 2 y = 0
    · rw [if_pos h0]
      refine ⟨_, rfl, Bf_w F hy h0 (hw q h0), fun a _ ha => ?_, by rw [psh_2 s (Or.inl rfl), if_pos rfl]⟩
      rw [psh_2 s (Or.inl rfl)]
      split
      · rfl
      · exact ha
    · rw [if_neg h0]
      exact ⟨_, rfl, F, fun _ _ h => h, by omega⟩
theorem later_new {g D : Nat → Int} (P : DP g D) {l k : Int} {ex : Nat → Prop} {s : zZ} {x y : Nat} (F : Bf g D l ex k s) (hc : ∀ a, a < 100 → a % 10 = 0 → s 2 a = 1) (hx : x < 100) (hy : y < 100) (hn : nr8 x y) (hd : D x ≤ l) (g0 : g y = 0) (s0 : s 2 y = 0) : D y = l + 1 := by
  have cy : co g y = 1 := by unfold co; rw [if_pos g0]
  have h1 := P.2.2.1 y x hy hx (nr8_symm hn)
  rcases DP_tight P hy with h | ⟨b, b1, b2, b3⟩
  · have := hc y hy h.1
    omega
  · by_cases q : D y ≤ l
    · have := (F.2.2.2.2.2.2.2.2 b b1 (by omega)).1 y hy (nr8_symm b2)
      omega
    · omega
theorem e_ca48 {g D : Nat → Int} (hg : ∀ a, a < 100 → g a = 0 ∨ g a = 1) (P : DP g D) {l k step : Int} (hk : 0 ≤ k) {x : Nat} (hx : x < 100) (hd : D x ≤ l) : ∀ (m way f : Nat) (s : zZ), way + m = 8 → m + 1 ≤ f → Bf g D l (fun z => z = x) k s → (∀ a, a < 100 → a % 10 = 0 → s 2 a = 1) → (∀ w, w < way → ∀ y : Nat, y < 100 → nbI x w = y → s 2 y = 1) → ∃ z s', d_X8_comesAcross_48 step x f way s = some (z, s') ∧ Bf g D l (fun z => z = x) k s' ∧ (∀ w, w < 8 → ∀ y : Nat, y < 100 → nbI x w = y → s' 2 y = 1) ∧ (∀ a, a < 100 → s 2 a = 1 → s' 2 a = 1) := by
  intro m
  induction m with
  | zero =>
    intro way f s hm hf F hc H
    obtain ⟨f, rfl⟩ : ∃ h, f = h + 1 := ⟨f - 1, by omega⟩
    unfold d_X8_comesAcross_48
    have : way = 8 := by omega
    subst this
    rw [if_pos (by omega), if_pos (by omega)]
    exact ⟨_, _, rfl, F, H, fun _ _ h => h⟩
  | succ m ih =>
    intro way f s hm hf F hc H
    obtain ⟨f, rfl⟩ : ∃ h, f = h + 1 := ⟨f - 1, by omega⟩
    unfold d_X8_comesAcross_48
    have e3 : ((way : Int) + 1) = ((way + 1 : Nat) : Int) := by omega
    rw [if_pos (by omega), if_neg (by omega), e_nb hx (by omega), Option.bind_some, e3]
    rcases nbI_rng hx (show way < 8 by omega) with h | ⟨b, hb, hb1, hb2⟩
    · rw [h, if_pos (by omega), if_pos (by omega)]
      exact ih (way + 1) f s (by omega) (by omega) F hc (fun w hw y hy h1 => by
        by_cases q : w = way
        · subst q
          rw [h] at h1
          omega
        · exact H w (by omega) y hy h1)
    · rw [hb, if_pos (by omega), if_neg (by omega)]
      obtain ⟨s1, c1, c2, c3, c4⟩ := e_come hg hk F hb1 (fun gn _ => by
        have := P.2.2.1 b x hb1 hx (nr8_symm hb2)
        have cb : co g b = 0 := by unfold co; rw [if_neg gn]
        omega) (fun g0 s0 => later_new P F hc hx hb1 hb2 hd g0 s0)
      rw [c1, Option.bind_some]
      obtain ⟨z, s', d1, d2, d3, d4⟩ := ih (way + 1) f s1 (by omega) (by omega) c2 (fun a ha h0 => c3 a ha (hc a ha h0)) (fun w hw y hy h1 => by
        by_cases q : w = way
        · subst q
          rw [hb] at h1
          have : y = b := by omega
          rw [this]
          exact c4
        · exact c3 y hy (H w (by omega) y hy h1))
      exact ⟨z, s', d1, d2, d3, fun a ha h => d4 a ha (c3 a ha h)⟩
theorem e_ca2 {g D : Nat → Int} (hg : ∀ a, a < 100 → g a = 0 ∨ g a = 1) (P : DP g D) {l : Int} : ∀ (m step f : Nat) (s : zZ), step + m = 100 → m + 1 ≤ f → Bf g D l (fun _ => False) step s → (∀ a, a < 100 → a % 10 = 0 → s 2 a = 1) → (∃ z s', d_X8_comesAcross_2 f step s = some (.inl (z, s')) ∧ (∃ k, 0 ≤ k ∧ Bf g D l (fun _ => False) k s') ∧ s' 0 3 = 0 ∧ (∀ a, a < 100 → a % 10 = 0 → s' 2 a = 1)) ∨ (∃ s', d_X8_comesAcross_2 f step s = some (.inr (1, s')) ∧ (∀ a, a < 100 → s' 1 a = g a) ∧ (∃ x, x < 100 ∧ x % 10 = 9 ∧ D x ≤ l) ∧ ∀ y, y < 100 → y % 10 = 9 → ¬ D y ≤ l - 1) := by
  intro m
  induction m with
  | zero =>
    intro step f s hs hf F hc
    obtain ⟨f, rfl⟩ : ∃ h, f = h + 1 := ⟨f - 1, by omega⟩
    unfold d_X8_comesAcross_2
    have T := Bf_tot F
    have f3 := F.2.2.1
    have f4 := F.2.2.2.1
    rw [if_pos (by omega), if_pos (by omega)]
    exact Or.inl ⟨_, _, rfl, ⟨_, by omega, F⟩, by omega, hc⟩
  | succ m ih =>
    intro step f s hs hf F hc
    obtain ⟨f, rfl⟩ : ∃ h, f = h + 1 := ⟨f - 1, by omega⟩
    unfold d_X8_comesAcross_2
    have T := Bf_tot F
    have F' := F
    obtain ⟨f1, f2, f3, f4, f5, f6, f7, f8, f9⟩ := F'
    rw [if_pos (by omega), if_neg (by omega), if_pos (by omega)]
    by_cases w0 : s 0 3 ≤ 0
    · rw [if_pos w0]
      exact Or.inl ⟨_, _, rfl, ⟨_, by omega, F⟩, by omega, hc⟩
    · rw [if_neg w0]
      have u3 : upz s 0 3 (s 0 3 - 1) 0 3 = s 0 3 - 1 := upz_hit _ _ _ _
      have u05 : upz s 0 3 (s 0 3 - 1) 0 5 = s 0 5 := by rw [upz_at, if_pos rfl, if_neg (by decide)]
      obtain ⟨x, x1, x2, x3, x4⟩ := f6 (s 0 3 - 1).toNat (by omega)
      have u5 : upz s 0 3 (s 0 3 - 1) 3 (s 0 3 - 1).toNat = x := by rw [upz_ne _ _ _ _ (by decide)]; exact x1
      simp only [u3, u5]
      have un : ∀ q, q ≠ 0 → upz s 0 3 (s 0 3 - 1) q = s q := fun q hq => upz_ne _ _ _ _ hq
      rw [if_pos (by omega), if_pos (by omega), if_pos (by omega)]
      by_cases q9 : (x : Int) % 10 = 9
      · rw [if_neg (by omega)]
        refine Or.inr ⟨_, rfl, by rw [un 1 (by decide)]; exact f1, ⟨x, x2, by omega, x4⟩, fun y hy h9 hd => (f9 y hy hd).2 h9⟩
      · rw [if_pos q9]
        have F1 : Bf g D l (fun z => z = x) ((step : Int) + 1) (upz s 0 3 (s 0 3 - 1)) := by
          refine ⟨by rw [un 1 (by decide)]; exact f1, by rw [un 2 (by decide)]; exact f2, by rw [u3]; omega, by rw [u05]; exact f4, by rw [u3, u05, un 2 (by decide)]; omega, fun i hi => ?_, fun i hi => ?_, fun z z1 z2 z4 => ?_, fun y hy h => ?_⟩
          · rw [u3] at hi
            rw [un 3 (by decide), un 2 (by decide)]
            exact f6 i (by omega)
          · rw [u05] at hi
            rw [un 4 (by decide), un 2 (by decide)]
            exact f7 i hi
          · rw [un 2 (by decide)] at z2
            rw [u3, u05, un 3 (by decide), un 4 (by decide)]
            rcases f8 z z1 z2 (fun h => h) with ⟨i, i1, i2⟩ | i | i
            · by_cases q : i = (s 0 3 - 1).toNat
              · rw [q, x1] at i2
                exact absurd (by omega) z4
              · exact Or.inl ⟨i, by omega, i2⟩
            · exact Or.inr (Or.inl i)
            · exact Or.inr (Or.inr (Prc_mono (fun a _ h => by rw [un 2 (by decide)]; exact h) i))
          · exact Prc_mono (fun a _ h => by rw [un 2 (by decide)]; exact h) (f9 y hy h)
        obtain ⟨z, s1, c1, c2, c3, c4⟩ := e_ca48 hg P (k := (step : Int) + 1) (step := step) (by omega) x2 x4 8 0 zF (upz s 0 3 (s 0 3 - 1)) (by omega) (by unfold zF; omega) F1 (by rw [un 2 (by decide)]; exact hc) (fun w hw => by omega)
        rw [show ((0 : Nat) : Int) = 0 from rfl] at c1
        rw [c1, Option.bind_some]
        dsimp only
        have e3 : ((step : Int) + 1) = ((step + 1 : Nat) : Int) := by omega
        rw [e3]
        have xs : s1 2 x = 1 := c4 x x2 (by rw [un 2 (by decide)]; exact x3)
        have F2 : Bf g D l (fun _ => False) ((step + 1 : Nat) : Int) s1 := by
          obtain ⟨d1, d2, d3, d4, d5, d6, d7, d8, d9⟩ := c2
          refine ⟨d1, d2, d3, d4, by omega, d6, d7, fun z z1 z2 _ => ?_, d9⟩
          by_cases q : z = x
          · subst q
            refine Or.inr (Or.inr ⟨fun y hy hn => ?_, by omega⟩)
            rcases nr8_way z1 hy hn with e | ⟨w, w1, w2⟩
            · rw [← e]; exact z2
            · exact c3 w w1 y hy w2
          · exact d8 z z1 z2 q
        exact ih (step + 1) f s1 (by omega) (by omega) F2 (fun a ha h0 => c4 a ha (by rw [un 2 (by decide)]; exact hc a ha h0))
theorem level_end {g D : Nat → Int} (P : DP g D) {l k : Int} {s : zZ} (F : Bf g D l (fun _ => False) k s) (w0 : s 0 3 = 0) (hc : ∀ a, a < 100 → a % 10 = 0 → s 2 a = 1) {y : Nat} (hy : y < 100) (hd : D y ≤ l) : Prc s y := by
  obtain ⟨f1, f2, f3, f4, f5, f6, f7, f8, f9⟩ := F
  have seen : ∀ a, a < 100 → s 2 a = 1 → D a ≤ l → Prc s a := by
    intro a ha h hl
    rcases f8 a ha h (fun q => q) with ⟨i, i1, _⟩ | ⟨i, i1, i2⟩ | i
    · omega
    · obtain ⟨x, x1, x2, x3, x4⟩ := f7 i i1
      rw [i2] at x1
      have : a = x := by omega
      rw [this] at hl
      omega
    · exact i
  have k := P.2.2.2 y hy (fun a d => Wk g a d ∧ a < 100 ∧ (d ≤ l → Prc s a)) (fun a ha h0 => ⟨Wk_0 ha h0, ha, fun h => seen a ha (hc a ha h0) (by have := P.2.1 a ha h0; omega)⟩) (fun a b e ha hb hn h => by
    have w := Wk_s ha hb hn h.1
    refine ⟨w, ha, fun hle => ?_⟩
    have := co_rng g a
    have p := h.2.2 (by omega)
    exact seen a ha (p.1 a ha (nr8_symm hn)) (by have := DP_min P ha w; omega))
  exact k.2.2 hd
theorem e_tl2 {L : Nat} (hL : L ≤ 100) : ∀ (m k f : Nat) (s : zZ), k + m = L → m + 1 ≤ f → s 0 5 = L → (∀ i, i < k → s 3 i = s 4 i) → ∃ z s', d_X8_takeLater_2 f k s = some (z, s') ∧ (∀ q, q ≠ 3 → s' q = s q) ∧ ∀ i, i < L → s' 3 i = s 4 i := by
  intro m
  induction m with
  | zero =>
    intro k f s hk hf h5 h
    obtain ⟨f, rfl⟩ : ∃ h, f = h + 1 := ⟨f - 1, by omega⟩
    unfold d_X8_takeLater_2
    rw [h5, if_pos (by omega), if_pos (by omega)]
    exact ⟨_, _, rfl, fun _ _ => rfl, fun i hi => h i (by omega)⟩
  | succ m ih =>
    intro k f s hk hf h5 h
    obtain ⟨f, rfl⟩ : ∃ h, f = h + 1 := ⟨f - 1, by omega⟩
    unfold d_X8_takeLater_2
    have e3 : ((k : Int) + 1) = ((k + 1 : Nat) : Int) := by omega
    simp only [h5, e3, Int.toNat_natCast]
    rw [if_pos (by omega), if_neg (by omega), if_pos (by omega), if_pos (by omega)]
    obtain ⟨z, s', a1, a2, a3⟩ := ih (k + 1) f (upz s 3 k (s 4 k)) (by omega) (by omega) (by rw [upz_ne _ _ _ _ (by decide)]; exact h5) (fun i hi => by
      rw [upz_at, if_pos rfl, upz_ne _ _ _ _ (show 4 ≠ 3 by decide)]
      by_cases q : i = k
      · rw [if_pos q, q]
      · rw [if_neg q]
        exact h i (by omega))
    refine ⟨z, s', a1, fun q hq => by rw [a2 q hq, upz_ne _ _ _ _ hq], fun i hi => ?_⟩
    rw [a3 i hi, upz_ne _ _ _ _ (show 4 ≠ 3 by decide)]
theorem e_tl {g D : Nat → Int} (P : DP g D) {l k : Int} (hk : 0 ≤ k) {s : zZ} (F : Bf g D l (fun _ => False) k s) (w0 : s 0 3 = 0) (hc : ∀ a, a < 100 → a % 10 = 0 → s 2 a = 1) : ∃ s', d_X8_takeLater s = some s' ∧ Bf g D (l + 1) (fun _ => False) 0 s' ∧ (∀ a, a < 100 → a % 10 = 0 → s' 2 a = 1) := by
  have T := Bf_tot F
  have LE := fun y hy hd => level_end P F w0 hc (y := y) hy hd
  obtain ⟨f1, f2, f3, f4, f5, f6, f7, f8, f9⟩ := F
  obtain ⟨L, hL⟩ : ∃ L : Nat, s 0 5 = L := ⟨(s 0 5).toNat, by omega⟩
  obtain ⟨z, s1, a1, a2, a3⟩ := e_tl2 (L := L) (by omega) L 0 zF s (by omega) (by unfold zF; omega) hL (fun i hi => by omega)
  unfold d_X8_takeLater
  rw [show ((0 : Nat) : Int) = 0 from rfl] at a1
  rw [a1, Option.bind_some]
  dsimp only
  have c5 : s1 0 5 = L := by rw [a2 0 (by decide)]; exact hL
  have v : ∀ q, q ≠ 0 → upz (upz s1 0 3 (s1 0 5)) 0 5 0 q = s1 q := fun q hq => by rw [upz_ne _ _ _ _ hq, upz_ne _ _ _ _ hq]
  have v3 : upz (upz s1 0 3 (s1 0 5)) 0 5 0 0 3 = L := by rw [upz_at, if_pos rfl, if_neg (by decide), upz_hit]; exact c5
  have v5 : upz (upz s1 0 3 (s1 0 5)) 0 5 0 0 5 = 0 := by rw [upz_hit]
  have v2 : upz (upz s1 0 3 (s1 0 5)) 0 5 0 2 = s 2 := by rw [v 2 (by decide), a2 2 (by decide)]
  refine ⟨_, rfl, ⟨by rw [v 1 (by decide), a2 1 (by decide)]; exact f1, by rw [v2]; exact f2, by rw [v3]; omega, by rw [v5]; omega, by rw [v3, v5, v2]; omega, fun i hi => ?_, fun i hi => by rw [v5] at hi; omega, fun x hx h _ => ?_, fun y hy h => ?_⟩, by rw [v2]; exact hc⟩
  · rw [v3] at hi
    rw [v 3 (by decide), a3 i (by omega), v2]
    obtain ⟨x, x1, x2, x3, x4⟩ := f7 i (by omega)
    exact ⟨x, x1, x2, x3, by omega⟩
  · rw [v2] at h
    rcases f8 x hx h (fun q => q) with ⟨i, i1, _⟩ | ⟨i, i1, i2⟩ | i
    · omega
    · refine Or.inl ⟨i, by rw [v3]; omega, ?_⟩
      rw [v 3 (by decide), a3 i (by omega)]
      exact i2
    · exact Or.inr (Or.inr (Prc_mono (fun a _ h => by rw [v2]; exact h) i))
  · exact Prc_mono (fun a _ h => by rw [v2]; exact h) (LE y hy (by omega))
theorem e_sc42 {g D : Nat → Int} (hg : ∀ a, a < 100 → g a = 0 ∨ g a = 1) (P : DP g D) : ∀ (m l f : Nat) (s : zZ), l + m = 10 → m + 1 ≤ f → Bf g D l (fun _ => False) 0 s → (∀ a, a < 100 → a % 10 = 0 → s 2 a = 1) → (∃ z s', d_X8_shortestCut_42 f l s = some (.inl (z, s')) ∧ (∀ a, a < 100 → s' 1 a = g a) ∧ ∀ y, y < 100 → y % 10 = 9 → ¬ D y ≤ 9) ∨ (∃ (L : Int) (s' : zZ), d_X8_shortestCut_42 f l s = some (.inr (L, s')) ∧ (∀ a, a < 100 → s' 1 a = g a) ∧ (∃ x, x < 100 ∧ x % 10 = 9 ∧ D x ≤ L) ∧ ∀ y, y < 100 → y % 10 = 9 → ¬ D y ≤ L - 1) := by
  intro m
  induction m with
  | zero =>
    intro l f s hl hf F hc
    obtain ⟨f, rfl⟩ : ∃ h, f = h + 1 := ⟨f - 1, by omega⟩
    unfold d_X8_shortestCut_42
    rw [if_pos (by omega), if_pos (by omega)]
    exact Or.inl ⟨_, _, rfl, F.1, fun y hy h9 hd => (F.2.2.2.2.2.2.2.2 y hy (by omega)).2 h9⟩
  | succ m ih =>
    intro l f s hl hf F hc
    obtain ⟨f, rfl⟩ : ∃ h, f = h + 1 := ⟨f - 1, by omega⟩
    unfold d_X8_shortestCut_42 d_X8_comesAcross
    have e3 : ((l : Int) + 1) = ((l + 1 : Nat) : Int) := by omega
    rw [if_pos (by omega), if_neg (by omega)]
    rcases e_ca2 hg P (l := l) 100 0 zF s (by omega) (by unfold zF; omega) F hc with ⟨z, s1, a1, ⟨k, k0, a2⟩, a3, a4⟩ | ⟨s1, a1, a2, a3, a4⟩
    · rw [show ((0 : Nat) : Int) = 0 from rfl] at a1
      rw [a1, Option.bind_some]
      dsimp only
      rw [Option.bind_some]
      dsimp only
      obtain ⟨s2, b1, b2, b3⟩ := e_tl P k0 a2 a3 a4
      rw [if_pos (by omega), if_pos rfl, b1, Option.bind_some, e3]
      rw [e3] at b2
      exact ih (l + 1) f s2 (by omega) (by omega) b2 b3
    · rw [show ((0 : Nat) : Int) = 0 from rfl] at a1
      rw [a1, Option.bind_some]
      dsimp only
      rw [Option.bind_some]
      dsimp only
      rw [if_pos (by omega), if_neg (by omega)]
      exact Or.inr ⟨_, _, rfl, a2, a3, a4⟩
theorem e_sc20 {g D : Nat → Int} (hg : ∀ a, a < 100 → g a = 0 ∨ g a = 1) (P : DP g D) : ∀ (m k f : Nat) (s : zZ), k + m = 10 → m + 1 ≤ f → Bf g D 0 (fun _ => False) 0 s → (∀ a, a < 10 * k → a % 10 = 0 → s 2 a = 1) → ∃ z s', d_X8_shortestCut_20 f k s = some (z, s') ∧ Bf g D 0 (fun _ => False) 0 s' ∧ (∀ a, a < 100 → a % 10 = 0 → s' 2 a = 1) := by
  intro m
  induction m with
  | zero =>
    intro k f s hk hf F hc
    obtain ⟨f, rfl⟩ : ∃ h, f = h + 1 := ⟨f - 1, by omega⟩
    unfold d_X8_shortestCut_20
    rw [if_pos (by omega), if_pos (by omega)]
    exact ⟨_, _, rfl, F, fun a ha => hc a (by omega)⟩
  | succ m ih =>
    intro k f s hk hf F hc
    obtain ⟨f, rfl⟩ : ∃ h, f = h + 1 := ⟨f - 1, by omega⟩
    unfold d_X8_shortestCut_20
    have e3 : ((k : Int) + 1) = ((k + 1 : Nat) : Int) := by omega
    have e4 : (k : Int) * 10 = ((k * 10 : Nat) : Int) := by omega
    have h0 := P.2.1 (k * 10) (by omega) (by omega)
    have cr := co_rng g (k * 10)
    obtain ⟨s1, c1, c2, c3, c4⟩ := e_come hg (k := 0) (by omega) F (y := k * 10) (by omega) (fun gn _ => by omega) (fun g0 _ => by
      rcases DP_tight P (show k * 10 < 100 by omega) with h | ⟨b, b1, b2, b3⟩
      · omega
      · have := (P.1 b b1).1
        omega)
    rw [if_pos (by omega), if_neg (by omega), e4, c1, Option.bind_some, e3]
    refine ih (k + 1) f s1 (by omega) (by omega) c2 (fun a ha h1 => ?_)
    by_cases q : a = k * 10
    · rw [q]; exact c4
    · exact c3 a (by omega) (hc a (by omega) h1)
theorem e_cut {g D : Nat → Int} (hg : ∀ a, a < 100 → g a = 0 ∨ g a = 1) (P : DP g D) {A : Int} (hA : ∀ e, e < 10 → A ≤ D (10 * e + 9)) (hA2 : ∃ e, e < 10 ∧ A = D (10 * e + 9)) {s : zZ} (h1 : ∀ a, a < 100 → s 1 a = g a) : ∃ s', d_X8_shortestCut s = some (A, s') ∧ (∀ a, a < 100 → s' 1 a = g a) := by
  have un : ∀ q, q ≠ 0 → upz (upz (zfl s 2 100 0) 0 3 0) 0 5 0 q = zfl s 2 100 0 q := fun q hq => by rw [upz_ne _ _ _ _ hq, upz_ne _ _ _ _ hq]
  have u3 : upz (upz (zfl s 2 100 0) 0 3 0) 0 5 0 0 3 = 0 := by rw [upz_at, if_pos rfl, if_neg (by decide), upz_hit]
  have u5 : upz (upz (zfl s 2 100 0) 0 3 0) 0 5 0 0 5 = 0 := by rw [upz_hit]
  have z2 : ∀ a, a < 100 → upz (upz (zfl s 2 100 0) 0 3 0) 0 5 0 2 a = 0 := fun a ha => by rw [un 2 (by decide), zfl_at, if_pos rfl, if_pos ha]
  have F0 : Bf g D 0 (fun _ => False) 0 (upz (upz (zfl s 2 100 0) 0 3 0) 0 5 0) := by
    refine ⟨fun a ha => by rw [un 1 (by decide), zfl_at, if_neg (by decide)]; exact h1 a ha, fun a ha => Or.inl (z2 a ha), by rw [u3]; omega, by rw [u5]; omega, ?_, fun i hi => by rw [u3] at hi; omega, fun i hi => by rw [u5] at hi; omega, fun x hx h => by rw [z2 x hx] at h; omega, fun y hy h => by have := (P.1 y hy).1; omega⟩
    rw [u3, u5]
    have := tot_nn (v := upz (upz (zfl s 2 100 0) 0 3 0) 0 5 0 2) 100 (fun a ha => by rw [z2 a ha]; omega)
    omega
  obtain ⟨z, s1, a1, a2, a3⟩ := e_sc20 hg P 10 0 zF _ (by omega) (by unfold zF; omega) F0 (fun a ha => by omega)
  rw [show ((0 : Nat) : Int) = 0 from rfl] at a1
  obtain ⟨e, e1, e2⟩ := hA2
  unfold d_X8_shortestCut
  rw [a1, Option.bind_some]
  dsimp only
  rcases e_sc42 hg P 10 0 zF s1 (by omega) (by unfold zF; omega) a2 a3 with ⟨z', s2, b1, b2, b3⟩ | ⟨L, s2, b1, b2, ⟨x, x1, x2, x3⟩, b4⟩
  · rw [show ((0 : Nat) : Int) = 0 from rfl] at b1
    rw [b1, Option.bind_some]
    have h1 := b3 (10 * e + 9) (by omega) (by omega)
    have h2 := (P.1 (10 * e + 9) (by omega)).2
    have : A = 10 := by omega
    rw [this]
    exact ⟨s2, rfl, b2⟩
  · rw [show ((0 : Nat) : Int) = 0 from rfl] at b1
    rw [b1, Option.bind_some]
    have h1 := b4 (10 * e + 9) (by omega) (by omega)
    have h2 := hA (x / 10) (by omega)
    rw [show 10 * (x / 10) + 9 = x by omega] at h2
    have : A = L := by omega
    rw [this]
    exact ⟨s2, rfl, b2⟩
theorem m_skin {s0 s4 s7 : zZ} {wh : Int} (hw : zr wh) (R : RSk s4 (s7 27)) : ∃ r s4' s7', d_X11_skin s0 s4 wh = some (r, s4') ∧ d_X12_skin s7 wh = some (r, s7') ∧ RSk s4' (s7' 27) ∧ Fr [28] [] s7 s7' := by
  have hg : ∀ a, a < 100 → s4 1 a = 0 ∨ s4 1 a = 1 := fun a ha => (R a ha).1
  have h27 : ∀ a, a < 100 → s7 27 a = s4 1 a := fun a ha => (R a ha).2
  have keep : ∀ s4' s7', (∀ a, a < 100 → s4' 1 a = s4 1 a) → Fr [28] [] s7 s7' → RSk s4' (s7' 27) := by
    intro s4' s7' h1 h2 a ha
    rw [h1 a ha, h2.1 27 (by decide) (by decide)]
    exact R a ha
  have lots : ∀ kd : Int, ∀ ways : Nat, ((kd = 0 ∧ ways = 4) ∨ (kd = 1 ∧ ways = 8)) → ∃ r s4' s7', d_X8_lotsApart s4 kd ways = some (r, s4') ∧ d_X12_apart s7 kd = some (r, s7') ∧ (∀ a, a < 100 → s4' 1 a = s4 1 a) ∧ Fr [28] [] s7 s7' := by
    intro kd ways hk
    have ex : ∃ h : Nat → Int, ∀ k, k < 100 → (h k = 1 ∧ Qk (s4 1) kd k) ∨ (h k = 0 ∧ ¬ Qk (s4 1) kd k) := by
      refine ⟨fun k => @ite _ (Qk (s4 1) kd k) (Classical.propDecidable _) 1 0, fun k _ => ?_⟩
      by_cases q : Qk (s4 1) kd k
      · exact Or.inl ⟨if_pos q, q⟩
      · exact Or.inr ⟨if_neg q, q⟩
    obtain ⟨h, hh⟩ := ex
    obtain ⟨s4', a1, a2⟩ := e_lots hg hk hh (s := s4) (fun _ _ => rfl)
    obtain ⟨s7', b1, b2⟩ := e_apart hg (by omega) h27 hh
    exact ⟨_, s4', s7', a1, b1, a2, b2⟩
  obtain ⟨A, D, s7c, c1, c2, c3, c4, c5⟩ := e_shortest hg h27
  obtain ⟨s4c, d1, d2⟩ := e_cut hg c3 c4 c5 (s := s4) (fun _ _ => rfl)
  have A0 : 0 ≤ A ∧ A ≤ 10 := by
    obtain ⟨e, e1, e2⟩ := c5
    have := c3.1 (10 * e + 9) (by omega)
    omega
  obtain ⟨r0, y0, z0, p1, p2⟩ := e_pieces R 100 0 zF zF 0 (by omega) (by unfold zF; omega) (by unfold zF; omega)
  rw [show ((0 : Nat) : Int) = 0 from rfl] at p1 p2
  unfold d_X11_skin d_X12_skin d_X8_piecesThere d_X12_pieces d_X8_tornLots d_X8_lakes
  by_cases w0 : wh = 0
  · rw [p1, p2]
    simp (disch := omega) only [↓if_pos, ↓if_neg, ↓Option.bind_some]
    exact ⟨_, _, _, rfl, rfl, R, Fr_refl _ _ _⟩
  · by_cases w1 : wh = 1
    · obtain ⟨r, s4', s7', a1, a2, a3, a4⟩ := lots 0 4 (Or.inl ⟨rfl, rfl⟩)
      have a1' : d_X8_lotsApart s4 0 4 = some (r, s4') := a1
      rw [a1', a2]
      simp (disch := omega) only [↓if_pos, ↓if_neg, ↓Option.bind_some]
      exact ⟨_, _, _, rfl, rfl, keep _ _ a3 a4, a4⟩
    · by_cases w2 : wh = 2
      · obtain ⟨r, s4', s7', a1, a2, a3, a4⟩ := lots 1 8 (Or.inr ⟨rfl, rfl⟩)
        have a1' : d_X8_lotsApart s4 1 8 = some (r, s4') := a1
        rw [a1', a2]
        simp (disch := omega) only [↓if_pos, ↓if_neg, ↓Option.bind_some]
        exact ⟨_, _, _, rfl, rfl, keep _ _ a3 a4, a4⟩
      · by_cases w3 : wh = 3
        · rw [c1, d1]
          by_cases a0 : A = 0
          · simp (disch := omega) only [↓if_pos, ↓if_neg, ↓Option.bind_some]
            exact ⟨_, _, _, rfl, rfl, keep _ _ d2 c2, c2⟩
          · simp (disch := omega) only [↓if_pos, ↓if_neg, ↓Option.bind_some]
            exact ⟨_, _, _, rfl, rfl, keep _ _ d2 c2, c2⟩
        · by_cases w4 : wh = 4
          · rw [c1, d1]
            simp (disch := omega) only [↓if_pos, ↓if_neg, ↓Option.bind_some]
            exact ⟨_, _, _, rfl, rfl, keep _ _ d2 c2, c2⟩
          · simp (disch := omega) only [↓if_pos, ↓if_neg, ↓Option.bind_some]
            exact ⟨_, _, _, rfl, rfl, R, Fr_refl _ _ _⟩
