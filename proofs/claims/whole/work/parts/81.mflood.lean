/-! the skin: going through a lot (class) -/
def adj (g : Nat → Int) (a b : Nat) : Prop := a < 100 ∧ b < 100 ∧ g a = g b ∧ (g a = 0 → nr4 a b) ∧ nr8 a b
def Con (g : Nat → Int) (a b : Nat) : Prop := ∀ S : Nat → Prop, S a → (∀ x y, S x → adj g x y → S y) → S b
def hld (g : Nat → Int) (a : Nat) : Prop := (g a = 0 ∧ a / 10 = 9) ∨ (g a ≠ 0 ∧ (a / 10 = 0 ∨ a / 10 = 9 ∨ a % 10 = 0 ∨ a % 10 = 9))
theorem Con_refl (g : Nat → Int) (a : Nat) : Con g a a := fun _ h _ => h
theorem Con_step {g : Nat → Int} {a b c : Nat} (h : Con g a b) (k : adj g b c) : Con g a c := fun S h0 h1 => h1 b c (h S h0 h1) k
theorem Con_trans {g : Nat → Int} {a b c : Nat} (h : Con g a b) (k : Con g b c) : Con g a c := fun S h0 h1 => k S (h S h0 h1) h1
theorem nr8_symm {a b : Nat} (h : nr8 a b) : nr8 b a := ⟨h.2.1, h.1, h.2.2.2, h.2.2.1⟩
theorem adj_symm {g : Nat → Int} {a b : Nat} (h : adj g a b) : adj g b a := by
  obtain ⟨h1, h2, h3, h4, h5⟩ := h
  refine ⟨h2, h1, h3.symm, fun q => ?_, nr8_symm h5⟩
  obtain ⟨k1, k2⟩ := h4 (by omega)
  exact ⟨nr8_symm k1, by omega⟩
theorem Con_symm {g : Nat → Int} {a b : Nat} (h : Con g a b) : Con g b a := h (fun x => Con g x a) (Con_refl g a) (fun _ _ hx k => Con_trans (Con_step (Con_refl g _) (adj_symm k)) hx)
theorem Con_g {g : Nat → Int} {a b : Nat} (h : Con g a b) : g b = g a := h (fun x => g x = g a) rfl (fun _ _ hx k => k.2.2.1.symm.trans hx)
theorem Con_lt {g : Nat → Int} {a b : Nat} (ha : a < 100) (h : Con g a b) : b < 100 := h (fun x => x < 100) ha (fun _ _ _ k => k.2.1)
theorem e_isHold {s : zZ} {a : Nat} (ha : a < 100) (hg : s 1 a = 0 ∨ s 1 a = 1) : ∃ v, d_X8_isHold s a = some v ∧ (v = 0 ∨ v = 1) ∧ (v = 1 ↔ hld (s 1) a) := by
  unfold d_X8_isHold d_X8_isAtRim hld
  simp only [Int.toNat_natCast]
  by_cases q : s 1 a = 0
  · by_cases r : a / 10 = 9
    · simp (disch := omega) only [↓if_pos, ↓if_neg]
      exact ⟨1, rfl, Or.inr rfl, fun _ => by omega, fun _ => rfl⟩
    · simp (disch := omega) only [↓if_pos, ↓if_neg]
      exact ⟨0, rfl, Or.inl rfl, fun h => by omega, fun h => by omega⟩
  · by_cases r0 : a / 10 = 0
    · simp (disch := omega) only [↓if_pos, ↓if_neg, ↓Option.bind_some]
      exact ⟨1, rfl, Or.inr rfl, fun _ => by omega, fun _ => rfl⟩
    · by_cases r9 : a / 10 = 9
      · simp (disch := omega) only [↓if_pos, ↓if_neg, ↓Option.bind_some]
        exact ⟨1, rfl, Or.inr rfl, fun _ => by omega, fun _ => rfl⟩
      · by_cases c0 : a % 10 = 0
        · simp (disch := omega) only [↓if_pos, ↓if_neg, ↓Option.bind_some]
          exact ⟨1, rfl, Or.inr rfl, fun _ => by omega, fun _ => rfl⟩
        · by_cases c9 : a % 10 = 9
          · simp (disch := omega) only [↓if_pos, ↓if_neg, ↓Option.bind_some]
            exact ⟨1, rfl, Or.inr rfl, fun _ => by omega, fun _ => rfl⟩
          · simp (disch := omega) only [↓if_pos, ↓if_neg, ↓Option.bind_some]
            exact ⟨0, rfl, Or.inl rfl, fun h => by omega, fun h => by omega⟩
/-- what holds while a lot is gone through; k steps are done; ex is the place at hand -/
def Fl (g : Nat → Int) (S0 Cn : Nat → Prop) (held : Int) (ex : Nat → Prop) (k : Int) (s : zZ) : Prop := (∀ a, a < 100 → s 1 a = g a) ∧ (∀ a, a < 100 → s 2 a = 0 ∨ s 2 a = 1) ∧ 0 ≤ s 0 3 ∧ s 0 3 + k ≤ tot (s 2) 100 ∧ (∀ i : Nat, (i : Int) < s 0 3 → ∃ x : Nat, s 3 i = x ∧ x < 100 ∧ s 2 x = 1 ∧ Cn x) ∧ (∀ x, x < 100 → s 2 x = 1 → S0 x ∨ Cn x) ∧ (∀ x, x < 100 → S0 x → s 2 x = 1) ∧ (∀ x, x < 100 → s 2 x = 1 → ¬ S0 x → ¬ ex x → (∃ i : Nat, (i : Int) < s 0 3 ∧ s 3 i = x) ∨ ((∀ y, adj g x y → s 2 y = 1) ∧ (hld g x → held = 1)))
theorem psh_2 (s : zZ) {p : Nat} (hp : p = 3 ∨ p = 4) (q y a : Nat) : psh s p q y 2 a = if a = y then 1 else s 2 a := by
  unfold psh
  rw [upz_ne _ _ _ _ (by decide), upz_ne _ _ _ _ (by omega), upz_at, if_pos rfl]
theorem psh_1 (s : zZ) {p : Nat} (hp : p = 3 ∨ p = 4) (q y : Nat) : psh s p q y 1 = s 1 := by
  unfold psh
  rw [upz_ne _ _ _ _ (by decide), upz_ne _ _ _ _ (by omega), upz_ne _ _ _ _ (by decide)]
theorem psh_c (s : zZ) (p q y : Nat) : psh s p q y 0 q = s 0 q + 1 := by
  unfold psh
  rw [upz_hit]
theorem psh_c' (s : zZ) {p : Nat} (hp : p = 3 ∨ p = 4) (q y : Nat) {j : Nat} (hj : j ≠ q) : psh s p q y 0 j = s 0 j := by
  unfold psh
  rw [upz_at, if_pos rfl, if_neg hj, upz_ne _ _ _ _ (by omega), upz_ne _ _ _ _ (by decide)]
theorem psh_l (s : zZ) {p : Nat} (hp : p = 3 ∨ p = 4) (q y i : Nat) : psh s p q y p i = if i = (s 0 q).toNat then (y : Int) else s p i := by
  unfold psh
  rw [upz_ne _ _ _ _ (by omega), upz_at, if_pos rfl, upz_ne _ _ _ _ (by omega)]
theorem psh_l' (s : zZ) {p : Nat} (q y : Nat) {p' : Nat} (h0 : p' ≠ 0) (h2 : p' ≠ 2) (hpp : p' ≠ p) : psh s p q y p' = s p' := by
  unfold psh
  rw [upz_ne _ _ _ _ h0, upz_ne _ _ _ _ hpp, upz_ne _ _ _ _ h2]
theorem Fl_psh {g : Nat → Int} {S0 Cn ex : Nat → Prop} {held k : Int} {s : zZ} {y : Nat} (F : Fl g S0 Cn held ex k s) (hy : y < 100) (h0 : s 2 y = 0) (hc : Cn y) : Fl g S0 Cn held ex k (psh s 3 3 y) := by
  obtain ⟨f1, f2, f3, f4, f5, f6, f7, f8⟩ := F
  have p2 := psh_2 s (Or.inl rfl : (3 = 3 ∨ 3 = 4)) 3 y
  have mono : ∀ a, s 2 a = 1 → psh s 3 3 y 2 a = 1 := by
    intro a ha
    rw [p2]
    split
    · rfl
    · exact ha
  refine ⟨by rw [psh_1 s (Or.inl rfl)]; exact f1, fun a ha => ?_, ?_, ?_, fun i hi => ?_, fun x hx h => ?_, fun x hx h => mono x (f7 x hx h), fun x hx h h1 h2 => ?_⟩
  · rw [p2]
    split
    · exact Or.inr rfl
    · exact f2 a ha
  · rw [psh_c]; omega
  · rw [psh_c, tot_put (v := s 2) (i := y) (x := 1) 100 hy (by rw [p2, if_pos rfl, h0]; rfl) (fun a ha => by rw [p2, if_neg ha])]
    omega
  · rw [psh_c] at hi
    rw [psh_l s (Or.inl rfl)]
    by_cases q : i = (s 0 3).toNat
    · rw [if_pos q]
      exact ⟨y, rfl, hy, by rw [p2, if_pos rfl], hc⟩
    · rw [if_neg q]
      obtain ⟨x, x1, x2, x3, x4⟩ := f5 i (by omega)
      exact ⟨x, x1, x2, mono x x3, x4⟩
  · rw [p2] at h
    by_cases q : x = y
    · rw [q]; exact Or.inr hc
    · rw [if_neg q] at h
      exact f6 x hx h
  · rw [psh_c]
    by_cases q : x = y
    · subst q
      refine Or.inl ⟨(s 0 3).toNat, by omega, ?_⟩
      rw [psh_l s (Or.inl rfl), if_pos rfl]
    · rw [p2, if_neg q] at h
      rcases f8 x hx h h1 h2 with ⟨i, i1, i2⟩ | ⟨i1, i2⟩
      · refine Or.inl ⟨i, by omega, ?_⟩
        rw [psh_l s (Or.inl rfl), if_neg (by omega)]
        exact i2
      · exact Or.inr ⟨fun z hz => mono z (i1 z hz), i2⟩
theorem Fl_tot {g : Nat → Int} {S0 Cn ex : Nat → Prop} {held k : Int} {s : zZ} (F : Fl g S0 Cn held ex k s) : s 0 3 + k ≤ 100 ∧ ∀ y, y < 100 → s 2 y = 0 → s 0 3 + k ≤ 99 := by
  obtain ⟨f1, f2, f3, f4, f5, f6, f7, f8⟩ := F
  have h1 := tot_le (v := s 2) (c := 1) 100 (fun a ha => by have := f2 a ha; omega)
  refine ⟨by omega, fun y hy h0 => ?_⟩
  have := tot_some (v := s 2) (i := y) (n := 100) hy (fun a ha => by have := f2 a ha; omega) h0
  omega
theorem e_rh72 {g : Nat → Int} (hg : ∀ a, a < 100 → g a = 0 ∨ g a = 1) {S0 : Nat → Prop} {st x ways : Nat} (hst : st < 100) (hx : x < 100) (hcx : Con g st x) (hw : ways = 8 ∨ (ways = 4 ∧ g st = 0)) (hw2 : g st = 0 → ways = 4) {held hd step k : Int} (hk : 0 ≤ k) : ∀ (m way f : Nat) (s : zZ), way + m = ways → m + 1 ≤ f → Fl g S0 (Con g st) held (fun z => z = x) k s → (∀ w, w < way → ∀ y : Nat, y < 100 → nbI x w = y → g y = g st → s 2 y = 1) → ∃ z s', d_X8_reachesHold_72 st ways hd step x f way s = some (z, s') ∧ Fl g S0 (Con g st) held (fun z => z = x) k s' ∧ (∀ w, w < ways → ∀ y : Nat, y < 100 → nbI x w = y → g y = g st → s' 2 y = 1) ∧ (∀ a, a < 100 → s 2 a = 1 → s' 2 a = 1) := by
  intro m
  induction m with
  | zero =>
    intro way f s hm hf F H
    obtain ⟨f, rfl⟩ : ∃ h, f = h + 1 := ⟨f - 1, by omega⟩
    unfold d_X8_reachesHold_72
    have : way = ways := by omega
    subst this
    rw [if_pos (by omega), if_pos (by omega)]
    exact ⟨_, _, rfl, F, H, fun _ _ h => h⟩
  | succ m ih =>
    intro way f s hm hf F H
    obtain ⟨f, rfl⟩ : ∃ h, f = h + 1 := ⟨f - 1, by omega⟩
    unfold d_X8_reachesHold_72
    have e3 : ((way : Int) + 1) = ((way + 1 : Nat) : Int) := by omega
    have T := Fl_tot F
    have F' := F
    obtain ⟨f1, f2, f3, f4, f5, f6, f7, f8⟩ := F'
    rw [if_pos (by omega), if_neg (by omega), e_nb hx (by omega), Option.bind_some, e3]
    rcases nbI_rng hx (show way < 8 by omega) with h | ⟨b, hb, hb1, hb2⟩
    · rw [h, if_pos (by omega), if_pos (by omega)]
      exact ih (way + 1) f s (by omega) (by omega) F (fun w hw y hy h1 h2 => by
        by_cases q : w = way
        · subst q
          rw [h] at h1
          omega
        · exact H w (by omega) y hy h1 h2)
    · rw [hb, if_pos (by omega), if_neg (by omega), if_pos (by omega), if_pos (by omega)]
      simp only [Int.toNat_natCast]
      have g1 := f1 b hb1
      have g2 := f1 st hst
      have gb := hg b hb1
      have gs := hg st hst
      rw [if_pos (by omega)]
      by_cases q : g b = g st
      · have ca : adj g x b := by
          refine ⟨hx, hb1, by rw [Con_g hcx]; exact q.symm, fun h0 => ?_, hb2⟩
          have : ways = 4 := hw2 (by rw [← Con_g hcx]; exact h0)
          rcases nbI_4 hx (show way < 4 by omega) with h | ⟨b', h1, h2, h3⟩
          · omega
          · rw [hb] at h1
            have : b = b' := by omega
            rw [this]
            exact h3
        have cb := Con_step hcx ca
        rw [if_neg (by omega), e_lineUp hb1 (f2 b hb1) ⟨f3, fun h0 => by have := T.2 b hb1 h0; omega, by omega⟩, Option.bind_some]
        by_cases h0 : s 2 b = 0
        · rw [if_pos h0]
          have mono : ∀ a, a < 100 → s 2 a = 1 → psh s 3 3 b 2 a = 1 := by
            intro a _ ha
            rw [psh_2 s (Or.inl rfl)]
            split
            · rfl
            · exact ha
          obtain ⟨z, s', c1, c2, c3, c4⟩ := ih (way + 1) f (psh s 3 3 b) (by omega) (by omega) (Fl_psh F hb1 h0 cb) (fun w hw y hy h1 h2 => by
            by_cases q : w = way
            · subst q
              rw [hb] at h1
              have : y = b := by omega
              rw [this, psh_2 s (Or.inl rfl), if_pos rfl]
            · exact mono y hy (H w (by omega) y hy h1 h2))
          exact ⟨z, s', c1, c2, c3, fun a ha h => c4 a ha (mono a ha h)⟩
        · rw [if_neg h0]
          exact ih (way + 1) f s (by omega) (by omega) F (fun w hw y hy h1 h2 => by
            by_cases q : w = way
            · subst q
              rw [hb] at h1
              have : y = b := by omega
              rw [this]
              have := f2 b hb1
              omega
            · exact H w (by omega) y hy h1 h2)
      · rw [if_pos (by omega)]
        exact ih (way + 1) f s (by omega) (by omega) F (fun w hw y hy h1 h2 => by
          by_cases r : w = way
          · subst r
            rw [hb] at h1
            have : y = b := by omega
            rw [this] at h2
            exact absurd h2 q
          · exact H w (by omega) y hy h1 h2)
theorem e_rh15 {g : Nat → Int} (hg : ∀ a, a < 100 → g a = 0 ∨ g a = 1) {S0 : Nat → Prop} {st ways : Nat} (hst : st < 100) (hw : ways = 8 ∨ (ways = 4 ∧ g st = 0)) (hw2 : g st = 0 → ways = 4) : ∀ (m step f : Nat) (held : Int) (s : zZ), step + m = 100 → m + 1 ≤ f → (held = 0 ∨ held = 1) → (held = 1 → ∃ x, Con g st x ∧ hld g x) → Fl g S0 (Con g st) held (fun _ => False) step s → ∃ H z s', d_X8_reachesHold_15 st ways f held step s = some (H, z, s') ∧ (H = 0 ∨ H = 1) ∧ (H = 1 → ∃ x, Con g st x ∧ hld g x) ∧ (∃ k, Fl g S0 (Con g st) H (fun _ => False) k s') ∧ s' 0 3 = 0 ∧ (∀ a, a < 100 → s 2 a = 1 → s' 2 a = 1) := by
  intro m
  induction m with
  | zero =>
    intro step f held s hs hf hh hh1 F
    obtain ⟨f, rfl⟩ : ∃ h, f = h + 1 := ⟨f - 1, by omega⟩
    unfold d_X8_reachesHold_15
    have T := Fl_tot F
    have f3 := F.2.2.1
    rw [if_pos (by omega), if_pos (by omega)]
    exact ⟨_, _, _, rfl, hh, hh1, ⟨_, F⟩, by omega, fun _ _ h => h⟩
  | succ m ih =>
    intro step f held s hs hf hh hh1 F
    obtain ⟨f, rfl⟩ : ∃ h, f = h + 1 := ⟨f - 1, by omega⟩
    unfold d_X8_reachesHold_15
    have T := Fl_tot F
    have F' := F
    obtain ⟨f1, f2, f3, f4, f5, f6, f7, f8⟩ := F'
    rw [if_pos (by omega), if_neg (by omega), if_pos (by omega)]
    by_cases w0 : s 0 3 ≤ 0
    · rw [if_pos w0]
      exact ⟨_, _, _, rfl, hh, hh1, ⟨_, F⟩, by omega, fun _ _ h => h⟩
    · rw [if_neg w0]
      have u3 : upz s 0 3 (s 0 3 - 1) 0 3 = s 0 3 - 1 := upz_hit _ _ _ _
      obtain ⟨x, x1, x2, x3, x4⟩ := f5 (s 0 3 - 1).toNat (by omega)
      have u5 : upz s 0 3 (s 0 3 - 1) 3 (s 0 3 - 1).toNat = x := by rw [upz_ne _ _ _ _ (by decide)]; exact x1
      simp only [u3, u5]
      rw [if_pos (by omega)]
      have un : ∀ q, q ≠ 0 → upz s 0 3 (s 0 3 - 1) q = s q := fun q hq => upz_ne _ _ _ _ hq
      have e3 : ((step : Int) + 1) = ((step + 1 : Nat) : Int) := by omega
      have go : ∀ hd : Int, (hd = 0 ∨ hd = 1) → (held = 1 → hd = 1) → (hld g x → hd = 1) → (hd = 1 → ∃ x, Con g st x ∧ hld g x) → ∃ H z s', ((d_X8_reachesHold_72 st ways hd step x zF 0 (upz s 0 3 (s 0 3 - 1))).bind fun y18 => d_X8_reachesHold_15 st ways f hd ((step : Int) + 1) y18.2) = some (H, z, s') ∧ (H = 0 ∨ H = 1) ∧ (H = 1 → ∃ x, Con g st x ∧ hld g x) ∧ (∃ k, Fl g S0 (Con g st) H (fun _ => False) k s') ∧ s' 0 3 = 0 ∧ (∀ a, a < 100 → s 2 a = 1 → s' 2 a = 1) := by
        intro hd h1 h2 h3 h4
        have F1 : Fl g S0 (Con g st) hd (fun z => z = x) ((step : Int) + 1) (upz s 0 3 (s 0 3 - 1)) := by
          refine ⟨by rw [un 1 (by decide)]; exact f1, by rw [un 2 (by decide)]; exact f2, by rw [u3]; omega, by rw [u3, un 2 (by decide)]; omega, fun i hi => ?_, by rw [un 2 (by decide)]; exact f6, by rw [un 2 (by decide)]; exact f7, fun z z1 z2 z3 z4 => ?_⟩
          · rw [u3] at hi
            rw [un 3 (by decide), un 2 (by decide)]
            exact f5 i (by omega)
          · rw [un 2 (by decide)] at z2 ⊢
            rw [u3, un 3 (by decide)]
            rcases f8 z z1 z2 z3 (fun h => h) with ⟨i, i1, i2⟩ | ⟨i1, i2⟩
            · by_cases q : i = (s 0 3 - 1).toNat
              · rw [q, x1] at i2
                exact absurd (by omega) z4
              · exact Or.inl ⟨i, by omega, i2⟩
            · exact Or.inr ⟨i1, fun h => h2 (i2 h)⟩
        obtain ⟨z, s1, c1, c2, c3, c4⟩ := e_rh72 hg (hd := hd) (step := step) hst x2 x4 hw hw2 (k := (step : Int) + 1) (by omega) ways 0 zF (upz s 0 3 (s 0 3 - 1)) (by omega) (by unfold zF; omega) F1 (fun w hw => by omega)
        rw [show ((0 : Nat) : Int) = 0 from rfl] at c1
        rw [c1, Option.bind_some, e3]
        have xs : s1 2 x = 1 := c4 x x2 (by rw [un 2 (by decide)]; exact x3)
        have F2 : Fl g S0 (Con g st) hd (fun _ => False) ((step + 1 : Nat) : Int) s1 := by
          obtain ⟨d1, d2, d3, d4, d5, d6, d7, d8⟩ := c2
          refine ⟨d1, d2, d3, by omega, d5, d6, d7, fun z z1 z2 z3 _ => ?_⟩
          by_cases q : z = x
          · subst q
            refine Or.inr ⟨fun y hy => ?_, h3⟩
            have gy : g y = g st := by rw [← hy.2.2.1]; exact Con_g x4
            by_cases k0 : g st = 0
            · rcases nr4_way z1 hy.2.1 (hy.2.2.2.1 (by rw [Con_g x4]; exact k0)) with e | ⟨w, w1, w2⟩
              · rw [← e]; exact z2
              · exact c3 w (by have := hw2 k0; omega) y hy.2.1 w2 gy
            · rcases nr8_way z1 hy.2.1 hy.2.2.2.2 with e | ⟨w, w1, w2⟩
              · rw [← e]; exact z2
              · exact c3 w (by rcases hw with h | h <;> omega) y hy.2.1 w2 gy
          · exact d8 z z1 z2 z3 q
        obtain ⟨H, z', s2, e1, e2, e4, e5, e6, e7⟩ := ih (step + 1) f hd s1 (by omega) (by omega) h1 h4 F2
        exact ⟨H, z', s2, e1, e2, e4, e5, e6, fun a ha h => e7 a ha (c4 a ha (by rw [un 2 (by decide)]; exact h))⟩
      rw [if_pos (by omega)]
      by_cases h1 : held = 1
      · rw [if_pos (by omega)]
        exact go 1 (Or.inr rfl) (fun _ => rfl) (fun _ => rfl) (fun _ => hh1 h1)
      · have h0 : held = 0 := by omega
        rw [if_neg (by omega)]
        obtain ⟨v, v1, v2, v3⟩ := e_isHold (s := upz s 0 3 (s 0 3 - 1)) (a := x) x2 (by rw [un 1 (by decide), f1 x x2]; exact hg x x2)
        rw [v1, Option.bind_some, if_pos (by omega)]
        have hx : hld (upz s 0 3 (s 0 3 - 1) 1) x ↔ hld g x := by
          unfold hld
          rw [un 1 (by decide), f1 x x2]
        rw [hx] at v3
        by_cases v0 : v = 0
        · rw [if_pos v0]
          exact go 0 (Or.inl rfl) (fun h => by omega) (fun h => by have := v3.mpr h; omega) (fun h => by omega)
        · rw [if_neg v0]
          exact go 1 (Or.inr rfl) (fun _ => rfl) (fun _ => rfl) (fun _ => ⟨x, x4, v3.mp (by omega)⟩)
theorem e_rh {g : Nat → Int} (hg : ∀ a, a < 100 → g a = 0 ∨ g a = 1) {S0 : Nat → Prop} {st ways : Nat} (hst : st < 100) (hw : ways = 8 ∨ (ways = 4 ∧ g st = 0)) (hw2 : g st = 0 → ways = 4) {s : zZ} (h1 : ∀ a, a < 100 → s 1 a = g a) (h2 : ∀ a, a < 100 → s 2 a = 0 ∨ s 2 a = 1) (h3 : ∀ a, a < 100 → (s 2 a = 1 ↔ S0 a)) (hcl : ∀ x y, S0 x → adj g x y → S0 y) (hn : ¬ S0 st) : ∃ H s', d_X8_reachesHold s st ways = some (H, s') ∧ (H = 0 ∨ H = 1) ∧ (H = 1 ↔ ∃ x, Con g st x ∧ hld g x) ∧ (∀ a, a < 100 → s' 1 a = g a) ∧ (∀ a, a < 100 → s' 2 a = 0 ∨ s' 2 a = 1) ∧ (∀ a, a < 100 → (s' 2 a = 1 ↔ (S0 a ∨ Con g st a))) := by
  unfold d_X8_reachesHold
  have un : ∀ q, q ≠ 0 → upz s 0 3 0 q = s q := fun q hq => upz_ne _ _ _ _ hq
  have s0 : s 2 st = 0 := by
    have := h2 st hst
    have := h3 st hst
    by_cases q : s 2 st = 1
    · exact absurd ((h3 st hst).mp q) hn
    · omega
  rw [e_lineUp hst (by rw [un 2 (by decide)]; exact h2 st hst) (by rw [upz_hit]; omega), un 2 (by decide), if_pos s0, Option.bind_some]
  have F0 : Fl g S0 (Con g st) 0 (fun _ => False) 0 (upz s 0 3 0) := by
    refine ⟨by rw [un 1 (by decide)]; exact h1, by rw [un 2 (by decide)]; exact h2, by rw [upz_hit]; omega, ?_, fun i hi => by rw [upz_hit] at hi; omega, fun x hx h => ?_, fun x hx h => ?_, fun x hx a b _ => ?_⟩
    · rw [upz_hit, un 2 (by decide)]
      have := tot_nn (v := s 2) 100 (fun a ha => by have := h2 a ha; omega)
      omega
    · rw [un 2 (by decide)] at h
      exact Or.inl ((h3 x hx).mp h)
    · rw [un 2 (by decide)]
      exact (h3 x hx).mpr h
    · rw [un 2 (by decide)] at a
      exact absurd ((h3 x hx).mp a) b
  have F1 := Fl_psh F0 hst (by rw [un 2 (by decide)]; exact s0) (Con_refl g st)
  obtain ⟨H, z, s', c1, c2, c3, ⟨k, c4⟩, c5, c6⟩ := e_rh15 hg (S0 := S0) hst hw hw2 100 0 zF 0 (psh (upz s 0 3 0) 3 3 st) (by omega) (by unfold zF; omega) (Or.inl rfl) (fun h => by omega) F1
  rw [show ((0 : Nat) : Int) = 0 from rfl] at c1
  rw [c1, Option.bind_some]
  dsimp only
  rw [if_pos c2]
  obtain ⟨d1, d2, d3, d4, d5, d6, d7, d8⟩ := c4
  have d8' : ∀ x, x < 100 → s' 2 x = 1 → ¬ S0 x → (∀ y, adj g x y → s' 2 y = 1) ∧ (hld g x → H = 1) := by
    intro x hx a b
    rcases d8 x hx a b (fun h => h) with ⟨i, i1, i2⟩ | h
    · rw [c5] at i1; omega
    · exact h
  have all : ∀ a, Con g st a → a < 100 ∧ s' 2 a = 1 := by
    intro a ha
    refine ha (fun x => x < 100 ∧ s' 2 x = 1) ⟨hst, c6 st hst (by rw [psh_2 _ (Or.inl rfl), if_pos rfl])⟩ (fun x y hx hy => ⟨hy.2.1, ?_⟩)
    by_cases q : S0 x
    · exact d7 y hy.2.1 (hcl x y q hy)
    · exact (d8' x hx.1 hx.2 q).1 y hy
  refine ⟨H, s', rfl, c2, ⟨c3, fun ⟨x, x1, x2⟩ => ?_⟩, d1, d2, fun a ha => ⟨d6 a ha, fun h => ?_⟩⟩
  · have hx := all x x1
    refine (d8' x hx.1 hx.2 (fun q => ?_)).2 x2
    have := (Con_symm x1) S0 q hcl
    exact hn this
  · rcases h with h | h
    · exact d7 a ha h
    · exact (all a h).2
