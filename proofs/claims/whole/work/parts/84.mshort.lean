/-! the skin: shortest cut in the reference -/
def co (g : Nat → Int) (a : Nat) : Int := if g a = 0 then 1 else 0
def Wk (g : Nat → Int) (a : Nat) (d : Int) : Prop := ∀ S : Nat → Int → Prop, (∀ x, x < 100 → x % 10 = 0 → S x (co g x)) → (∀ x b e, x < 100 → b < 100 → nr8 x b → S b e → S x (e + co g x)) → S a d
theorem co_rng (g : Nat → Int) (a : Nat) : (co g a = 0 ∧ g a ≠ 0) ∨ (co g a = 1 ∧ g a = 0) := by
  unfold co
  split
  · next h => exact Or.inr ⟨rfl, h⟩
  · next h => exact Or.inl ⟨rfl, h⟩
theorem Wk_0 {g : Nat → Int} {x : Nat} (hx : x < 100) (h : x % 10 = 0) : Wk g x (co g x) := fun _ a _ => a x hx h
theorem Wk_s {g : Nat → Int} {x b : Nat} {e : Int} (hx : x < 100) (hb : b < 100) (h : nr8 x b) (k : Wk g b e) : Wk g x (e + co g x) := fun S a c => c x b e hx hb h (k S a c)
theorem tot_mono {v w : Nat → Int} : ∀ n : Nat, (∀ x, x < n → w x ≤ v x) → tot w n ≤ tot v n ∧ ((∃ x, x < n ∧ w x < v x) → tot w n < tot v n) := by
  intro n
  induction n with
  | zero => exact fun _ => ⟨Int.le_refl _, fun ⟨x, hx, _⟩ => by omega⟩
  | succ n ih =>
    intro h
    obtain ⟨a, b⟩ := ih (fun x hx => h x (by omega))
    have c := h n (by omega)
    have e1 : tot w (n + 1) = tot w n + w n := rfl
    have e2 : tot v (n + 1) = tot v n + v n := rfl
    refine ⟨by omega, fun ⟨x, hx, hl⟩ => ?_⟩
    by_cases q : x = n
    · subst q; omega
    · have := b ⟨x, by omega, hl⟩
      omega
def DI (g : Nat → Int) (s : zZ) : Prop := (∀ x, x < 100 → s 27 x = g x) ∧ (∀ x, x < 100 → 0 ≤ s 28 x ∧ s 28 x ≤ 1000000) ∧ (∀ x, x < 100 → s 28 x < 1000000 → Wk g x (s 28 x)) ∧ (∀ x, x < 100 → x % 10 = 0 → s 28 x ≤ co g x)
theorem e_sh2 {g : Nat → Int} (hg : ∀ a, a < 100 → g a = 0 ∨ g a = 1) : ∀ (m k f : Nat) (s : zZ), k + m = 100 → m + 1 ≤ f → (∀ x, x < 100 → s 27 x = g x) → (∀ x, x < k → s 28 x = if x % 10 = 0 then co g x else 1000000) → ∃ z s', d_X12_shortest_2 f k s = some (z, s') ∧ (∀ q, q ≠ 28 → s' q = s q) ∧ ∀ x, x < 100 → s' 28 x = if x % 10 = 0 then co g x else 1000000 := by
  intro m
  induction m with
  | zero =>
    intro k f s hk hf h27 h
    obtain ⟨f, rfl⟩ : ∃ h, f = h + 1 := ⟨f - 1, by omega⟩
    unfold d_X12_shortest_2
    rw [if_pos (by omega), if_pos (by omega)]
    exact ⟨_, _, rfl, fun _ _ => rfl, fun x hx => h x (by omega)⟩
  | succ m ih =>
    intro k f s hk hf h27 h
    obtain ⟨f, rfl⟩ : ∃ h, f = h + 1 := ⟨f - 1, by omega⟩
    unfold d_X12_shortest_2
    have e3 : ((k : Int) + 1) = ((k + 1 : Nat) : Int) := by omega
    have gk := hg k (by omega)
    simp only [e3, Int.toNat_natCast, h27 k (by omega)]
    have fin : ∀ v, (v = if k % 10 = 0 then co g k else 1000000) → ∃ z s', d_X12_shortest_2 f (k + 1 : Nat) (upz s 28 k v) = some (z, s') ∧ (∀ q, q ≠ 28 → s' q = s q) ∧ ∀ x, x < 100 → s' 28 x = if x % 10 = 0 then co g x else 1000000 := by
      intro v hv
      obtain ⟨z, s', a1, a2, a3⟩ := ih (k + 1) f (upz s 28 k v) (by omega) (by omega) (by rw [upz_ne _ _ _ _ (by decide)]; exact h27) (fun x hx => by
        rw [upz_at, if_pos rfl]
        by_cases q : x = k
        · rw [if_pos q, hv, q]
        · rw [if_neg q]
          exact h x (by omega))
      exact ⟨z, s', a1, fun q hq => by rw [a2 q hq, upz_ne _ _ _ _ hq], a3⟩
    rw [if_pos (by omega), if_neg (by omega), if_pos (by omega), if_pos (by omega)]
    by_cases q : k % 10 = 0
    · rw [if_neg (by omega), if_pos (by omega), if_pos (by omega)]
      by_cases q2 : g k = 0
      · rw [if_pos q2, if_pos (by omega)]
        exact fin 1 (by rw [if_pos q]; unfold co; rw [if_pos q2])
      · rw [if_neg q2, if_pos (by omega)]
        exact fin 0 (by rw [if_pos q]; unfold co; rw [if_neg q2])
    · rw [if_pos (by omega), if_pos (by omega)]
      exact fin 1000000 (by rw [if_neg q])
theorem e_sh64 {g : Nat → Int} (hg : ∀ a, a < 100 → g a = 0 ∨ g a = 1) {a : Nat} (ha : a < 100) : ∀ (m d f : Nat) (more : Int) (s : zZ), d + m = 9 → m + 1 ≤ f → (more = 0 ∨ more = 1) → DI g s → (∀ e b, e < d → at9 a e b → s 28 a ≤ s 28 b + co g a) → ∃ r z s', d_X12_shortest_64 a f more d s = some (r, z, s') ∧ DI g s' ∧ (∀ q, q ≠ 28 → s' q = s q) ∧ (∀ x, x ≠ a → s' 28 x = s 28 x) ∧ s' 28 a ≤ s 28 a ∧ (∀ b, b < 100 → nr8 a b → s' 28 a ≤ s' 28 b + co g a) ∧ (r = 0 ∨ r = 1) ∧ (r = 0 → more = 0 ∧ s' 28 a = s 28 a) ∧ (r = 1 → more = 1 ∨ s' 28 a < s 28 a) := by
  have ca := co_rng g a
  intro m
  induction m with
  | zero =>
    intro d f more s hd hf hm I H
    obtain ⟨f, rfl⟩ : ∃ h, f = h + 1 := ⟨f - 1, by omega⟩
    unfold d_X12_shortest_64
    rw [if_pos (by omega), if_pos (by omega)]
    refine ⟨_, _, _, rfl, I, fun _ _ => rfl, fun _ _ => rfl, Int.le_refl _, fun b hb hn => ?_, hm, fun h => ⟨h, rfl⟩, fun h => Or.inl h⟩
    obtain ⟨e, e1, e2⟩ := at9_all hb hn
    exact H e b (by omega) e2
  | succ m ih =>
    intro d f more s hd hf hm I H
    obtain ⟨f, rfl⟩ : ∃ h, f = h + 1 := ⟨f - 1, by omega⟩
    unfold d_X12_shortest_64
    have I' := I
    obtain ⟨i1, i2, i3, i4⟩ := I'
    have e3 : ((d : Int) + 1) = ((d + 1 : Nat) : Int) := by omega
    have va := i2 a ha
    have ga := hg a ha
    have g1 := i1 a ha
    rw [if_pos (by omega), if_neg (by omega), if_pos (by omega), if_pos (by omega), if_pos (by omega), if_pos (by omega), if_pos (by omega), e_X12_within (by omega), Option.bind_some, if_pos (by omega), e3]
    by_cases q1 : 0 ≤ (a : Int) / 10 + (d : Int) / 3 - 1 ∧ (a : Int) / 10 + (d : Int) / 3 - 1 ≤ 9
    · rw [if_neg (by omega), if_pos (by omega), e_X12_within (by omega), Option.bind_some, if_pos (by omega)]
      by_cases q2 : 0 ≤ (a : Int) % 10 + (d : Int) % 3 - 1 ∧ (a : Int) % 10 + (d : Int) % 3 - 1 ≤ 9
      · rw [if_pos (by omega)]
        obtain ⟨b, hb⟩ : ∃ b : Nat, 10 * ((a : Int) / 10 + (d : Int) / 3 - 1) + ((a : Int) % 10 + (d : Int) % 3 - 1) = b := ⟨(10 * ((a : Int) / 10 + (d : Int) / 3 - 1) + ((a : Int) % 10 + (d : Int) % 3 - 1)).toNat, by omega⟩
        have hb1 : b < 100 := by omega
        have hat : ∀ c, at9 a d c → c = b := by
          intro c hc
          unfold at9 at hc
          omega
        have nab : nr8 a b := by
          unfold nr8
          omega
        have vb := i2 b hb1
        simp only [hb, Int.toNat_natCast, g1]
        rw [if_pos (by omega), if_pos (by omega), if_pos (by omega)]
        have keep : ∀ v : Int, v = co g a → s 28 a ≤ s 28 b + v → ∃ r z s', d_X12_shortest_64 a f more (d + 1 : Nat) s = some (r, z, s') ∧ DI g s' ∧ (∀ q, q ≠ 28 → s' q = s q) ∧ (∀ x, x ≠ a → s' 28 x = s 28 x) ∧ s' 28 a ≤ s 28 a ∧ (∀ b, b < 100 → nr8 a b → s' 28 a ≤ s' 28 b + co g a) ∧ (r = 0 ∨ r = 1) ∧ (r = 0 → more = 0 ∧ s' 28 a = s 28 a) ∧ (r = 1 → more = 1 ∨ s' 28 a < s 28 a) := by
          intro v hv hle
          subst hv
          refine ih (d + 1) f more s (by omega) (by omega) hm I (fun e c he hc => ?_)
          by_cases q : e = d
          · rw [q] at hc
            rw [hat c hc]
            exact hle
          · exact H e c (by omega) hc
        have take : ∀ v : Int, v = co g a → s 28 b + v < s 28 a → ∃ r z s', d_X12_shortest_64 a f 1 (d + 1 : Nat) (upz s 28 a (s 28 b + v)) = some (r, z, s') ∧ DI g s' ∧ (∀ q, q ≠ 28 → s' q = s q) ∧ (∀ x, x ≠ a → s' 28 x = s 28 x) ∧ s' 28 a ≤ s 28 a ∧ (∀ b, b < 100 → nr8 a b → s' 28 a ≤ s' 28 b + co g a) ∧ (r = 0 ∨ r = 1) ∧ (r = 0 → more = 0 ∧ s' 28 a = s 28 a) ∧ (r = 1 → more = 1 ∨ s' 28 a < s 28 a) := by
          intro v hv hlt
          subst hv
          have u : ∀ x, upz s 28 a (s 28 b + co g a) 28 x = if x = a then s 28 b + co g a else s 28 x := fun x => by rw [upz_at, if_pos rfl]
          have nb : b ≠ a := by
            intro e
            rw [e] at hlt
            omega
          have J : DI g (upz s 28 a (s 28 b + co g a)) := by
            refine ⟨by rw [upz_ne _ _ _ _ (by decide)]; exact i1, fun x hx => ?_, fun x hx hv => ?_, fun x hx h0 => ?_⟩
            · rw [u]
              split
              · omega
              · exact i2 x hx
            · rw [u] at hv ⊢
              by_cases q : x = a
              · rw [if_pos q, q]
                exact Wk_s ha hb1 nab (i3 b hb1 (by omega))
              · rw [if_neg q] at hv ⊢
                exact i3 x hx hv
            · rw [u]
              have := i4 x hx h0
              split
              · next e => rw [e] at this ⊢; omega
              · exact this
          obtain ⟨r, z, s', c1, c2, c3, c4, c5, c6, c7, c8, c9⟩ := ih (d + 1) f 1 (upz s 28 a (s 28 b + co g a)) (by omega) (by omega) (Or.inr rfl) J (fun e c he hc => by
            rw [u, u, if_pos rfl]
            by_cases q : c = a
            · rw [if_pos q]; omega
            · rw [if_neg q]
              by_cases q' : e = d
              · rw [q'] at hc
                rw [hat c hc]
                exact Int.le_refl _
              · have := H e c (by omega) hc
                omega)
          rw [u, if_pos rfl] at c5
          refine ⟨r, z, s', c1, c2, fun q hq => by rw [c3 q hq, upz_ne _ _ _ _ hq], fun x hx => by rw [c4 x hx, u, if_neg hx], by omega, c6, c7, fun h => by have := (c8 h).1; omega, fun _ => Or.inr (by omega)⟩
        by_cases q3 : g a = 0
        · have c1 : co g a = 1 := by omega
          rw [if_pos q3, if_pos (by omega), if_pos (by omega)]
          by_cases q4 : s 28 a ≤ s 28 b + 1
          · rw [if_pos q4]
            exact keep _ c1.symm q4
          · rw [if_neg q4, if_pos (by omega)]
            exact take _ c1.symm (by omega)
        · have c1 : co g a = 0 := by omega
          rw [if_neg q3, if_pos (by omega), if_pos (by omega)]
          by_cases q4 : s 28 a ≤ s 28 b + 0
          · rw [if_pos q4]
            exact keep _ c1.symm q4
          · rw [if_neg q4, if_pos (by omega)]
            exact take _ c1.symm (by omega)
      · rw [if_neg (by omega)]
        refine ih (d + 1) f more s (by omega) (by omega) hm I (fun e c he hc => ?_)
        by_cases q : e = d
        · rw [q] at hc
          unfold at9 at hc
          omega
        · exact H e c (by omega) hc
    · rw [if_pos (by omega)]
      refine ih (d + 1) f more s (by omega) (by omega) hm I (fun e c he hc => ?_)
      by_cases q : e = d
      · rw [q] at hc
        unfold at9 at hc
        omega
      · exact H e c (by omega) hc
theorem e_sh56 {g : Nat → Int} (hg : ∀ a, a < 100 → g a = 0 ∨ g a = 1) : ∀ (m a f : Nat) (more : Int) (s : zZ), a + m = 100 → m + 1 ≤ f → (more = 0 ∨ more = 1) → DI g s → ∃ r z s', d_X12_shortest_56 f more a s = some (r, z, s') ∧ DI g s' ∧ (∀ q, q ≠ 28 → s' q = s q) ∧ (∀ x, x < 100 → s' 28 x ≤ s 28 x) ∧ (r = 0 ∨ r = 1) ∧ (r = 0 → more = 0 ∧ (∀ x, x < 100 → s' 28 x = s 28 x) ∧ ∀ x b, a ≤ x → x < 100 → b < 100 → nr8 x b → s' 28 x ≤ s' 28 b + co g x) ∧ (r = 1 → more = 1 ∨ ∃ x, x < 100 ∧ s' 28 x < s 28 x) ∧ ((∀ x, x < a → s 28 x ≤ (x % 10 : Nat) + 1) → ∀ x, x < 100 → s' 28 x ≤ (x % 10 : Nat) + 1) := by
  intro m
  induction m with
  | zero =>
    intro a f more s ha hf hm I
    obtain ⟨f, rfl⟩ : ∃ h, f = h + 1 := ⟨f - 1, by omega⟩
    unfold d_X12_shortest_56
    rw [if_pos (by omega), if_pos (by omega)]
    exact ⟨_, _, _, rfl, I, fun _ _ => rfl, fun _ _ => Int.le_refl _, hm, fun h => ⟨h, fun _ _ => rfl, fun x b h1 h2 => by omega⟩, fun h => Or.inl h, fun h x hx => h x (by omega)⟩
  | succ m ih =>
    intro a f more s ha hf hm I
    obtain ⟨f, rfl⟩ : ∃ h, f = h + 1 := ⟨f - 1, by omega⟩
    unfold d_X12_shortest_56
    have e3 : ((a : Int) + 1) = ((a + 1 : Nat) : Int) := by omega
    obtain ⟨r1, z1, s1, c1, c2, c3, c4, c5, c6, c7, c8, c9⟩ := e_sh64 hg (a := a) (by omega) 9 0 zF more s (by omega) (by unfold zF; omega) hm I (fun e b he => by omega)
    rw [show ((0 : Nat) : Int) = 0 from rfl] at c1
    rw [if_pos (by omega), if_neg (by omega), c1, Option.bind_some]
    dsimp only
    rw [e3]
    have le1 : ∀ x, x < 100 → s1 28 x ≤ s 28 x := by
      intro x hx
      by_cases q : x = a
      · rw [q]; exact c5
      · rw [c4 x q]; exact Int.le_refl _
    obtain ⟨r, z, s', d1, d2, d3, d4, d5, d6, d7, d8⟩ := ih (a + 1) f r1 s1 (by omega) (by omega) c7 c2
    refine ⟨r, z, s', d1, d2, fun q hq => by rw [d3 q hq, c3 q hq], fun x hx => Int.le_trans (d4 x hx) (le1 x hx), d5, fun h => ?_, fun h => ?_, fun h => ?_⟩
    · obtain ⟨k1, k2, k3⟩ := d6 h
      obtain ⟨k4, k5⟩ := c8 k1
      refine ⟨k4, fun x hx => ?_, fun x b h1 h2 h3 h4 => ?_⟩
      · rw [k2 x hx]
        by_cases q : x = a
        · rw [q]; exact k5
        · exact c4 x q
      · by_cases q : x = a
        · rw [q] at h4 ⊢
          rw [k2 a (by omega), k2 b h3]
          exact c6 b h3 h4
        · exact k3 x b (by omega) h2 h3 h4
    · rcases d7 h with k | ⟨x, x1, x2⟩
      · rcases c9 k with k' | k'
        · exact Or.inl k'
        · exact Or.inr ⟨a, by omega, by have := d4 a (by omega); omega⟩
      · exact Or.inr ⟨x, x1, by have := le1 x x1; omega⟩
    · refine d8 (fun x hx => ?_)
      by_cases q : x = a
      · have ca := co_rng g a
        rw [q]
        by_cases q0 : a % 10 = 0
        · have := c2.2.2.2 a (by omega) q0
          omega
        · have := c6 (a - 1) (by omega) (by unfold nr8; omega)
          have k := h (a - 1) (by omega)
          rw [c4 (a - 1) (by omega)] at this
          omega
      · rw [c4 x q]
        exact h x (by omega)
theorem e_sh48 {g : Nat → Int} (hg : ∀ a, a < 100 → g a = 0 ∨ g a = 1) : ∀ (P f : Nat) (s : zZ), tot (s 28) 100 ≤ P → P + 3 ≤ f → DI g s → ∃ z s', d_X12_shortest_48 f 1 s = some (z, s') ∧ DI g s' ∧ (∀ q, q ≠ 28 → s' q = s q) ∧ (∀ x, x < 100 → s' 28 x ≤ s 28 x) ∧ ∀ x b, x < 100 → b < 100 → nr8 x b → s' 28 x ≤ s' 28 b + co g x := by
  intro P
  induction P with
  | zero =>
    intro f s ht hf I
    obtain ⟨f, rfl⟩ : ∃ h, f = h + 2 := ⟨f - 2, by omega⟩
    obtain ⟨r, z, s', d1, d2, d3, d4, d5, d6, d7, d8⟩ := e_sh56 hg 100 0 zF 0 s (by omega) (by unfold zF; omega) (Or.inl rfl) I
    rw [show ((0 : Nat) : Int) = 0 from rfl] at d1
    have r0 : r = 0 := by
      rcases d5 with h | h
      · exact h
      · rcases d7 h with k | k
        · omega
        · have := (tot_mono (v := s 28) (w := s' 28) 100 d4).2 k
          have := tot_nn (v := s' 28) 100 (fun a ha => (d2.2.1 a ha).1)
          omega
    subst r0
    obtain ⟨k1, k2, k3⟩ := d6 rfl
    unfold d_X12_shortest_48
    rw [if_pos (by omega), if_neg (by omega), d1, Option.bind_some]
    dsimp only
    unfold d_X12_shortest_48
    rw [if_pos (by omega), if_pos rfl]
    exact ⟨_, _, rfl, d2, d3, d4, fun x b h1 h2 h3 => k3 x b (by omega) h1 h2 h3⟩
  | succ P ih =>
    intro f s ht hf I
    obtain ⟨f, rfl⟩ : ∃ h, f = h + 2 := ⟨f - 2, by omega⟩
    obtain ⟨r, z, s', d1, d2, d3, d4, d5, d6, d7, d8⟩ := e_sh56 hg 100 0 zF 0 s (by omega) (by unfold zF; omega) (Or.inl rfl) I
    rw [show ((0 : Nat) : Int) = 0 from rfl] at d1
    unfold d_X12_shortest_48
    rw [if_pos (by omega), if_neg (by omega), d1, Option.bind_some]
    dsimp only
    rcases d5 with r0 | r1
    · subst r0
      obtain ⟨k1, k2, k3⟩ := d6 rfl
      unfold d_X12_shortest_48
      rw [if_pos (by omega), if_pos rfl]
      exact ⟨_, _, rfl, d2, d3, d4, fun x b h1 h2 h3 => k3 x b (by omega) h1 h2 h3⟩
    · subst r1
      rcases d7 rfl with k | k
      · omega
      · have := (tot_mono (v := s 28) (w := s' 28) 100 d4).2 k
        obtain ⟨z', s2, e1, e2, e4, e5, e6⟩ := ih (f + 1) s' (by omega) (by omega) d2
        exact ⟨z', s2, e1, e2, fun q hq => by rw [e4 q hq, d3 q hq], fun x hx => Int.le_trans (e5 x hx) (d4 x hx), e6⟩
theorem e_sh194 {s : zZ} {more : Int} (hv : ∀ x, x < 100 → 0 ≤ s 28 x ∧ s 28 x ≤ 10) : ∀ (m d f : Nat) (a : Int), d + m = 10 → m + 1 ≤ f → 0 ≤ a ∧ a ≤ 1000000 → (∀ e, e < d → a ≤ s 28 (10 * e + 9)) → (d ≠ 0 → ∃ e, e < 10 ∧ a = s 28 (10 * e + 9)) → (d = 0 → a = 1000000) → ∃ A z, d_X12_shortest_194 s more f a d = some (A, z) ∧ (∀ e, e < 10 → A ≤ s 28 (10 * e + 9)) ∧ ∃ e, e < 10 ∧ A = s 28 (10 * e + 9) := by
  intro m
  induction m with
  | zero =>
    intro d f a hd hf ha h1 h2 h3
    obtain ⟨f, rfl⟩ : ∃ h, f = h + 1 := ⟨f - 1, by omega⟩
    unfold d_X12_shortest_194
    rw [if_pos (by omega), if_pos (by omega)]
    exact ⟨_, _, rfl, fun e he => h1 e (by omega), h2 (by omega)⟩
  | succ m ih =>
    intro d f a hd hf ha h1 h2 h3
    obtain ⟨f, rfl⟩ : ∃ h, f = h + 1 := ⟨f - 1, by omega⟩
    unfold d_X12_shortest_194
    have e1 : (10 * (d : Int) + 10 - 1).toNat = 10 * d + 9 := by omega
    have e3 : ((d : Int) + 1) = ((d + 1 : Nat) : Int) := by omega
    have V := hv (10 * d + 9) (by omega)
    simp only [e1, e3]
    rw [if_pos (by omega), if_neg (by omega), if_pos (by omega), if_pos (by omega)]
    by_cases q : a ≤ s 28 (10 * d + 9)
    · rw [if_pos q]
      refine ih (d + 1) f a (by omega) (by omega) ha (fun e he => ?_) (fun _ => ?_) (fun h => by omega)
      · by_cases r : e = d
        · rw [r]; exact q
        · exact h1 e (by omega)
      · by_cases r : d = 0
        · have := h3 r
          omega
        · exact h2 r
    · rw [if_neg q, if_pos (by omega)]
      refine ih (d + 1) f _ (by omega) (by omega) (by omega) (fun e he => ?_) (fun _ => ⟨d, by omega, rfl⟩) (fun h => by omega)
      by_cases r : e = d
      · rw [r]; exact Int.le_refl _
      · have := h1 e (by omega)
        omega
/-- the ways' costs -/
def DP (g : Nat → Int) (D : Nat → Int) : Prop := (∀ x, x < 100 → 0 ≤ D x ∧ D x ≤ 10) ∧ (∀ x, x < 100 → x % 10 = 0 → D x ≤ co g x) ∧ (∀ x b, x < 100 → b < 100 → nr8 x b → D x ≤ D b + co g x) ∧ (∀ x, x < 100 → Wk g x (D x))
theorem e_shortest {g : Nat → Int} (hg : ∀ a, a < 100 → g a = 0 ∨ g a = 1) {s : zZ} (h27 : ∀ x, x < 100 → s 27 x = g x) : ∃ (A : Int) (D : Nat → Int) (s' : zZ), d_X12_shortest s = some (A, s') ∧ Fr [28] [] s s' ∧ DP g D ∧ (∀ e, e < 10 → A ≤ D (10 * e + 9)) ∧ ∃ e, e < 10 ∧ A = D (10 * e + 9) := by
  obtain ⟨z1, s1, a1, a2, a3⟩ := e_sh2 hg 100 0 zF s (by omega) (by unfold zF; omega) h27 (fun x hx => by omega)
  have I1 : DI g s1 := by
    refine ⟨by rw [a2 27 (by decide)]; exact h27, fun x hx => ?_, fun x hx h => ?_, fun x hx h => ?_⟩
    · have := co_rng g x
      rw [a3 x hx]
      split <;> omega
    · rw [a3 x hx] at h ⊢
      by_cases q : x % 10 = 0
      · rw [if_pos q]
        exact Wk_0 hx q
      · rw [if_neg q] at h
        omega
    · rw [a3 x hx, if_pos h]
      exact Int.le_refl _
  obtain ⟨r, z, s2, d1, d2, d3, d4, d5, d6, d7, d8⟩ := e_sh56 hg 100 0 zF 0 s1 (by omega) (by unfold zF; omega) (Or.inl rfl) I1
  have B2 := d8 (fun x hx => by omega)
  rw [show ((0 : Nat) : Int) = 0 from rfl] at a1 d1
  have fin : ∃ z s', d_X12_shortest_48 (zF - 1) r s2 = some (z, s') ∧ DI g s' ∧ (∀ q, q ≠ 28 → s' q = s2 q) ∧ (∀ x, x < 100 → s' 28 x ≤ s2 28 x) ∧ ∀ x b, x < 100 → b < 100 → nr8 x b → s' 28 x ≤ s' 28 b + co g x := by
    rcases d5 with r0 | r1
    · subst r0
      obtain ⟨k1, k2, k3⟩ := d6 rfl
      obtain ⟨f, hf⟩ : ∃ f, zF - 1 = f + 1 := ⟨99998, rfl⟩
      rw [hf]
      unfold d_X12_shortest_48
      rw [if_pos (by omega), if_pos rfl]
      exact ⟨_, _, rfl, d2, fun _ _ => rfl, fun _ _ => Int.le_refl _, fun x b h1 h2 h3 => k3 x b (by omega) h1 h2 h3⟩
    · subst r1
      have := tot_le (v := s2 28) (c := 10) 100 (fun a ha => by have := B2 a ha; omega)
      exact e_sh48 hg 1000 (zF - 1) s2 (by omega) (by unfold zF; omega) d2
  obtain ⟨z3, s3, e1, e2, e4, e5, e6⟩ := fin
  have V3 : ∀ x, x < 100 → 0 ≤ s3 28 x ∧ s3 28 x ≤ 10 := by
    intro x hx
    have := B2 x hx
    have := e5 x hx
    have := (e2.2.1 x hx).1
    omega
  obtain ⟨A, z4, b1, b2, b3⟩ := e_sh194 (s := s3) (more := z3) V3 10 0 zF 1000000 (by omega) (by unfold zF; omega) (by omega) (fun e he => by omega) (fun h => absurd rfl h) (fun _ => rfl)
  rw [show ((0 : Nat) : Int) = 0 from rfl] at b1
  have all : d_X12_shortest_48 zF 1 s1 = some (z3, s3) := by
    obtain ⟨f, hf⟩ : ∃ f, zF = f + 1 := ⟨zF - 1, rfl⟩
    rw [hf] at e1 ⊢
    unfold d_X12_shortest_48
    rw [if_pos (by omega), if_neg (by omega), d1, Option.bind_some]
    exact e1
  unfold d_X12_shortest
  rw [a1, Option.bind_some]
  dsimp only
  rw [all, Option.bind_some]
  dsimp only
  rw [b1]
  refine ⟨A, s3 28, s3, rfl, ⟨fun q h0 hq => ?_, fun j _ => by rw [e4 0 (by decide), d3 0 (by decide), a2 0 (by decide)]⟩, ⟨V3, e2.2.2.2, e6, fun x hx => e2.2.2.1 x hx (by have := V3 x hx; omega)⟩, b2, b3⟩
  simp only [List.mem_cons, List.not_mem_nil, or_false] at hq
  rw [e4 q hq, d3 q hq, a2 q hq]
