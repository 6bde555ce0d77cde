/-! the skin: lots apart -/
def Qk (g : Nat → Int) (kd : Int) (k : Nat) : Prop := g k = kd ∧ (∀ j, j < k → ¬ Con g j k) ∧ ∀ x, Con g k x → ¬ hld g x
theorem e_lots13 {g : Nat → Int} (hg : ∀ a, a < 100 → g a = 0 ∨ g a = 1) {kd : Int} {ways : Nat} (hkd : (kd = 0 ∧ ways = 4) ∨ (kd = 1 ∧ ways = 8)) {h : Nat → Int} (hh : ∀ k, k < 100 → (h k = 1 ∧ Qk g kd k) ∨ (h k = 0 ∧ ¬ Qk g kd k)) : ∀ (m k f : Nat) (lots : Int) (s : zZ), k + m = 100 → m + 1 ≤ f → (∀ a, a < 100 → s 1 a = g a) → (∀ a, a < 100 → s 2 a = 0 ∨ s 2 a = 1) → (∀ a, a < 100 → (s 2 a = 1 ↔ ∃ j, j < k ∧ g j = kd ∧ Con g j a)) → ∃ z s', d_X8_lotsApart_13 kd ways f lots k s = some (lots + tot h 100 - tot h k, z, s') ∧ (∀ a, a < 100 → s' 1 a = g a) := by
  intro m
  induction m with
  | zero =>
    intro k f lots s hk hf h1 h2 h3
    obtain ⟨f, rfl⟩ : ∃ h, f = h + 1 := ⟨f - 1, by omega⟩
    unfold d_X8_lotsApart_13
    have : k = 100 := by omega
    subst this
    rw [if_pos (by omega), if_pos (by omega)]
    refine ⟨((100 : Nat) : Int), s, ?_, h1⟩
    rw [show lots + tot h 100 - tot h 100 = lots by omega]
  | succ m ih =>
    intro k f lots s hk hf h1 h2 h3
    obtain ⟨f, rfl⟩ : ∃ h, f = h + 1 := ⟨f - 1, by omega⟩
    unfold d_X8_lotsApart_13
    have e3 : ((k : Int) + 1) = ((k + 1 : Nat) : Int) := by omega
    have g1 := h1 k (by omega)
    have gk := hg k (by omega)
    have sk := h2 k (by omega)
    have tk : tot h (k + 1) = tot h k + h k := rfl
    simp only [Int.toNat_natCast, e3, g1]
    rw [if_pos (by omega), if_neg (by omega), if_pos (by omega), if_pos (by omega)]
    have nxt : (h k = 0) → (∀ a, a < 100 → (s 2 a = 1 ↔ ∃ j, j < k + 1 ∧ g j = kd ∧ Con g j a)) → ∃ z s', d_X8_lotsApart_13 kd ways f lots (k + 1 : Nat) s = some (lots + tot h 100 - tot h k, z, s') ∧ (∀ a, a < 100 → s' 1 a = g a) := by
      intro q r
      obtain ⟨z, s', a1, a2⟩ := ih (k + 1) f lots s (by omega) (by omega) h1 h2 r
      refine ⟨z, s', ?_, a2⟩
      rw [a1, tk, q, Int.add_zero]
    by_cases q : g k = kd
    · rw [if_neg (by omega), if_pos (by omega), if_pos (by omega)]
      by_cases q2 : s 2 k = 0
      · rw [if_neg (by omega)]
        have nS : ¬ ∃ j, j < k ∧ g j = kd ∧ Con g j k := fun e => by have := (h3 k (by omega)).mpr e; omega
        obtain ⟨H, s1, c1, c2, c3, c4, c5, c6⟩ := e_rh hg (S0 := fun a => ∃ j, j < k ∧ g j = kd ∧ Con g j a) (st := k) (ways := ways) (by omega) (by rcases hkd with x | x <;> omega) (fun x => by rcases hkd with y | y <;> omega) (s := s) h1 h2 h3 (fun x y ⟨j, j1, j2, j3⟩ hxy => ⟨j, j1, j2, Con_step j3 hxy⟩) nS
        have mono : ∀ a, a < 100 → (s1 2 a = 1 ↔ ∃ j, j < k + 1 ∧ g j = kd ∧ Con g j a) := by
          intro a ha
          rw [c6 a ha]
          constructor
          · intro e
            rcases e with ⟨j, j1, j2, j3⟩ | e
            · exact ⟨j, by omega, j2, j3⟩
            · exact ⟨k, by omega, q, e⟩
          · intro ⟨j, j1, j2, j3⟩
            by_cases e : j = k
            · rw [e] at j3
              exact Or.inr j3
            · exact Or.inl ⟨j, by omega, j2, j3⟩
        rw [c1, Option.bind_some]
        dsimp only
        rw [if_pos (by omega)]
        have min : ∀ j, j < k → ¬ Con g j k := fun j hj e => nS ⟨j, hj, by rw [← Con_g e]; exact q, e⟩
        by_cases H1 : H = 1
        · rw [if_pos (by omega)]
          have hk0 : h k = 0 := by
            rcases hh k (by omega) with x | x
            · obtain ⟨y, y1, y2⟩ := c3.mp H1
              exact absurd y2 (x.2.2.2 y y1)
            · exact x.1
          obtain ⟨z, s', a1, a2⟩ := ih (k + 1) f lots s1 (by omega) (by omega) c4 c5 mono
          refine ⟨z, s', ?_, a2⟩
          rw [a1, tk, hk0, Int.add_zero]
        · rw [if_neg (by omega)]
          have hk1 : h k = 1 := by
            rcases hh k (by omega) with x | x
            · exact x.1
            · exact absurd ⟨q, min, fun y y1 y2 => H1 (c3.mpr ⟨y, y1, y2⟩)⟩ x.2
          obtain ⟨z, s', a1, a2⟩ := ih (k + 1) f (lots + 1) s1 (by omega) (by omega) c4 c5 mono
          refine ⟨z, s', ?_, a2⟩
          rw [a1, tk, hk1]
          congr 2
          omega
      · rw [if_pos q2]
        obtain ⟨j0, j1, j2, j3⟩ := (h3 k (by omega)).mp (by omega)
        refine nxt ?_ (fun a ha => ?_)
        · rcases hh k (by omega) with x | x
          · exact absurd j3 (x.2.2.1 j0 j1)
          · exact x.1
        · rw [h3 a ha]
          constructor
          · exact fun ⟨j, k1, k2, k3⟩ => ⟨j, by omega, k2, k3⟩
          · intro ⟨j, k1, k2, k3⟩
            by_cases e : j = k
            · rw [e] at k3
              exact ⟨j0, j1, j2, Con_trans j3 k3⟩
            · exact ⟨j, by omega, k2, k3⟩
    · rw [if_pos q]
      refine nxt ?_ (fun a ha => ?_)
      · rcases hh k (by omega) with x | x
        · exact absurd x.2.1 q
        · exact x.1
      · rw [h3 a ha]
        constructor
        · exact fun ⟨j, k1, k2, k3⟩ => ⟨j, by omega, k2, k3⟩
        · intro ⟨j, k1, k2, k3⟩
          by_cases e : j = k
          · rw [e] at k2
            exact absurd k2 q
          · exact ⟨j, by omega, k2, k3⟩
theorem e_lots {g : Nat → Int} (hg : ∀ a, a < 100 → g a = 0 ∨ g a = 1) {kd : Int} {ways : Nat} (hkd : (kd = 0 ∧ ways = 4) ∨ (kd = 1 ∧ ways = 8)) {h : Nat → Int} (hh : ∀ k, k < 100 → (h k = 1 ∧ Qk g kd k) ∨ (h k = 0 ∧ ¬ Qk g kd k)) {s : zZ} (h1 : ∀ a, a < 100 → s 1 a = g a) : ∃ s', d_X8_lotsApart s kd ways = some (tot h 100, s') ∧ (∀ a, a < 100 → s' 1 a = g a) := by
  have z2 : ∀ a, a < 100 → zfl s 2 100 0 2 a = 0 := fun a ha => by rw [zfl_at, if_pos rfl, if_pos ha]
  obtain ⟨z, s', a1, a2⟩ := e_lots13 hg hkd hh 100 0 zF 0 (zfl s 2 100 0) (by omega) (by unfold zF; omega) (fun a ha => by rw [zfl_at, if_neg (by decide)]; exact h1 a ha) (fun a ha => Or.inl (z2 a ha)) (fun a ha => by
    rw [z2 a ha]
    constructor
    · intro e; omega
    · intro ⟨j, j1, _⟩; omega)
  unfold d_X8_lotsApart
  rw [show ((0 : Nat) : Int) = 0 from rfl] at a1
  rw [a1, Option.bind_some]
  refine ⟨s', ?_, a2⟩
  rw [show 0 + tot h 100 - tot h 0 = tot h 100 from by show 0 + tot h 100 - 0 = _; omega]
/-! the reference's lots -/
theorem e_areNear {s7 : zZ} {a b : Nat} (ha : a < 100) (hb : b < 100) {cor : Int} (hc : cor = 0 ∨ cor = 1) : ∃ v, d_X12_areNear s7 a b cor = some v ∧ (v = 0 ∨ v = 1) ∧ (v = 1 ↔ (nr8 a b ∧ (cor = 0 → nr4 a b))) := by
  unfold d_X12_areNear nr4 nr8
  rw [e_X12_within (by omega), e_X12_within (by omega)]
  by_cases q1 : -1 ≤ (a : Int) / 10 - (b : Int) / 10 ∧ (a : Int) / 10 - (b : Int) / 10 ≤ 1
  · by_cases q2 : -1 ≤ (a : Int) % 10 - (b : Int) % 10 ∧ (a : Int) % 10 - (b : Int) % 10 ≤ 1
    · rcases hc with rfl | rfl
      · by_cases q3 : (a : Int) / 10 - (b : Int) / 10 = 0
        · simp (disch := omega) only [↓if_pos, ↓if_neg, ↓Option.bind_some]
          exact ⟨1, rfl, Or.inr rfl, fun _ => by omega, fun _ => rfl⟩
        · by_cases q4 : (a : Int) % 10 - (b : Int) % 10 = 0
          · simp (disch := omega) only [↓if_pos, ↓if_neg, ↓Option.bind_some]
            exact ⟨1, rfl, Or.inr rfl, fun _ => by omega, fun _ => rfl⟩
          · simp (disch := omega) only [↓if_pos, ↓if_neg, ↓Option.bind_some]
            exact ⟨0, rfl, Or.inl rfl, fun h => by omega, fun h => by have := h.2 trivial; omega⟩
      · simp (disch := omega) only [↓if_pos, ↓if_neg, ↓Option.bind_some]
        exact ⟨1, rfl, Or.inr rfl, fun _ => by omega, fun _ => rfl⟩
    · simp (disch := omega) only [↓if_pos, ↓if_neg, ↓Option.bind_some]
      exact ⟨0, rfl, Or.inl rfl, fun h => by omega, fun h => by omega⟩
  · simp (disch := omega) only [↓if_pos, ↓if_neg, ↓Option.bind_some]
    exact ⟨0, rfl, Or.inl rfl, fun h => by omega, fun h => by omega⟩
/-- the place by the d-th way of three by three -/
def at9 (a d : Nat) (b : Nat) : Prop := b < 100 ∧ (b : Int) / 10 = (a : Int) / 10 + (d : Int) / 3 - 1 ∧ (b : Int) % 10 = (a : Int) % 10 + (d : Int) % 3 - 1
theorem at9_all {a b : Nat} (hb : b < 100) (h : nr8 a b) : ∃ d, d < 9 ∧ at9 a d b := by
  unfold nr8 at h
  refine ⟨3 * (b / 10 + 1 - a / 10) + (b % 10 + 1 - a % 10), by omega, hb, by omega, by omega⟩
theorem e_sp59 {g : Nat → Int} {fr a : Nat} (hf : fr < 100) (ha : a < 100) {lot : Int} (hl : 0 ≤ lot ∧ lot ≤ 100) (gf : g fr = 0 ∨ g fr = 1) {s : zZ} (hs : s 27 fr = g fr) (h28 : ∀ x, x < 100 → zr (s 28 x)) : ∀ (m d f : Nat) (more : Int), d + m = 9 → m + 1 ≤ f → (∀ e b, e < d → at9 a e b → s 28 b = lot → ¬ (nr8 a b ∧ (g fr = 0 → nr4 a b))) → (∃ z, d_X12_spread_59 fr lot a f more d s = some (1, z, upz s 28 a lot) ∧ ∃ b, b < 100 ∧ s 28 b = lot ∧ nr8 a b ∧ (g fr = 0 → nr4 a b)) ∨ (∃ z, d_X12_spread_59 fr lot a f more d s = some (more, z, s) ∧ ∀ b, b < 100 → s 28 b = lot → ¬ (nr8 a b ∧ (g fr = 0 → nr4 a b))) := by
  intro m
  induction m with
  | zero =>
    intro d f more hd hf H
    obtain ⟨f, rfl⟩ : ∃ h, f = h + 1 := ⟨f - 1, by omega⟩
    unfold d_X12_spread_59
    rw [if_pos (by omega), if_pos (by omega)]
    refine Or.inr ⟨_, rfl, fun b hb hl hn => ?_⟩
    obtain ⟨e, e1, e2⟩ := at9_all hb hn.1
    exact H e b (by omega) e2 hl hn
  | succ m ih =>
    intro d f more hd hf H
    obtain ⟨f, rfl⟩ : ∃ h, f = h + 1 := ⟨f - 1, by omega⟩
    unfold d_X12_spread_59
    have e3 : ((d : Int) + 1) = ((d + 1 : Nat) : Int) := by omega
    rw [if_pos (by omega), if_neg (by omega), if_pos (by omega), if_pos (by omega), if_pos (by omega), if_pos (by omega), if_pos (by omega), e_X12_within (by omega), Option.bind_some, if_pos (by omega), e3]
    have skip : (∀ b, at9 a d b → s 28 b = lot → ¬ (nr8 a b ∧ (g fr = 0 → nr4 a b))) → (∃ z, d_X12_spread_59 fr lot a f more (d + 1 : Nat) s = some (1, z, upz s 28 a lot) ∧ ∃ b, b < 100 ∧ s 28 b = lot ∧ nr8 a b ∧ (g fr = 0 → nr4 a b)) ∨ (∃ z, d_X12_spread_59 fr lot a f more (d + 1 : Nat) s = some (more, z, s) ∧ ∀ b, b < 100 → s 28 b = lot → ¬ (nr8 a b ∧ (g fr = 0 → nr4 a b))) := by
      intro K
      refine ih (d + 1) f more (by omega) (by omega) (fun e b he h1 h2 => ?_)
      by_cases q : e = d
      · rw [q] at h1
        exact K b h1 h2
      · exact H e b (by omega) h1 h2
    by_cases q1 : 0 ≤ (a : Int) / 10 + (d : Int) / 3 - 1 ∧ (a : Int) / 10 + (d : Int) / 3 - 1 ≤ 9
    · rw [if_neg (by omega), if_pos (by omega), e_X12_within (by omega), Option.bind_some, if_pos (by omega)]
      by_cases q2 : 0 ≤ (a : Int) % 10 + (d : Int) % 3 - 1 ∧ (a : Int) % 10 + (d : Int) % 3 - 1 ≤ 9
      · rw [if_neg (by omega)]
        obtain ⟨b, hb⟩ : ∃ b : Nat, 10 * ((a : Int) / 10 + (d : Int) / 3 - 1) + ((a : Int) % 10 + (d : Int) % 3 - 1) = b := ⟨(10 * ((a : Int) / 10 + (d : Int) / 3 - 1) + ((a : Int) % 10 + (d : Int) % 3 - 1)).toNat, by omega⟩
        have hb1 : b < 100 := by omega
        have hat : ∀ c, at9 a d c → c = b := by
          intro c hc
          unfold at9 at hc
          omega
        have zb := h28 b hb1
        simp only [hb, Int.toNat_natCast]
        rw [if_pos (by omega), if_pos (by omega)]
        by_cases q3 : s 28 b = lot
        · rw [if_neg (by omega), if_pos (by omega), hs]
          obtain ⟨v, v1, v2, v3⟩ := e_areNear (s7 := s) ha hb1 gf
          rw [v1, Option.bind_some, if_pos (by omega)]
          by_cases v0 : v = 0
          · rw [if_pos v0]
            refine skip (fun c hc _ hn => ?_)
            rw [hat c hc] at hn
            have := v3.mpr hn
            omega
          · rw [if_neg v0, if_pos (by omega)]
            have := v3.mp (by omega)
            exact Or.inl ⟨_, rfl, b, hb1, q3, this.1, this.2⟩
        · rw [if_pos q3]
          refine skip (fun c hc hl _ => ?_)
          rw [hat c hc] at hl
          exact q3 hl
      · rw [if_pos (by omega)]
        refine skip (fun c hc _ _ => ?_)
        unfold at9 at hc
        omega
    · rw [if_pos (by omega)]
      refine skip (fun c hc _ _ => ?_)
      unfold at9 at hc
      omega
def unl (v : Nat → Int) : Int := tot (fun x => if v x = -9 then 1 else 0) 100
theorem unl_put {v w : Nat → Int} {a : Nat} (ha : a < 100) (h1 : v a = -9) (h2 : w a ≠ -9) (h3 : ∀ x, x ≠ a → w x = v x) : unl w = unl v - 1 := by
  unfold unl
  rw [tot_put (v := fun x => if v x = -9 then 1 else 0) (w := fun x => if w x = -9 then 1 else 0) (i := a) (x := -1) 100 ha (by show (if w a = -9 then (1 : Int) else 0) = (if v a = -9 then 1 else 0) + -1; rw [if_neg h2, if_pos h1]; rfl) (fun x hx => by show (if w x = -9 then (1 : Int) else 0) = (if v x = -9 then 1 else 0); rw [h3 x hx])]
  omega
theorem unl_rng (v : Nat → Int) : 0 ≤ unl v ∧ unl v ≤ 100 := by
  unfold unl
  have h1 := tot_nn (v := fun x => if v x = -9 then 1 else 0) 100 (fun a _ => by show 0 ≤ (if v a = -9 then (1 : Int) else 0); split <;> omega)
  have h2 := tot_le (v := fun x => if v x = -9 then 1 else 0) (c := 1) 100 (fun a _ => by show (if v a = -9 then (1 : Int) else 0) ≤ 1; split <;> omega)
  omega
/-- labels while a lot spreads -/
def Lb (g : Nat → Int) (fr : Nat) (lot : Int) (s : zZ) : Prop := (∀ x, x < 100 → s 27 x = g x) ∧ (∀ x, x < 100 → s 28 x = -9 ∨ (0 ≤ s 28 x ∧ s 28 x ≤ 100)) ∧ (∀ x, x < 100 → s 28 x = lot → Con g fr x)
/-- labels grow from one state to another -/
def Gr (g : Nat → Int) (fr : Nat) (lot : Int) (s s' : zZ) : Prop := (∀ q, q ≠ 28 → s' q = s q) ∧ (∀ x, s 28 x ≠ -9 → s' 28 x = s 28 x) ∧ (∀ x, x < 100 → s 28 x = -9 → s' 28 x = -9 ∨ (s' 28 x = lot ∧ Con g fr x))
theorem Gr_refl (g : Nat → Int) (fr : Nat) (lot : Int) (s : zZ) : Gr g fr lot s s := ⟨fun _ _ => rfl, fun _ _ => rfl, fun _ _ h => Or.inl h⟩
theorem Gr_trans {g : Nat → Int} {fr : Nat} {lot : Int} (hl : 0 ≤ lot) {s s' s'' : zZ} (h : Gr g fr lot s s') (k : Gr g fr lot s' s'') : Gr g fr lot s s'' := by
  refine ⟨fun q hq => (k.1 q hq).trans (h.1 q hq), fun x hx => ?_, fun x hx h0 => ?_⟩
  · rw [k.2.1 x (by rw [h.2.1 x hx]; exact hx), h.2.1 x hx]
  · rcases h.2.2 x hx h0 with a | a
    · exact k.2.2 x hx a
    · rw [k.2.1 x (by omega)]
      exact Or.inr a
theorem e_sp18 {g : Nat → Int} (hg : ∀ a, a < 100 → g a = 0 ∨ g a = 1) {fr : Nat} (hf : fr < 100) {lot : Int} (hl : 0 ≤ lot ∧ lot ≤ 100) : ∀ (m a f : Nat) (more : Int) (s : zZ), a + m = 100 → m + 1 ≤ f → (more = 0 ∨ more = 1) → Lb g fr lot s → ∃ r z s', d_X12_spread_18 fr lot f more a s = some (r, z, s') ∧ (r = 0 ∨ r = 1) ∧ Lb g fr lot s' ∧ Gr g fr lot s s' ∧ unl (s' 28) ≤ unl (s 28) ∧ (more = 0 → r = 1 → unl (s' 28) < unl (s 28)) ∧ (r = 0 → more = 0 ∧ s' = s ∧ ∀ x, a ≤ x → x < 100 → s 28 x = -9 → g x = g fr → ∀ b, adj g x b → s 28 b ≠ lot) := by
  intro m
  induction m with
  | zero =>
    intro a f more s ha hf2 hm L
    obtain ⟨f, rfl⟩ : ∃ h, f = h + 1 := ⟨f - 1, by omega⟩
    unfold d_X12_spread_18
    rw [if_pos (by omega), if_pos (by omega)]
    exact ⟨_, _, _, rfl, hm, L, Gr_refl _ _ _ _, Int.le_refl _, fun h1 h2 => by omega, fun h => ⟨h, rfl, fun x x1 x2 => by omega⟩⟩
  | succ m ih =>
    intro a f more s ha hf2 hm L
    obtain ⟨f, rfl⟩ : ∃ h, f = h + 1 := ⟨f - 1, by omega⟩
    unfold d_X12_spread_18
    have L' := L
    obtain ⟨l1, l2, l3⟩ := L'
    have e3 : ((a : Int) + 1) = ((a + 1 : Nat) : Int) := by omega
    have g1 := l1 a (by omega)
    have g2 := l1 fr hf
    have ga := hg a (by omega)
    have gf := hg fr hf
    have la := l2 a (by omega)
    simp only [Int.toNat_natCast, e3, g1, g2]
    rw [if_pos (by omega), if_neg (by omega), if_pos (by omega), if_pos (by omega)]
    have z28 : ∀ x, x < 100 → zr (s 28 x) := fun x hx => by have := l2 x hx; omega
    have a100 : a < 100 := by omega
    have t1 : 0 ≤ (a : Int) ∧ (a : Int) < 100 := by omega
    have t2 : 0 ≤ (fr : Int) ∧ (fr : Int) < 100 := by omega
    have t3 : zr (g a) ∧ zr (g fr) := by omega
    have skip : (s 28 a = -9 → g a = g fr → ∀ b, adj g a b → s 28 b ≠ lot) → ∃ r z s', d_X12_spread_18 fr lot f more (a + 1 : Nat) s = some (r, z, s') ∧ (r = 0 ∨ r = 1) ∧ Lb g fr lot s' ∧ Gr g fr lot s s' ∧ unl (s' 28) ≤ unl (s 28) ∧ (more = 0 → r = 1 → unl (s' 28) < unl (s 28)) ∧ (r = 0 → more = 0 ∧ s' = s ∧ ∀ x, a ≤ x → x < 100 → s 28 x = -9 → g x = g fr → ∀ b, adj g x b → s 28 b ≠ lot) := by
      intro K
      obtain ⟨r, z, s', c1, c2, c3, c4, c5, c6, c7⟩ := ih (a + 1) f more s (by omega) (by omega) hm L
      refine ⟨r, z, s', c1, c2, c3, c4, c5, c6, fun h => ?_⟩
      obtain ⟨d1, d2, d3⟩ := c7 h
      refine ⟨d1, d2, fun x x1 x2 => ?_⟩
      by_cases q : x = a
      · rw [q]; exact K
      · exact d3 x (by omega) x2
    by_cases q1 : s 28 a = -9
    · rw [if_neg (fun h => h q1), if_pos t1, if_pos t2, if_pos t3]
      by_cases q2 : g a = g fr
      · rw [if_pos q2]
        rcases e_sp59 (g := g) hf a100 hl gf (s := s) g2 z28 9 0 zF more (by omega) (by unfold zF; omega) (fun e b he => absurd he (Nat.not_lt_zero _)) with ⟨z, r1, b, b1, b2, b3, b4⟩ | ⟨z, r1, r2⟩
        · rw [show ((0 : Nat) : Int) = 0 from rfl] at r1
          rw [r1, Option.bind_some]
          clear skip
          have gb : g b = g fr := Con_g (l3 b b1 b2)
          have ca : Con g fr a := Con_step (l3 b b1 b2) (adj_symm ⟨by omega, b1, q2.trans gb.symm, fun h0 => b4 (by omega), b3⟩)
          have u28 : ∀ x, upz s 28 a lot 28 x = if x = a then lot else s 28 x := fun x => by rw [upz_at, if_pos rfl]
          have L1 : Lb g fr lot (upz s 28 a lot) := by
            refine ⟨by rw [upz_ne _ _ _ _ (by decide)]; exact l1, fun x hx => ?_, fun x hx => ?_⟩
            · rw [u28]
              split
              · exact Or.inr hl
              · exact l2 x hx
            · rw [u28]
              split
              · next e => intro _; rw [e]; exact ca
              · exact l3 x hx
          have G1 : Gr g fr lot s (upz s 28 a lot) := by
            refine ⟨fun q hq => upz_ne _ _ _ _ hq, fun x hx => ?_, fun x hx h0 => ?_⟩
            · rw [u28, if_neg (fun e => hx (by rw [e]; exact q1))]
            · rw [u28]
              split
              · next e => rw [e]; exact Or.inr ⟨rfl, ca⟩
              · exact Or.inl h0
          have U1 := unl_put (v := s 28) (w := upz s 28 a lot 28) (a := a) (by omega) q1 (by rw [u28, if_pos rfl]; omega) (fun x hx => by rw [u28, if_neg hx])
          obtain ⟨r, z', s', c1, c2, c3, c4, c5, c6, c7⟩ := ih (a + 1) f 1 (upz s 28 a lot) (by omega) (by omega) (Or.inr rfl) L1
          exact ⟨r, z', s', c1, c2, c3, Gr_trans hl.1 G1 c4, by omega, fun _ _ => by omega, fun h => by have := (c7 h).1; omega⟩
        · rw [show ((0 : Nat) : Int) = 0 from rfl] at r1
          rw [r1, Option.bind_some]
          refine skip (fun _ _ b hb hl2 => ?_)
          exact r2 b hb.2.1 hl2 ⟨hb.2.2.2.2, fun h0 => hb.2.2.2.1 (q2.trans h0)⟩
      · rw [if_neg q2]
        exact skip (fun _ h => absurd h q2)
    · rw [if_pos q1]
      exact skip (fun h => absurd h q1)
theorem e_sp9 {g : Nat → Int} (hg : ∀ a, a < 100 → g a = 0 ∨ g a = 1) {fr : Nat} (hf : fr < 100) {lot : Int} (hl : 0 ≤ lot ∧ lot ≤ 100) : ∀ (P f : Nat) (s : zZ), unl (s 28) ≤ P → P + 3 ≤ f → Lb g fr lot s → ∃ z s', d_X12_spread_9 fr lot f 1 s = some (z, s') ∧ Lb g fr lot s' ∧ Gr g fr lot s s' ∧ ∀ x, x < 100 → s' 28 x = -9 → g x = g fr → ∀ b, adj g x b → s' 28 b ≠ lot := by
  intro P
  induction P with
  | zero =>
    intro f s hu hf2 L
    obtain ⟨f, rfl⟩ : ∃ h, f = h + 2 := ⟨f - 2, by omega⟩
    obtain ⟨r, z, s', c1, c2, c3, c4, c5, c6, c7⟩ := e_sp18 hg hf hl 100 0 zF 0 s (by omega) (by unfold zF; omega) (Or.inl rfl) L
    rw [show ((0 : Nat) : Int) = 0 from rfl] at c1
    have r0 : r = 0 := by
      rcases c2 with h | h
      · exact h
      · have := c6 rfl h
        have := unl_rng (s' 28)
        omega
    subst r0
    obtain ⟨d1, d2, d3⟩ := c7 rfl
    unfold d_X12_spread_9
    rw [if_pos (by omega), if_neg (by omega), c1, Option.bind_some]
    dsimp only
    unfold d_X12_spread_9
    rw [if_pos (by omega), if_pos rfl]
    exact ⟨_, _, rfl, c3, c4, by rw [d2]; exact fun x hx => d3 x (by omega) hx⟩
  | succ P ih =>
    intro f s hu hf2 L
    obtain ⟨f, rfl⟩ : ∃ h, f = h + 2 := ⟨f - 2, by omega⟩
    obtain ⟨r, z, s', c1, c2, c3, c4, c5, c6, c7⟩ := e_sp18 hg hf hl 100 0 zF 0 s (by omega) (by unfold zF; omega) (Or.inl rfl) L
    rw [show ((0 : Nat) : Int) = 0 from rfl] at c1
    unfold d_X12_spread_9
    rw [if_pos (by omega), if_neg (by omega), c1, Option.bind_some]
    dsimp only
    rcases c2 with r0 | r1
    · subst r0
      obtain ⟨d1, d2, d3⟩ := c7 rfl
      unfold d_X12_spread_9
      rw [if_pos (by omega), if_pos rfl]
      exact ⟨_, _, rfl, c3, c4, by rw [d2]; exact fun x hx => d3 x (by omega) hx⟩
    · subst r1
      have := c6 rfl rfl
      obtain ⟨z', s2, e1, e2, e4, e5⟩ := ih (f + 1) s' (by omega) (by omega) c3
      exact ⟨z', s2, e1, e2, Gr_trans hl.1 c4 e4, e5⟩
theorem e_spread {g : Nat → Int} (hg : ∀ a, a < 100 → g a = 0 ∨ g a = 1) {fr : Nat} (hf : fr < 100) {lot : Int} (hl : 0 ≤ lot ∧ lot ≤ 100) {s : zZ} (h27 : ∀ x, x < 100 → s 27 x = g x) (h28 : ∀ x, x < 100 → s 28 x = -9 ∨ (0 ≤ s 28 x ∧ s 28 x < lot)) (hc : ∀ x, Con g fr x → s 28 x = -9) : ∃ s', d_X12_spread s fr lot = some s' ∧ (∀ q, q ≠ 28 → s' q = s q) ∧ (∀ x, Con g fr x → s' 28 x = lot) ∧ (∀ x, x < 100 → ¬ Con g fr x → s' 28 x = s 28 x) := by
  have u28 : ∀ x, upz s 28 fr lot 28 x = if x = fr then lot else s 28 x := fun x => by rw [upz_at, if_pos rfl]
  have L : Lb g fr lot (upz s 28 fr lot) := by
    refine ⟨by rw [upz_ne _ _ _ _ (by decide)]; exact h27, fun x hx => ?_, fun x hx => ?_⟩
    · rw [u28]
      split
      · exact Or.inr hl
      · have := h28 x hx
        omega
    · rw [u28]
      split
      · next e => intro _; rw [e]; exact Con_refl g fr
      · have := h28 x hx
        omega
  obtain ⟨z, s', c1, c2, c3, c4⟩ := e_sp9 hg hf hl 100 zF (upz s 28 fr lot) (by have := unl_rng (upz s 28 fr lot 28); omega) (by unfold zF; omega) L
  unfold d_X12_spread
  rw [if_pos (by omega), Int.toNat_natCast, c1]
  have all : ∀ x, Con g fr x → s' 28 x = lot := by
    intro x hx
    have := hx (fun y => Con g fr y ∧ y < 100 ∧ s' 28 y = lot) ⟨Con_refl g fr, hf, by rw [c3.2.1 fr (by rw [u28, if_pos rfl]; omega), u28, if_pos rfl]⟩ (fun a b ⟨a1, a2, a3⟩ ab => ?_)
    · exact this.2.2
    · have cb := Con_step a1 ab
      refine ⟨cb, ab.2.1, ?_⟩
      by_cases e : b = fr
      · rw [e, c3.2.1 fr (by rw [u28, if_pos rfl]; omega), u28, if_pos rfl]
      · have b9 := hc b cb
        rcases c3.2.2 b ab.2.1 (by rw [u28, if_neg e]; exact b9) with k | k
        · exact absurd a3 (c4 b ab.2.1 k (Con_g cb) a (adj_symm ab))
        · exact k.1
  refine ⟨s', rfl, fun q hq => by rw [c3.1 q hq, upz_ne _ _ _ _ hq], all, fun x hx hn => ?_⟩
  have ne : x ≠ fr := fun e => hn (by rw [e]; exact Con_refl g fr)
  by_cases q : s 28 x = -9
  · rcases c3.2.2 x hx (by rw [u28, if_neg ne]; exact q) with k | k
    · rw [k, q]
    · exact absurd k.2 hn
  · rw [c3.2.1 x (by rw [u28, if_neg ne]; exact q), u28, if_neg ne]
