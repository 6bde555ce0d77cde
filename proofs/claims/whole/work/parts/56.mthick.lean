/-! the dome: how thick -/
def Bt (v : Int → Int) (lo hi B : Int) : Prop := (B = 0 ∧ ∀ q, lo ≤ q → q ≤ hi → 1 ≤ q → q ≤ 5 → 1000000 ≤ v q) ∨ (1 ≤ B ∧ B ≤ 5 ∧ lo ≤ B ∧ B ≤ hi ∧ v B < 1000000 ∧ ∀ q, lo ≤ q → q ≤ hi → 1 ≤ q → q ≤ 5 → v B ≤ v q ∧ (q < B → v B < v q))
theorem Bt_uniq {v v' : Int → Int} {lo hi B B' : Int} (hv : ∀ q, 1 ≤ q → q ≤ 5 → v q = v' q) (h : Bt v lo hi B) (h' : Bt v' lo hi B') : B = B' := by
  rcases h with ⟨a1, a2⟩ | ⟨a1, a2, a3, a4, a5, a6⟩
  · rcases h' with ⟨b1, b2⟩ | ⟨b1, b2, b3, b4, b5, b6⟩
    · omega
    · have := a2 B' b3 b4 b1 b2
      have := hv B' b1 b2
      omega
  · rcases h' with ⟨b1, b2⟩ | ⟨b1, b2, b3, b4, b5, b6⟩
    · have := b2 B a3 a4 a1 a2
      have := hv B a1 a2
      omega
    · have c1 := a6 B' b3 b4 b1 b2
      have c2 := b6 B a3 a4 a1 a2
      have := hv B a1 a2
      have := hv B' b1 b2
      omega
theorem e_J9min {a b : Int} (ha : zr a) (hb : zr b) : d_J9_min_7cf53 a b = some (if a ≤ b then a else b) := by
  unfold d_J9_min_7cf53
  repeat' split
  all_goals first | rfl | (exfalso; omega)
theorem e_J9max {a b : Int} (ha : zr a) (hb : zr b) : d_J9_max_7cf53 a b = some (if a ≤ b then b else a) := by
  unfold d_J9_max_7cf53
  repeat' split
  all_goals first | rfl | (exfalso; omega) | (congr 1; omega)
theorem e_bt_loop {s1 : zZ} {P : Nat} (hP : P < 8) {lo hi : Int} (h0 : 0 ≤ lo ∧ lo ≤ 5) (h1 : 1 ≤ hi ∧ hi ≤ 6) (hv : ∀ t : Nat, 1 ≤ t → t ≤ 5 → 0 ≤ s1 (9 + P) t ∧ s1 (9 + P) t ≤ 1001000) : ∀ (n : Nat) (t best least : Int) (f : Nat), t + n = (if 5 ≤ hi then 5 else hi) + 1 → 1 ≤ t → n + 1 ≤ f → ((best = 0 ∧ least = 1000000 ∧ ∀ q, lo ≤ q → q < t → 1 ≤ q → q ≤ 5 → 1000000 ≤ s1 (9 + P) q.toNat) ∨ (1 ≤ best ∧ best ≤ 5 ∧ lo ≤ best ∧ best < t ∧ least = s1 (9 + P) best.toNat ∧ least < 1000000 ∧ ∀ q, lo ≤ q → q < t → 1 ≤ q → q ≤ 5 → least ≤ s1 (9 + P) q.toNat ∧ (q < best → least < s1 (9 + P) q.toNat))) → lo ≤ t → ∃ B l z, d_X2_bestThickness_14 s1 P lo hi f best least t = some (B, l, z) ∧ Bt (fun q => s1 (9 + P) q.toNat) lo hi B := by
  intro n
  induction n with
  | zero =>
    intro t best least f ht h2 hf h hlt
    obtain ⟨f, rfl⟩ : ∃ g, f = g + 1 := ⟨f - 1, by omega⟩
    unfold d_X2_bestThickness_14
    rw [e_J9min (by omega) (by omega), Option.bind_some, if_pos (by omega), if_pos (by omega)]
    refine ⟨_, _, _, rfl, ?_⟩
    rcases h with ⟨a1, a2, a3⟩ | ⟨a1, a2, a3, a4, a5, a6, a7⟩
    · exact Or.inl ⟨a1, fun q b1 b2 b3 b4 => a3 q b1 (by omega) b3 b4⟩
    · refine Or.inr ⟨a1, a2, a3, by omega, by show s1 (9 + P) best.toNat < _; omega, fun q b1 b2 b3 b4 => ?_⟩
      have := a7 q b1 (by omega) b3 b4
      rw [a5] at this
      exact this
  | succ n ih =>
    intro t best least f ht h2 hf h hlt
    obtain ⟨f, rfl⟩ : ∃ g, f = g + 1 := ⟨f - 1, by omega⟩
    have ht5 : t ≤ 5 := by omega
    have V := hv t.toNat (by omega) (by omega)
    have hl : 0 ≤ least ∧ least ≤ 1000000 := by
      rcases h with ⟨a1, a2, a3⟩ | ⟨a1, a2, a3, a4, a5, a6, a7⟩
      · omega
      · have := hv best.toNat (by omega) (by omega)
        omega
    unfold d_X2_bestThickness_14
    rw [e_J9min (by omega) (by omega), Option.bind_some, if_pos (by omega), if_neg (by omega)]
    simp only [Int.toNat_natCast]
    rw [if_pos (by omega), if_pos (by omega), if_pos (by omega)]
    by_cases q1 : least ≤ s1 (9 + P) t.toNat
    · rw [if_pos q1]
      refine ih (t + 1) best least f (by omega) (by omega) (by omega) ?_ (by omega)
      rcases h with ⟨a1, a2, a3⟩ | ⟨a1, a2, a3, a4, a5, a6, a7⟩
      · refine Or.inl ⟨a1, a2, fun q b1 b2 b3 b4 => ?_⟩
        by_cases e : q = t
        · subst e; omega
        · exact a3 q b1 (by omega) b3 b4
      · refine Or.inr ⟨a1, a2, a3, by omega, a5, a6, fun q b1 b2 b3 b4 => ?_⟩
        by_cases e : q = t
        · subst e; exact ⟨q1, by omega⟩
        · exact a7 q b1 (by omega) b3 b4
    · rw [if_neg q1, if_pos (by omega), if_pos (by omega)]
      refine ih (t + 1) t _ f (by omega) (by omega) (by omega) ?_ (by omega)
      refine Or.inr ⟨by omega, by omega, by omega, by omega, rfl, by omega, fun q b1 b2 b3 b4 => ?_⟩
      by_cases e : q = t
      · subst e; exact ⟨Int.le_refl _, by omega⟩
      · rcases h with ⟨a1, a2, a3⟩ | ⟨a1, a2, a3, a4, a5, a6, a7⟩
        · have := a3 q b1 (by omega) b3 b4
          omega
        · have := a7 q b1 (by omega) b3 b4
          omega
theorem e_bt {s1 : zZ} {P : Nat} (hP : P < 8) {lo hi : Int} (h0 : 0 ≤ lo ∧ lo ≤ 5) (h1 : 1 ≤ hi ∧ hi ≤ 6) (h2 : lo ≤ hi) (hv : ∀ t : Nat, 1 ≤ t → t ≤ 5 → 0 ≤ s1 (9 + P) t ∧ s1 (9 + P) t ≤ 1001000) : ∃ B, d_X2_bestThickness s1 P lo hi = some B ∧ Bt (fun q => s1 (9 + P) q.toNat) lo hi B := by
  unfold d_X2_bestThickness
  rw [e_J9max (by omega) (by omega), Option.bind_some]
  obtain ⟨B, l, z, b1, b2⟩ := e_bt_loop hP h0 h1 hv ((if 5 ≤ hi then 5 else hi) + 1 - (if 1 ≤ lo then lo else 1)).toNat (if 1 ≤ lo then lo else 1) 0 1000000 zF (by omega) (by omega) (by unfold zF; omega) (Or.inl ⟨rfl, rfl, fun q a1 a2 a3 a4 => by omega⟩) (by omega)
  rw [b1]
  exact ⟨B, rfl, b2⟩
/-! the least of the reference -/
theorem e_50 {s7 : zZ} {str push : Int} {P : Nat} (hP : (P : Int) + 1 < s7 0 5) (h8 : s7 0 5 ≤ 8) {t : Int} (ht : 1 ≤ t ∧ t ≤ 5) (hv : ∀ k : Nat, 1 ≤ k → k ≤ 5 → 0 ≤ s7 7 (6 * (P + 1) + k) ∧ s7 7 (6 * (P + 1) + k) ≤ 1001000) : ∀ (n : Nat) (q least : Int) (f : Nat), q + n = t + 2 → t - 1 ≤ q → n + 1 ≤ f → 0 ≤ least ∧ least ≤ 1000000 → (∀ k, t - 1 ≤ k → k < q → 1 ≤ k → k ≤ 5 → least ≤ s7 7 (6 * (P + 1) + k.toNat)) → (least = 1000000 ∨ ∃ k, t - 1 ≤ k ∧ k ≤ t + 1 ∧ 1 ≤ k ∧ k ≤ 5 ∧ least = s7 7 (6 * (P + 1) + k.toNat)) → ∃ m z, d_X12_findThick_50 s7 str P push t f least q = some (m, z) ∧ 0 ≤ m ∧ m ≤ 1000000 ∧ (∀ k, t - 1 ≤ k → k ≤ t + 1 → 1 ≤ k → k ≤ 5 → m ≤ s7 7 (6 * (P + 1) + k.toNat)) ∧ (m = 1000000 ∨ ∃ k, t - 1 ≤ k ∧ k ≤ t + 1 ∧ 1 ≤ k ∧ k ≤ 5 ∧ m = s7 7 (6 * (P + 1) + k.toNat)) := by
  intro n
  induction n with
  | zero =>
    intro q least f hq h1 hf h2 h3 h4
    obtain ⟨f, rfl⟩ : ∃ g, f = g + 1 := ⟨f - 1, by omega⟩
    unfold d_X12_findThick_50
    rw [if_pos (by omega), if_pos (by omega)]
    exact ⟨_, _, rfl, h2.1, h2.2, fun k a1 a2 a3 a4 => h3 k a1 (by omega) a3 a4, h4⟩
  | succ n ih =>
    intro q least f hq h1 hf h2 h3 h4
    obtain ⟨f, rfl⟩ : ∃ g, f = g + 1 := ⟨f - 1, by omega⟩
    unfold d_X12_findThick_50
    rw [if_pos (by omega), if_neg (by omega), if_pos (by omega), if_neg (by omega), if_pos (by omega), e_X12_within (by omega), Option.bind_some, if_pos (by omega)]
    by_cases q1 : 1 ≤ q ∧ q ≤ 5
    · have e1 : (6 * ((P : Int) + 1) + q).toNat = 6 * (P + 1) + q.toNat := by omega
      have V := hv q.toNat (by omega) (by omega)
      rw [if_neg (by omega), if_pos (by omega), e1, if_pos (by omega)]
      by_cases q2 : least ≤ s7 7 (6 * (P + 1) + q.toNat)
      · rw [if_pos q2]
        refine ih (q + 1) least f (by omega) (by omega) (by omega) h2 (fun k a1 a2 a3 a4 => ?_) h4
        by_cases e : k = q
        · subst e; exact q2
        · exact h3 k a1 (by omega) a3 a4
      · rw [if_neg q2, if_pos (by omega)]
        refine ih (q + 1) _ f (by omega) (by omega) (by omega) (by omega) (fun k a1 a2 a3 a4 => ?_) (Or.inr ⟨q, by omega, by omega, by omega, by omega, rfl⟩)
        by_cases e : k = q
        · subst e; exact Int.le_refl _
        · have := h3 k a1 (by omega) a3 a4
          omega
    · rw [if_pos (by omega)]
      exact ih (q + 1) least f (by omega) (by omega) (by omega) h2 (fun k a1 a2 a3 a4 => h3 k a1 (by omega) a3 a4) h4
theorem e_50end {s7 : zZ} {str push : Int} {P : Nat} (hP : (P : Int) + 1 = s7 0 5) (h8 : s7 0 5 ≤ 8) {t : Int} (ht : 1 ≤ t ∧ t ≤ 5) : ∃ z, d_X12_findThick_50 s7 str P push t zF 0 (t - 1) = some (0, z) := by
  obtain ⟨f, hf⟩ : ∃ f, zF = f + 1 := ⟨99999, rfl⟩
  rw [hf]
  unfold d_X12_findThick_50
  rw [if_pos (by omega), if_neg (by omega), if_pos (by omega), if_pos (by omega)]
  exact ⟨_, rfl⟩
/-- rows of sums agree: all rows below, and this row up to t -/
def TT (s1 s7 : zZ) (pn : Int) (P t : Nat) : Prop := ∀ Q k : Nat, 1 ≤ k → k ≤ 5 → (Q : Int) < pn → (P < Q ∨ (Q = P ∧ k < t)) → s1 (9 + Q) k = s7 7 (6 * Q + k) ∧ 0 ≤ s1 (9 + Q) k ∧ s1 (9 + Q) k ≤ 1001000 ∧ ((Q : Int) + 1 < pn → s1 (9 + Q) k < 1000000 → ∃ j : Nat, 1 ≤ j ∧ j ≤ 5 ∧ k ≤ j + 1 ∧ j ≤ k + 1 ∧ s1 (9 + (Q + 1)) j < 1000000)
def FrD (s s' : zZ) : Prop := ∀ q, q < 9 → s' q = s q
theorem FrD_upz {s s' : zZ} {p i : Nat} {v : Int} (h : 9 ≤ p) (k : FrD s s') : FrD s (upz s' p i v) := fun q hq => by rw [upz_ne s' p i v (by omega), k q hq]
theorem FrD_RDm {s1 s1' s7 s7' : zZ} (R : RDm s1 (s7 0 5) (s7 4) (s7 5) (s7 6)) (h : FrD s1 s1') (k : Fr [7, 8] [] s7 s7') : RDm s1' (s7' 0 5) (s7' 4) (s7' 5) (s7' 6) := by
  unfold RDm
  rw [h 0 (by omega), h 1 (by omega), h 2 (by omega), h 3 (by omega), k.2 5 (by decide), k.1 4 (by decide) (by decide), k.1 5 (by decide) (by decide), k.1 6 (by decide) (by decide)]
  exact R
theorem TT_put {s1 s7 : zZ} {pn : Int} {P t : Nat} {v : Int} (hP : (P : Int) < pn) (ht : 1 ≤ t ∧ t ≤ 5) (T : TT s1 s7 pn P t) (hv : 0 ≤ v ∧ v ≤ 1001000) (hn : (P : Int) + 1 < pn → v < 1000000 → ∃ j : Nat, 1 ≤ j ∧ j ≤ 5 ∧ t ≤ j + 1 ∧ j ≤ t + 1 ∧ s1 (9 + (P + 1)) j < 1000000) : TT (upz s1 (9 + P) t v) (upz s7 7 (6 * P + t) v) pn P (t + 1) := by
  intro Q k h1 h2 h3 h4
  have e1 : ∀ j, upz s1 (9 + P) t v (9 + (Q + 1)) j = s1 (9 + (Q + 1)) j := by
    intro j
    rw [upz_ne s1 (9 + P) t v (by omega)]
  simp only [e1]
  by_cases e : Q = P ∧ k = t
  · obtain ⟨rfl, rfl⟩ := e
    simp only [upz_at, ↓reduceIte]
    exact ⟨trivial, hv.1, hv.2, hn⟩
  · have := T Q k h1 h2 h3 (by omega)
    have e2 : upz s1 (9 + P) t v (9 + Q) k = s1 (9 + Q) k := by
      rw [upz_at]
      by_cases q : Q = P
      · subst q
        rw [if_pos rfl, if_neg (by omega)]
      · rw [if_neg (by omega)]
    have e3 : upz s7 7 (6 * P + t) v 7 (6 * Q + k) = s7 7 (6 * Q + k) := by
      rw [upz_at, if_pos rfl, if_neg (by omega)]
    rw [e2, e3]
    exact this
theorem e_thick_in {str : Int} (hs : 1 ≤ str ∧ str ≤ 9999) {s1o s7o : zZ} (R : RDm s1o (s7o 0 5) (s7o 4) (s7o 5) (s7o 6)) {P : Nat} (hP : (P : Int) < s7o 0 5) {push lng : Int} (hpu : 0 ≤ push ∧ push ≤ 8388607) (hl : 0 ≤ lng ∧ lng ≤ 200) (Hlen : d_X2_lengthOf s1o P = some lng) : ∀ (n t f g : Nat) (s1 s7 : zZ), t + n = 6 → 1 ≤ t → n + 1 ≤ f → n + 1 ≤ g → FrD s1o s1 → Fr [7, 8] [] s7o s7 → TT s1 s7 (s7o 0 5) P t → ∃ s1' s7' z w, d_X2_sumFrom_16 P str push lng f t s1 = some (z, s1') ∧ d_X12_findThick_20 str P push g t s7 = some (w, s7') ∧ FrD s1o s1' ∧ Fr [7, 8] [] s7o s7' ∧ TT s1' s7' (s7o 0 5) P 6 := by
  intro n
  induction n with
  | zero =>
    intro t f g s1 s7 ht h1 hf hg F1 F2 T
    obtain ⟨f, rfl⟩ : ∃ h, f = h + 1 := ⟨f - 1, by omega⟩
    obtain ⟨g, rfl⟩ : ∃ h, g = h + 1 := ⟨g - 1, by omega⟩
    unfold d_X2_sumFrom_16 d_X12_findThick_20
    rw [if_pos (by omega), if_pos (by omega), if_pos (by omega), if_pos (by omega)]
    have : t = 6 := by omega
    subst this
    exact ⟨_, _, _, _, rfl, rfl, F1, F2, T⟩
  | succ n ih =>
    intro t f g s1 s7 ht h1 hf hg F1 F2 T
    obtain ⟨f, rfl⟩ : ∃ h, f = h + 1 := ⟨f - 1, by omega⟩
    obtain ⟨g, rfl⟩ : ∃ h, g = h + 1 := ⟨g - 1, by omega⟩
    have R' := FrD_RDm R F1 F2
    have R'' := FrD_RDm R (fun _ _ => rfl) F2
    have R3 := R'.2.2.1
    have R2 := R'.2.1
    have R1 := R'.1
    have e5 : s7 0 5 = s7o 0 5 := F2.2 5 (by decide)
    have et : ((t : Int) + 1) = ((t + 1 : Nat) : Int) := by omega
    have eP : ((P : Int) + 1) = ((P + 1 : Nat) : Int) := by omega
    have ep : (6 * (P : Int) + t).toNat = 6 * P + t := by omega
    obtain ⟨lng', l1, l2, l3⟩ := e_len R'' (P := P) (by omega)
    rw [Hlen] at l1
    obtain rfl := Option.some.inj l1
    have tm := mul_rng (x := (t : Int)) (y := str) (a := 5) (b := 9999) (by omega) (by omega)
    have tl := mul_rng (x := (t : Int)) (y := lng) (a := 5) (b := 200) (by omega) (by omega)
    unfold d_X2_sumFrom_16 d_X12_findThick_20
    rw [eP, e_X2_isPanel (by omega) (by omega), ← eP, l2]
    have step : ∀ v : Int, 0 ≤ v ∧ v ≤ 1001000 → ((P : Int) + 1 < s7o 0 5 → v < 1000000 → ∃ j : Nat, 1 ≤ j ∧ j ≤ 5 ∧ t ≤ j + 1 ∧ j ≤ t + 1 ∧ s1 (9 + (P + 1)) j < 1000000) → ∃ s1' s7' z w, d_X2_sumFrom_16 P str push lng f (t + 1 : Nat) (upz s1 (9 + P) t v) = some (z, s1') ∧ d_X12_findThick_20 str P push g (t + 1 : Nat) (upz s7 7 (6 * P + t) v) = some (w, s7') ∧ FrD s1o s1' ∧ Fr [7, 8] [] s7o s7' ∧ TT s1' s7' (s7o 0 5) P 6 := by
      intro v hv hn
      exact ih (t + 1) f g _ _ (by omega) (by omega) (by omega) (by omega) (FrD_upz (by omega) F1) (Fr_upz (by decide) (by decide) F2) (TT_put hP (by omega) T hv hn)
    by_cases hlast : (P : Int) + 1 = s7o 0 5
    · obtain ⟨z, hz⟩ := e_50end (s7 := s7) (str := str) (push := push) (P := P) (by omega) (by omega) (t := (t : Int)) (by omega)
      rw [hz]
      simp only [Int.toNat_natCast, ep, Option.bind_some]
      by_cases q1 : (t : Int) * str < push
      · simp (disch := omega) only [↓if_pos, ↓if_neg, ↓Option.bind_some]
        rw [et]
        exact step 1000000 (by omega) (by omega)
      · simp (disch := omega) only [↓if_pos, ↓if_neg, ↓Option.bind_some]
        rw [et, show (0 : Int) + (t : Int) * lng = (t : Int) * lng + 0 by omega]
        exact step ((t : Int) * lng + 0) (by omega) (by omega)
    · have hin : (P : Int) + 1 < s7o 0 5 := by omega
      have Tr : ∀ k : Nat, 1 ≤ k → k ≤ 5 → s1 (9 + (P + 1)) k = s7 7 (6 * (P + 1) + k) ∧ 0 ≤ s1 (9 + (P + 1)) k ∧ s1 (9 + (P + 1)) k ≤ 1001000 := by
        intro k a1 a2
        have := T (P + 1) k a1 a2 (by omega) (Or.inl (by omega))
        exact ⟨this.1, this.2.1, this.2.2.1⟩
      obtain ⟨B, b1, b2⟩ := e_bt (s1 := s1) (P := P + 1) (by omega) (lo := (t : Int) - 1) (hi := (t : Int) + 1) (by omega) (by omega) (by omega) (fun k a1 a2 => (Tr k a1 a2).2)
      obtain ⟨m, z, m1, m2, m3, m4, m5⟩ := e_50 (s7 := s7) (str := str) (push := push) (P := P) (by omega) (by omega) (t := (t : Int)) (by omega) (fun k a1 a2 => by have := Tr k a1 a2; omega) 3 ((t : Int) - 1) 1000000 zF (by omega) (by omega) (by unfold zF; omega) (by omega) (fun k a1 a2 a3 a4 => by omega) (Or.inl rfl)
      rw [← eP] at b1
      rw [b1, m1]
      have eP2 : ((P : Int) + 1).toNat = P + 1 := by omega
      simp only [Int.toNat_natCast, ep, eP2, Option.bind_some]
      have TB : ∀ k : Int, 1 ≤ k → k ≤ 5 → s1 (9 + (P + 1)) k.toNat = s7 7 (6 * (P + 1) + k.toNat) := fun k a1 a2 => (Tr k.toNat (by omega) (by omega)).1
      rcases b2 with ⟨c1, c2⟩ | ⟨c1, c2, c3, c4, c5, c6⟩
      · have hm : m = 1000000 := by
          rcases m5 with m5 | ⟨k, k1, k2, k3, k4, k5⟩
          · exact m5
          · have z1 : 1000000 ≤ s1 (9 + (P + 1)) k.toNat := c2 k k1 k2 k3 k4
            have := TB k k3 k4
            omega
        subst hm
        by_cases q1 : (t : Int) * str < push
        · simp (disch := omega) only [↓if_pos, ↓if_neg, ↓Option.bind_some]
          rw [et]
          exact step 1000000 (by omega) (by omega)
        · simp (disch := omega) only [↓if_pos, ↓if_neg, ↓Option.bind_some]
          rw [et]
          exact step 1000000 (by omega) (by omega)
      · have hm : m = s1 (9 + (P + 1)) B.toNat := by
          have d1 := m4 B (by omega) (by omega) c1 c2
          have d2 := TB B c1 c2
          have d3 : s1 (9 + (P + 1)) B.toNat < 1000000 := c5
          rcases m5 with m5 | ⟨k, k1, k2, k3, k4, k5⟩
          · omega
          · have z1 : s1 (9 + (P + 1)) B.toNat ≤ s1 (9 + (P + 1)) k.toNat := (c6 k k1 k2 k3 k4).1
            have := TB k k3 k4
            omega
        subst hm
        have c5' : s1 (9 + (P + 1)) B.toNat < 1000000 := c5
        have VB := Tr B.toNat (by omega) (by omega)
        by_cases q1 : (t : Int) * str < push
        · simp (disch := omega) only [↓if_pos, ↓if_neg, ↓Option.bind_some]
          rw [et]
          exact step 1000000 (by omega) (by omega)
        · simp (disch := omega) only [↓if_pos, ↓if_neg, ↓Option.bind_some]
          rw [et, Int.add_comm (s1 (9 + (P + 1)) B.toNat)]
          exact step _ (by omega) (fun _ _ => ⟨B.toNat, by omega, by omega, by omega, by omega, c5'⟩)
theorem TT_row {s1 s7 : zZ} {pn : Int} {P : Nat} (T : TT s1 s7 pn P 6) (hP : 0 < P) : TT s1 s7 pn (P - 1) 1 := fun Q k h1 h2 h3 h4 => T Q k h1 h2 h3 (by omega)
theorem e_thick_out {str p : Int} (hs : 1 ≤ str ∧ str ≤ 9999) {s1o s7o : zZ} (R : RDm s1o (s7o 0 5) (s7o 4) (s7o 5) (s7o 6)) : ∀ (n f g : Nat) (s1 s7 : zZ), (n : Int) ≤ s7o 0 5 → n + 1 ≤ f → n + 1 ≤ g → FrD s1o s1 → Fr [7, 8] [] s7o s7 → (∀ Q k : Nat, n ≤ Q → 1 ≤ k → k ≤ 5 → (Q : Int) < s7o 0 5 → s1 (9 + Q) k = s7 7 (6 * Q + k) ∧ 0 ≤ s1 (9 + Q) k ∧ s1 (9 + Q) k ≤ 1001000 ∧ ((Q : Int) + 1 < s7o 0 5 → s1 (9 + Q) k < 1000000 → ∃ j : Nat, 1 ≤ j ∧ j ≤ 5 ∧ k ≤ j + 1 ∧ j ≤ k + 1 ∧ s1 (9 + (Q + 1)) j < 1000000)) → ∃ s1' s7' z w, d_X2_thickness_7 str p f ((n : Int) - 1) s1 = some (z, s1') ∧ d_X12_findThick_7 str g ((n : Int) - 1) s7 = some (w, s7') ∧ FrD s1o s1' ∧ Fr [7, 8] [] s7o s7' ∧ (∀ Q k : Nat, 1 ≤ k → k ≤ 5 → (Q : Int) < s7o 0 5 → s1' (9 + Q) k = s7' 7 (6 * Q + k) ∧ 0 ≤ s1' (9 + Q) k ∧ s1' (9 + Q) k ≤ 1001000 ∧ ((Q : Int) + 1 < s7o 0 5 → s1' (9 + Q) k < 1000000 → ∃ j : Nat, 1 ≤ j ∧ j ≤ 5 ∧ k ≤ j + 1 ∧ j ≤ k + 1 ∧ s1' (9 + (Q + 1)) j < 1000000)) := by
  intro n
  induction n with
  | zero =>
    intro f g s1 s7 hn hf hg F1 F2 T
    obtain ⟨f, rfl⟩ : ∃ h, f = h + 1 := ⟨f - 1, by omega⟩
    obtain ⟨g, rfl⟩ : ∃ h, g = h + 1 := ⟨g - 1, by omega⟩
    unfold d_X2_thickness_7 d_X12_findThick_7
    rw [if_pos (by omega), if_pos (by omega), if_pos (by omega), if_pos (by omega)]
    exact ⟨_, _, _, _, rfl, rfl, F1, F2, fun Q k => T Q k (by omega)⟩
  | succ n ih =>
    intro f g s1 s7 hn hf hg F1 F2 T
    obtain ⟨f, rfl⟩ : ∃ h, f = h + 1 := ⟨f - 1, by omega⟩
    obtain ⟨g, rfl⟩ : ∃ h, g = h + 1 := ⟨g - 1, by omega⟩
    have R' := FrD_RDm R F1 F2
    have R3 := R.2.2.1
    have e5 : s7 0 5 = s7o 0 5 := F2.2 5 (by decide)
    have en : (((n + 1 : Nat) : Int) - 1) = (n : Int) := by omega
    rw [en]
    unfold d_X2_thickness_7 d_X12_findThick_7 d_X2_sumFrom
    obtain ⟨u, u1, u2, u3⟩ := e_push R' (P := n) (by omega)
    obtain ⟨v, v1, v2, v3⟩ := e_len R' (P := n) (by omega)
    obtain ⟨s1', s7', z, w, k1, k2, k3, k4, k5⟩ := e_thick_in hs R' (P := n) (by omega) u3 v3 v1 5 1 zF zF s1 s7 (by omega) (by omega) (by unfold zF; omega) (by unfold zF; omega) (fun _ _ => rfl) (Fr_refl _ _ _) (fun Q k a1 a2 a3 a4 => by rw [e5] at a3 ⊢; exact T Q k (by omega) a1 a2 a3)
    rw [show ((1 : Nat) : Int) = 1 from rfl] at k1 k2
    rw [if_pos (by omega), if_neg (by omega), if_pos (by omega), if_neg (by omega), u1, u2, Option.bind_some, v1, Option.bind_some, Option.bind_some, k1, k2]
    simp only [Option.bind_some]
    rw [show (n : Int) + -1 = (n : Int) - 1 by omega]
    refine ih f g s1' s7' (by omega) (by omega) (by omega) (fun q hq => (k3 q hq).trans (F1 q hq)) (Fr_trans F2 k4) (fun Q k a1 a2 a3 a4 => ?_)
    have := k5 Q k a2 a3 (by omega) (by omega)
    rw [e5] at this
    exact this
theorem e_217 {s7 : zZ} {str : Int} {K : Nat} (hK : K < 8) {p lo hi : Int} (hp : zr (p - 1) ∧ zr (p + 1)) (hlo : lo = if K = 0 then 1 else p - 1) (hhi : hi = if K = 0 then 5 else p + 1) (hv : ∀ k : Nat, 1 ≤ k → k ≤ 5 → 0 ≤ s7 7 (6 * K + k) ∧ s7 7 (6 * K + k) ≤ 1001000) : ∀ (n : Nat) (q t : Int) (f : Nat), q + n = 6 → 1 ≤ q → n + 1 ≤ f → ((t = 0 ∧ ∀ k, lo ≤ k → k ≤ hi → 1 ≤ k → k < q → 1000000 ≤ s7 7 (6 * K + k.toNat)) ∨ (1 ≤ t ∧ t < q ∧ lo ≤ t ∧ t ≤ hi ∧ s7 7 (6 * K + t.toNat) < 1000000 ∧ ∀ k, lo ≤ k → k ≤ hi → 1 ≤ k → k < q → s7 7 (6 * K + t.toNat) ≤ s7 7 (6 * K + k.toNat) ∧ (k < t → s7 7 (6 * K + t.toNat) < s7 7 (6 * K + k.toNat)))) → ∃ B z, d_X12_findThick_217 s7 str p K f t q = some (B, z) ∧ Bt (fun q => s7 7 (6 * K + q.toNat)) lo hi B := by
  intro n
  induction n with
  | zero =>
    intro q t f hq h1 hf h
    obtain ⟨f, rfl⟩ : ∃ g, f = g + 1 := ⟨f - 1, by omega⟩
    unfold d_X12_findThick_217
    rw [if_pos (by omega), if_pos (by omega)]
    refine ⟨_, _, rfl, ?_⟩
    rcases h with ⟨a1, a2⟩ | ⟨a1, a2, a3, a4, a5, a6⟩
    · exact Or.inl ⟨a1, fun k b1 b2 b3 b4 => a2 k b1 b2 b3 (by omega)⟩
    · exact Or.inr ⟨a1, by omega, a3, a4, a5, fun k b1 b2 b3 b4 => a6 k b1 b2 b3 (by omega)⟩
  | succ n ih =>
    intro q t f hq h1 hf h
    obtain ⟨f, rfl⟩ : ∃ g, f = g + 1 := ⟨f - 1, by omega⟩
    have V := hv q.toNat (by omega) (by omega)
    have e1 : (6 * (K : Int) + q).toNat = 6 * K + q.toNat := by omega
    have skip : (¬ (lo ≤ q ∧ q ≤ hi) ∨ 1000000 ≤ s7 7 (6 * K + q.toNat) ∨ (t ≠ 0 ∧ s7 7 (6 * K + t.toNat) ≤ s7 7 (6 * K + q.toNat))) → ∃ B z, d_X12_findThick_217 s7 str p K f t (q + 1) = some (B, z) ∧ Bt (fun q => s7 7 (6 * K + q.toNat)) lo hi B := by
      intro hs
      refine ih (q + 1) t f (by omega) (by omega) (by omega) ?_
      rcases h with ⟨a1, a2⟩ | ⟨a1, a2, a3, a4, a5, a6⟩
      · refine Or.inl ⟨a1, fun k b1 b2 b3 b4 => ?_⟩
        by_cases e : k = q
        · subst e
          rcases hs with hs | hs | hs
          · exact absurd ⟨b1, b2⟩ hs
          · exact hs
          · exact absurd a1 hs.1
        · exact a2 k b1 b2 b3 (by omega)
      · refine Or.inr ⟨a1, by omega, a3, a4, a5, fun k b1 b2 b3 b4 => ?_⟩
        by_cases e : k = q
        · subst e
          rcases hs with hs | hs | hs
          · exact absurd ⟨b1, b2⟩ hs
          · omega
          · exact ⟨hs.2, by omega⟩
        · exact a6 k b1 b2 b3 (by omega)
    have take : lo ≤ q → q ≤ hi → s7 7 (6 * K + q.toNat) < 1000000 → (t = 0 ∨ s7 7 (6 * K + q.toNat) < s7 7 (6 * K + t.toNat)) → ∃ B z, d_X12_findThick_217 s7 str p K f q (q + 1) = some (B, z) ∧ Bt (fun q => s7 7 (6 * K + q.toNat)) lo hi B := by
      intro c1 c2 c3 c4
      refine ih (q + 1) q f (by omega) (by omega) (by omega) (Or.inr ⟨h1, by omega, c1, c2, c3, fun k b1 b2 b3 b4 => ?_⟩)
      by_cases e : k = q
      · subst e; exact ⟨Int.le_refl _, by omega⟩
      · rcases h with ⟨a1, a2⟩ | ⟨a1, a2, a3, a4, a5, a6⟩
        · have := a2 k b1 b2 b3 (by omega)
          omega
        · have := a6 k b1 b2 b3 (by omega)
          omega
    have core : lo ≤ q → q ≤ hi → ∃ B z, (if (0 ≤ ((6 * (K : Int)) + q) ∧ ((6 * (K : Int)) + q) < 54) then (if (zr (s7 7 ((6 * (K : Int)) + q).toNat)) then (if (1000000 : Int) ≤ (s7 7 ((6 * (K : Int)) + q).toNat) then (d_X12_findThick_217 s7 str p K f t (q + 1)) else (if (zr t) then (if t = 0 then (d_X12_findThick_217 s7 str p K f q (q + 1)) else (if (0 ≤ ((6 * (K : Int)) + q) ∧ ((6 * (K : Int)) + q) < 54) then (if (0 ≤ ((6 * (K : Int)) + t) ∧ ((6 * (K : Int)) + t) < 54) then (if (zr (s7 7 ((6 * (K : Int)) + q).toNat) ∧ zr (s7 7 ((6 * (K : Int)) + t).toNat)) then (if (s7 7 ((6 * (K : Int)) + t).toNat) ≤ (s7 7 ((6 * (K : Int)) + q).toNat) then (d_X12_findThick_217 s7 str p K f t (q + 1)) else (d_X12_findThick_217 s7 str p K f q (q + 1))) else none) else none) else none)) else none)) else none) else none) = some (B, z) ∧ Bt (fun q => s7 7 (6 * K + q.toNat)) lo hi B := by
      intro c1 c2
      rw [e1, if_pos (by omega), if_pos (by omega)]
      by_cases q1 : 1000000 ≤ s7 7 (6 * K + q.toNat)
      · rw [if_pos q1]
        exact skip (Or.inr (Or.inl q1))
      · rw [if_neg q1]
        rcases h with ⟨a1, a2⟩ | ⟨a1, a2, a3, a4, a5, a6⟩
        · rw [if_pos (by omega), if_pos a1]
          exact take c1 c2 (by omega) (Or.inl a1)
        · have V2 := hv t.toNat (by omega) (by omega)
          have e2 : (6 * (K : Int) + t).toNat = 6 * K + t.toNat := by omega
          rw [e2, if_pos (by omega), if_neg (by omega), if_pos (by omega), if_pos (by omega), if_pos (by omega)]
          by_cases q2 : s7 7 (6 * K + t.toNat) ≤ s7 7 (6 * K + q.toNat)
          · rw [if_pos q2]
            exact skip (Or.inr (Or.inr ⟨by omega, q2⟩))
          · rw [if_neg q2]
            exact take c1 c2 (by omega) (Or.inr (by omega))
    unfold d_X12_findThick_217
    rw [if_pos (by omega), if_neg (by omega), if_pos (by omega)]
    by_cases k0 : K = 0
    · rw [if_pos k0] at hlo hhi
      rw [if_pos (by omega)]
      exact core (by omega) (by omega)
    · rw [if_neg k0] at hlo hhi
      rw [if_neg (by omega), if_pos (by omega)]
      by_cases q1 : q < p - 1
      · rw [if_pos q1]
        exact skip (Or.inl (by omega))
      · rw [if_neg q1, if_pos (by omega)]
        by_cases q2 : p + 1 < q
        · rw [if_pos q2]
          exact skip (Or.inl (by omega))
        · rw [if_neg q2]
          exact core (by omega) (by omega)
/-- the whole table of sums, as the reference has it -/
def TV (s7 : zZ) (pn : Int) : Prop := ∀ Q k : Nat, 1 ≤ k → k ≤ 5 → (Q : Int) < pn → 0 ≤ s7 7 (6 * Q + k) ∧ s7 7 (6 * Q + k) ≤ 1001000 ∧ ((Q : Int) + 1 < pn → s7 7 (6 * Q + k) < 1000000 → ∃ j : Nat, 1 ≤ j ∧ j ≤ 5 ∧ k ≤ j + 1 ∧ j ≤ k + 1 ∧ s7 7 (6 * (Q + 1) + j) < 1000000)
def Chn (s7 : zZ) (j : Nat) : Prop := Bt (fun q => s7 7 (6 * j + q.toNat)) (if j = 0 then 1 else s7 8 (j - 1) - 1) (if j = 0 then 5 else s7 8 (j - 1) + 1) (s7 8 j) ∧ s7 8 j ≠ 0
theorem e_203 {str : Int} {pn : Int} (hpn : pn ≤ 8) : ∀ (n K f : Nat) (p : Int) (s7 : zZ), (K : Int) + n = pn → n + 1 ≤ f → s7 0 5 = pn → TV s7 pn → (0 < K → s7 8 (K - 1) = p ∧ 1 ≤ p ∧ p ≤ 5 ∧ s7 7 (6 * (K - 1) + p.toNat) < 1000000) → (K = 0 → p = 0) → (∃ z w s7', d_X12_findThick_203 str f p K s7 = some (.inl (z, w, s7')) ∧ Fr [7, 8] [] s7 s7' ∧ s7' 7 = s7 7 ∧ (∀ j, j < K → s7' 8 j = s7 8 j) ∧ ∀ j : Nat, K ≤ j → (j : Int) < pn → Chn s7' j) ∨ (K = 0 ∧ d_X12_findThick_203 str f p K s7 = some (.inr (-9, s7)) ∧ Bt (fun q => s7 7 (6 * 0 + q.toNat)) 1 5 0 ∧ 0 < pn) := by
  intro n
  induction n with
  | zero =>
    intro K f p s7 hK hf h5 T h1 h2
    obtain ⟨f, rfl⟩ : ∃ g, f = g + 1 := ⟨f - 1, by omega⟩
    unfold d_X12_findThick_203
    rw [if_pos (by omega), if_pos (by omega)]
    exact Or.inl ⟨_, _, _, rfl, Fr_refl _ _ _, rfl, fun _ _ => rfl, fun j a1 a2 => by omega⟩
  | succ n ih =>
    intro K f p s7 hK hf h5 T h1 h2
    obtain ⟨f, rfl⟩ : ∃ g, f = g + 1 := ⟨f - 1, by omega⟩
    have hp : 0 ≤ p ∧ p ≤ 5 := by
      rcases Nat.eq_zero_or_pos K with q | q
      · have := h2 q; omega
      · have := h1 q; omega
    obtain ⟨B, z, b1, b2⟩ := e_217 (s7 := s7) (str := str) (K := K) (by omega) (p := p) (by omega) rfl rfl (fun k a1 a2 => by have := T K k a1 a2 (by omega); exact ⟨this.1, this.2.1⟩) 5 1 0 zF (by omega) (by omega) (by unfold zF; omega) (Or.inl ⟨rfl, fun k a1 a2 a3 a4 => by omega⟩)
    unfold d_X12_findThick_203
    rw [if_pos (by omega), if_neg (by omega), b1]
    simp only [Option.bind_some, Int.toNat_natCast]
    have hB : 0 ≤ B ∧ B ≤ 5 := by
      rcases b2 with ⟨c1, c2⟩ | ⟨c1, c2, c3⟩ <;> omega
    rw [if_pos (by omega)]
    by_cases q : B = 0
    · rw [if_neg (by omega)]
      rcases Nat.eq_zero_or_pos K with k0 | k0
      · subst k0
        subst q
        exact Or.inr ⟨rfl, rfl, b2, by omega⟩
      · exfalso
        obtain ⟨c1, c2, c3, c4⟩ := h1 k0
        obtain ⟨j, j1, j2, j3, j4, j5⟩ := (T (K - 1) p.toNat (by omega) (by omega) (by omega)).2.2 (by omega) c4
        rcases b2 with ⟨d1, d2⟩ | ⟨d1, d2, d3⟩
        · rw [if_neg (by omega), if_neg (by omega)] at d2
          have := d2 j (by omega) (by omega) (by omega) (by omega)
          simp only [Int.toNat_natCast] at this
          rw [show K - 1 + 1 = K by omega] at j5
          omega
        · omega
    · rw [if_pos q, if_pos (by omega)]
      have e1 : ((K : Int) + 1) = ((K + 1 : Nat) : Int) := by omega
      rw [e1]
      have u8 : ∀ j, upz s7 8 K B 8 j = if j = K then B else s7 8 j := by
        intro j
        rw [upz_at, if_pos rfl]
      have u7 : upz s7 8 K B 7 = s7 7 := upz_ne s7 8 K B (by decide)
      have hB2 : s7 7 (6 * K + B.toNat) < 1000000 := by
        rcases b2 with ⟨d1, d2⟩ | ⟨d1, d2, d3, d4, d5, d6⟩
        · omega
        · exact d5
      have := ih (K + 1) f B (upz s7 8 K B) (by omega) (by omega) (by rw [upz_ne s7 8 K B (by decide)]; exact h5) (by unfold TV; rw [u7]; exact T) (fun _ => ⟨by rw [u8, if_pos (by omega)], by omega, by omega, by rw [u7]; exact hB2⟩) (fun q => by omega)
      rcases this with ⟨z', w', s7', r1, r2, r3, r4, r5⟩ | ⟨r1, _⟩
      · refine Or.inl ⟨z', w', s7', r1, Fr_trans (Fr_upz (by decide) (by decide) (Fr_refl _ _ _)) r2, r3.trans u7, fun j hj => ?_, fun j a1 a2 => ?_⟩
        · rw [r4 j (by omega), u8, if_neg (by omega)]
        · by_cases e : j = K
          · subst e
            have g1 : s7' 8 j = B := by rw [r4 j (by omega), u8, if_pos rfl]
            have g2 : 0 < j → s7' 8 (j - 1) = p := fun hj => by
              rw [r4 (j - 1) (by omega), u8, if_neg (by omega)]
              exact (h1 hj).1
            unfold Chn
            rw [g1, r3, u7]
            refine ⟨?_, q⟩
            rcases Nat.eq_zero_or_pos j with k0 | k0
            · subst k0
              exact b2
            · rw [g2 k0]
              exact b2
          · exact r5 j (by omega) a2
      · omega
theorem e_58 {s1 s7 : zZ} {str : Int} {P : Nat} (hP : (P : Int) < 8) (hv : ∀ Q k : Nat, Q ≤ P → 1 ≤ k → k ≤ 5 → s1 (9 + Q) k = s7 7 (6 * Q + k) ∧ 0 ≤ s1 (9 + Q) k ∧ s1 (9 + Q) k ≤ 1001000) (hc : ∀ j : Nat, j ≤ P → Chn s7 j) : ∀ (n b f : Nat) (u : Int), b + n = P + 1 → 1 ≤ b → n + 1 ≤ f → u = s7 8 (b - 1) → 1 ≤ u ∧ u ≤ 5 → ∃ z, d_X2_thickness_58 s1 str P f u b = some (s7 8 P, z) := by
  intro n
  induction n with
  | zero =>
    intro b f u hb h1 hf hu hr
    obtain ⟨f, rfl⟩ : ∃ g, f = g + 1 := ⟨f - 1, by omega⟩
    unfold d_X2_thickness_58
    rw [if_pos (by omega), if_pos (by omega), hu, show b - 1 = P by omega]
    exact ⟨_, rfl⟩
  | succ n ih =>
    intro b f u hb h1 hf hu hr
    obtain ⟨f, rfl⟩ : ∃ g, f = g + 1 := ⟨f - 1, by omega⟩
    obtain ⟨B, b1, b2⟩ := e_bt (s1 := s1) (P := b) (by omega) (lo := u - 1) (hi := u + 1) (by omega) (by omega) (by omega) (fun k a1 a2 => (hv b k (by omega) a1 a2).2)
    have C := hc b (by omega)
    unfold Chn at C
    rw [if_neg (by omega), if_neg (by omega), ← hu] at C
    have e := Bt_uniq (fun q a1 a2 => (hv b q.toNat (by omega) (by omega) (by omega)).1) b2 C.1
    unfold d_X2_thickness_58
    have e1 : ((b : Int) + 1) = ((b + 1 : Nat) : Int) := by omega
    rw [if_pos (by omega), if_neg (by omega), b1, Option.bind_some, e1]
    refine ih (b + 1) f B (by omega) (by omega) (by omega) (by rw [e]; rfl) ?_
    rcases b2 with ⟨c1, c2⟩ | ⟨c1, c2, c3⟩
    · exact absurd (e ▸ c1) C.2
    · omega
theorem m_thick {s0 s1 s7 : zZ} {str p : Int} (hs : zr str) (hp : zr p) (R : RDm s1 (s7 0 5) (s7 4) (s7 5) (s7 6)) : ∃ r s1' s7', d_X11_thick s0 s1 str p = some (r, s1') ∧ d_X12_thick s7 str p = some (r, s7') ∧ RDm s1' (s7' 0 5) (s7' 4) (s7' 5) (s7' 6) ∧ Fr [7, 8] [] s7 s7' := by
  have R1 := R.1
  have R2 := R.2.1
  have R3 := R.2.2.1
  have off : ∀ r : Int, d_X11_thick s0 s1 str p = some (r, s1) → d_X12_thick s7 str p = some (r, s7) → ∃ r s1' s7', d_X11_thick s0 s1 str p = some (r, s1') ∧ d_X12_thick s7 str p = some (r, s7') ∧ RDm s1' (s7' 0 5) (s7' 4) (s7' 5) (s7' 6) ∧ Fr [7, 8] [] s7 s7' := fun r a b => ⟨r, s1, s7, a, b, R, Fr_refl _ _ _⟩
  by_cases h1 : 1 ≤ str ∧ str ≤ 9999
  · by_cases h2 : s7 0 5 = 0
    · refine off (-1) ?_ ?_
      · unfold d_X11_thick d_X2_howMany
        rw [Option.bind_some]
        simp (disch := omega) only [↓if_pos, ↓if_neg, ↓Option.bind_some, ite_self]
      · unfold d_X12_thick
        rw [e_X12_within (by omega), Option.bind_some]
        simp (disch := omega) only [↓if_pos, ↓if_neg, ↓Option.bind_some, ite_self]
    · by_cases h3 : -1 ≤ p ∧ p < s7 0 5
      · obtain ⟨n, hn⟩ : ∃ n : Nat, s7 0 5 = n := ⟨(s7 0 5).toNat, by omega⟩
        obtain ⟨t1, t7, z, w, k1, k2, k3, k4, k5⟩ := e_thick_out (p := p) h1 R n zF zF s1 s7 (by omega) (by unfold zF; omega) (by unfold zF; omega) (fun _ _ => rfl) (Fr_refl _ _ _) (fun Q k a1 a2 a3 a4 => by omega)
        have R' := FrD_RDm R k3 k4
        have e5 : t7 0 5 = s7 0 5 := k4.2 5 (by decide)
        have TVt : TV t7 (s7 0 5) := by
          intro Q k a1 a2 a3
          have := k5 Q k a1 a2 a3
          rw [← this.1]
          refine ⟨this.2.1, this.2.2.1, fun c1 c2 => ?_⟩
          obtain ⟨j, j1, j2, j3, j4, j5⟩ := this.2.2.2 c1 c2
          refine ⟨j, j1, j2, j3, j4, ?_⟩
          rw [← (k5 (Q + 1) j j1 j2 (by omega)).1]
          exact j5
        obtain ⟨B, b1, b2⟩ := e_bt (s1 := t1) (P := 0) (by omega) (lo := 1) (hi := 5) (by omega) (by omega) (by omega) (fun k a1 a2 => by have := k5 0 k a1 a2 (by omega); exact ⟨this.2.1, this.2.2.1⟩)
        rw [show ((0 : Nat) : Int) = 0 from rfl] at b1
        have hB : 0 ≤ B ∧ B ≤ 5 := by
          rcases b2 with ⟨c1, c2⟩ | ⟨c1, c2, c3⟩ <;> omega
        have C : d_X11_thick s0 s1 str p = d_X2_thickness s1 str p := by
          unfold d_X11_thick d_X2_howMany
          rw [e_X2_isPanel hp (by omega)]
          cases hX : d_X2_thickness s1 str p with
          | none =>
            by_cases q : p = -1
            · simp (disch := omega) only [↓if_pos, ↓if_neg, ↓Option.bind_some, Option.bind_none, ite_self]
            · simp (disch := omega) only [↓if_pos, ↓if_neg, ↓Option.bind_some, Option.bind_none, ite_self]
          | some r =>
            by_cases q : p = -1
            · simp (disch := omega) only [↓if_pos, ↓if_neg, ↓Option.bind_some, ite_self]
            · simp (disch := omega) only [↓if_pos, ↓if_neg, ↓Option.bind_some, ite_self]
        have M : d_X12_thick s7 str p = (d_X12_findThick s7 str).bind fun y8 => if (zr y8.1) then (if y8.1 = (-9) then some (y8.1, y8.2) else (if (zr p) then (if (0 : Int) ≤ p then (if (0 ≤ p ∧ p < 8) then some (y8.2 8 p.toNat, y8.2) else none) else some (y8.1, y8.2)) else none)) else none := by
          unfold d_X12_thick
          rw [e_X12_within (by omega), Option.bind_some]
          simp (disch := omega) only [↓if_pos, ↓if_neg]
          rw [e_X12_within (by omega), Option.bind_some]
          simp (disch := omega) only [↓if_pos, ↓if_neg]
        rw [C, M]
        unfold d_X2_thickness d_X12_findThick
        rw [R1, hn, k1, k2]
        simp only [Option.bind_some]
        rw [b1, Option.bind_some, if_pos (by omega)]
        rcases e_203 (str := str) R3 n 0 zF 0 t7 (by omega) (by unfold zF; omega) e5 TVt (fun q => by omega) (fun _ => rfl) with ⟨z', w', s7', r1, r2, r3, r4, r5⟩ | ⟨r0, r1, r2, r3⟩
        · have C0 := r5 0 (by omega) (by omega)
          have eB := Bt_uniq (fun q a1 a2 => by
            show t1 (9 + 0) q.toNat = s7' 7 (6 * 0 + q.toNat)
            rw [r3]
            exact (k5 0 q.toNat (by omega) (by omega) (by omega)).1) b2 C0.1
          have hB0 : B ≠ 0 := eB ▸ C0.2
          have b3 : 1 ≤ B ∧ B ≤ 5 ∧ t1 (9 + 0) B.toNat < 1000000 := by
            rcases b2 with ⟨c1, c2⟩ | ⟨c1, c2, c3, c4, c5, c6⟩
            · omega
            · exact ⟨c1, c2, c5⟩
          have hval := k5 0 B.toNat (by omega) (by omega) (by omega)
          rw [show ((0 : Nat) : Int) = 0 from rfl] at r1
          rw [r1, if_pos hB0, e_X2_isPanel hp (by have := k3 0 (by omega); rw [this]; omega)]
          have e03 : t1 0 3 = s7 0 5 := by rw [k3 0 (by omega)]; exact R1
          rw [e03]
          simp only [Option.bind_some]
          have hv0 : t1 9 B.toNat = s7' 7 (s7' 8 0).toNat := by
            rw [r3, ← eB]
            have := hval.1
            simpa using this
          have hvr : 0 ≤ s7' 7 (s7' 8 0).toNat ∧ s7' 7 (s7' 8 0).toNat < 1000000 := by
            rw [← hv0]
            exact ⟨hval.2.1, b3.2.2⟩
          by_cases q : p = -1
          · refine ⟨s7' 7 (s7' 8 0).toNat, t1, s7', ?_, ?_, FrD_RDm R k3 (Fr_trans k4 r2), Fr_trans k4 r2⟩
            · simp (disch := omega) only [↓if_pos, ↓if_neg]
              rw [hv0]
            · rw [← eB] at hvr ⊢
              simp (disch := omega) only [↓if_pos, ↓if_neg, ↓Option.bind_some]
          · obtain ⟨P, rfl⟩ : ∃ P : Nat, p = P := ⟨p.toNat, by omega⟩
            obtain ⟨z2, hz2⟩ := e_58 (s1 := t1) (s7 := s7') (str := str) (P := P) (by omega) (fun Q k a0 a1 a2 => by
              have := k5 Q k a1 a2 (by omega)
              rw [r3]
              exact ⟨this.1, this.2.1, this.2.2.1⟩) (fun j hj => r5 j (by omega) (by omega)) P 1 zF B (by omega) (by omega) (by unfold zF; omega) eB (by omega)
            rw [show ((1 : Nat) : Int) = 1 from rfl] at hz2
            refine ⟨s7' 8 P, t1, s7', ?_, ?_, FrD_RDm R k3 (Fr_trans k4 r2), Fr_trans k4 r2⟩
            · rw [hz2]
              simp (disch := omega) only [↓if_pos, ↓if_neg, ↓Option.bind_some]
            · rw [← eB] at hvr ⊢
              simp (disch := omega) only [↓if_pos, ↓if_neg, ↓Option.bind_some]
              rw [Int.toNat_natCast]
        · have eB := Bt_uniq (fun q a1 a2 => by
            show t1 (9 + 0) q.toNat = t7 7 (6 * 0 + q.toNat)
            exact (k5 0 q.toNat (by omega) (by omega) (by omega)).1) b2 r2
          subst eB
          rw [show ((0 : Nat) : Int) = 0 from rfl] at r1
          rw [r1, if_neg (by omega)]
          simp only [Option.bind_some]
          refine ⟨-9, t1, t7, rfl, ?_, FrD_RDm R k3 k4, k4⟩
          rw [if_pos (by omega), if_pos trivial]
      · refine off (-1) ?_ ?_
        · unfold d_X11_thick d_X2_howMany
          rw [e_X2_isPanel hp (by omega), Option.bind_some]
          simp (disch := omega) only [↓if_pos, ↓if_neg, ↓Option.bind_some, ite_self]
        · unfold d_X12_thick
          rw [e_X12_within (by omega), Option.bind_some]
          simp (disch := omega) only [↓if_pos, ↓if_neg]
          rw [e_X12_within (by omega), Option.bind_some]
          simp (disch := omega) only [↓if_pos, ↓if_neg]
  · refine off (-2) ?_ ?_
    · unfold d_X11_thick
      by_cases q : str < 1
      · simp (disch := omega) only [↓if_pos, ↓if_neg, ↓Option.bind_some, ite_self]
      · simp (disch := omega) only [↓if_pos, ↓if_neg, ↓Option.bind_some, ite_self]
    · unfold d_X12_thick
      rw [e_X12_within (by omega), Option.bind_some]
      simp (disch := omega) only [↓if_pos, ↓if_neg, ↓Option.bind_some, ite_self]
