/-! the net: the class lays its table of forces -/
def dfw (s3 s8 : zZ) (b w : Nat) : Int := if w = 0 then s3 2 (s8 b 2).toNat - s3 2 (s8 b 1).toNat else s3 3 (s8 b 2).toNat - s3 3 (s8 b 1).toNat
def fq (s3 s8 : zZ) (b e : Nat) : Int := s3 4 (s8 b e).toNat
def mA (s3 s8 : zZ) (b r : Nat) : Int := (if fq s3 s8 b 1 = ((r / 2 : Nat) : Int) then dfw s3 s8 b (r % 2) else 0) - (if fq s3 s8 b 2 = ((r / 2 : Nat) : Int) then dfw s3 s8 b (r % 2) else 0)
theorem dfw_rng {s3 s8 s7 : zZ} {ks : List Int} (R : ND s3 s8 ks s7) {b : Nat} (hb : (b : Int) < s7 0 25) (w : Nat) : -5 ≤ dfw s3 s8 b w ∧ dfw s3 s8 b w ≤ 5 := by
  obtain ⟨r1, r2, r3, r4, r5, r6, r7, r8, _⟩ := R
  have B := r8 b hb
  have J1 := r5 (s8 b 1).toNat (by omega)
  have J2 := r5 (s8 b 2).toNat (by omega)
  unfold dfw
  split <;> omega
theorem e_diff {s3 s8 s7 s : zZ} {ks : List Int} (R : ND s3 s8 ks s7) (h : ∀ q, q < 13 → s q = s3 q) {s8' : zZ} (h8 : ∀ d i, i ≠ 5 → s8' d i = s8 d i) {b : Nat} (hb : (b : Int) < s7 0 25) {w : Nat} (hw : w < 2) : d_X4_differenceOf s s8' ks w b = some (dfw s3 s8 b w) := by
  obtain ⟨r1, r2, r3, r4, r5, r6, r7, r8, _⟩ := R
  have B := r8 b hb
  unfold d_X4_differenceOf dfw
  rw [e_isJ4 (by rw [Int.toNat_natCast, h8 _ _ (by decide)]; omega) (by rw [h 0 (by decide)]; omega), e_isJ4 (by rw [Int.toNat_natCast, h8 _ _ (by decide)]; omega) (by rw [h 0 (by decide)]; omega)]
  simp only [Int.toNat_natCast, h8 b 1 (by decide), h8 b 2 (by decide), h 0 (by decide), h 2 (by decide), h 3 (by decide), Option.bind_some, r1.1]
  have hw2 : w = 0 ∨ w = 1 := by omega
  rcases hw2 with rfl | rfl
  · simp (disch := omega) only [↓if_pos, ↓if_neg]
  · simp (disch := omega) only [↓if_pos, ↓if_neg]
theorem e_rowOf {s3 s8 s7 s : zZ} {ks : List Int} (R : ND s3 s8 ks s7) (h : ∀ q, q < 13 → s q = s3 q) {j : Nat} (hj : (j : Int) < s7 0 20) {w : Int} : d_X4_rowOf s j w = some (if s3 4 j = -1 then -1 else 2 * s3 4 j + w) := by
  have f := e_isFree R hj
  obtain ⟨r1, r2, r3, r4, r5, _⟩ := R
  have J := r5 j hj
  unfold d_X4_rowOf
  have e : d_X4_isFree s j = d_X4_isFree s3 j := by
    unfold d_X4_isFree d_X4_isJoint
    rw [h 0 (by decide), h 4 (by decide)]
  rw [e, f, Option.bind_some, h 4 (by decide), Int.toNat_natCast]
  by_cases q : s3 4 j = -1
  · simp (disch := omega) only [↓if_pos, ↓if_neg]
  · simp (disch := omega) only [↓if_pos, ↓if_neg]
theorem e_af2 {s3 s8 s7 : zZ} {ks : List Int} (R : ND s3 s8 ks s7) {s8' : zZ} (h8 : ∀ d i, i ≠ 5 → s8' d i = s8 d i) {b col : Nat} (hb : (b : Int) < s7 0 25) (hcol : s8' b 5 = col) {n c k : Nat} (hn : s7 0 21 * 2 = n) (hc : col < c) {D : Int} {L : Nat → Int} : ∀ (m w f : Nat) (s : zZ) (T : Nat → Nat → Int), w + m = 2 → m + 1 ≤ f → (∀ q, q < 13 → s q = s3 q) → TSf s n c k D T L → ∃ z s', d_X4_addForces_2 s8' ks b f w s = some (z, s') ∧ TSf s' n c k D (fun r j => T r j + (if j = col ∧ w ≤ r % 2 then mA s3 s8 b r else 0)) L ∧ (∀ q, q < 15 ∨ 23 ≤ q → s' q = s q) := by
  have hR := R
  obtain ⟨r1, r2, r3, r4, r5, r6, r7, r8, _⟩ := hR
  have B := r8 b hb
  obtain ⟨j1, hj1⟩ : ∃ j : Nat, s8 b 1 = j := ⟨(s8 b 1).toNat, by omega⟩
  obtain ⟨j2, hj2⟩ : ∃ j : Nat, s8 b 2 = j := ⟨(s8 b 2).toNat, by omega⟩
  have J1 := r5 j1 (by omega)
  have J2 := r5 j2 (by omega)
  have hlen : b < ks.length ∧ b < 1024 := by omega
  intro m
  induction m with
  | zero =>
    intro w f s T hw hf hs H
    obtain ⟨f, rfl⟩ : ∃ g, f = g + 1 := ⟨f - 1, by omega⟩
    unfold d_X4_addForces_2
    rw [if_pos (by omega), if_pos (by omega)]
    refine ⟨_, _, rfl, TSf_congr H (fun r j _ _ => ?_) (fun _ _ => rfl), fun _ _ => rfl⟩
    rw [if_neg (by omega), Int.add_zero]
  | succ m ih =>
    intro w f s T hw hf hs H
    obtain ⟨f, rfl⟩ : ∃ g, f = g + 1 := ⟨f - 1, by omega⟩
    unfold d_X4_addForces_2
    have dr := dfw_rng R hb w
    have e3 : ((w : Int) + 1) = ((w + 1 : Nat) : Int) := by omega
    rw [if_pos (by omega), if_neg (by omega), e_diff R hs h8 hb (by omega), Option.bind_some, Int.toNat_natCast, if_pos hlen, h8 b 1 (by decide), hj1, e_rowOf R hs (by omega), Option.bind_some, if_pos hlen, if_pos (by omega), hcol]
    obtain ⟨s1, a1, a2, a3⟩ := e_addf H (row := if s3 4 j1 = -1 then -1 else 2 * s3 4 j1 + w) (col := (col : Int)) (num := dfw s3 s8 b w) (by split <;> omega) (by have := H.1; omega)
    have hs1 : ∀ q, q < 13 → s1 q = s3 q := fun q hq => by rw [a3 q (by omega)]; exact hs q hq
    rw [a1, Option.bind_some, if_pos hlen, h8 b 2 (by decide), hj2, e_rowOf R hs1 (by omega), Option.bind_some, if_pos hlen, if_pos (by omega)]
    obtain ⟨s2, b1, b2, b3⟩ := e_addf a2 (row := if s3 4 j2 = -1 then -1 else 2 * s3 4 j2 + w) (col := (col : Int)) (num := - dfw s3 s8 b w) (by split <;> omega) (by have := H.1; omega)
    rw [b1, Option.bind_some, e3]
    obtain ⟨z, s', d1, d2, d3⟩ := ih (w + 1) f s2 _ (by omega) (by omega) (fun q hq => by rw [b3 q (by omega)]; exact hs1 q hq) b2
    refine ⟨z, s', d1, TSf_congr d2 (fun r j hr hj => ?_) (fun _ _ => rfl), fun q hq => by rw [d3 q hq, b3 q hq, a3 q hq]⟩
    have wc : w = 0 ∨ w = 1 := by omega
    unfold mA fq
    rw [hj1, hj2, Int.toNat_natCast, Int.toNat_natCast]
    by_cases jc : j = col
    · have e1 : ((r : Int) = (if s3 4 j1 = -1 then -1 else 2 * s3 4 j1 + w)) = (r % 2 = w ∧ s3 4 j1 = ((r / 2 : Nat) : Int)) := by
        apply propext
        split <;> omega
      have e2 : ((r : Int) = (if s3 4 j2 = -1 then -1 else 2 * s3 4 j2 + w)) = (r % 2 = w ∧ s3 4 j2 = ((r / 2 : Nat) : Int)) := by
        apply propext
        split <;> omega
      have e4 : ((j : Int) = col) = True := by simp [jc]
      have e5 : (j = col) = True := by simp [jc]
      simp only [e1, e2, e4, e5, and_true, true_and]
      by_cases rw_ : r % 2 = w
      · simp only [rw_, true_and]
        rw [if_neg (show ¬ (w + 1 ≤ w) by omega), if_pos (Nat.le_refl w)]
        by_cases q1 : s3 4 j1 = ((r / 2 : Nat) : Int)
        · rw [if_pos q1]
          by_cases q2 : s3 4 j2 = ((r / 2 : Nat) : Int)
          · rw [if_pos q2]
            simp only [if_pos q1, if_pos q2]
            omega
          · rw [if_neg q2]
            simp only [if_pos q1, if_neg q2]
            omega
        · rw [if_neg q1]
          by_cases q2 : s3 4 j2 = ((r / 2 : Nat) : Int)
          · rw [if_pos q2]
            simp only [if_neg q1, if_pos q2]
            omega
          · rw [if_neg q2]
            simp only [if_neg q1, if_neg q2]
            omega
      · simp only [rw_, false_and, ↓reduceIte]
        have e6 : (w + 1 ≤ r % 2) = (w ≤ r % 2) := by apply propext; omega
        simp only [e6]
    · have e4 : ((j : Int) = col) = False := by simp; omega
      have e5 : (j = col) = False := by simp [jc]
      simp only [e4, e5, and_false, false_and, ↓reduceIte]
theorem e_af {s3 s8 s7 : zZ} {ks : List Int} (R : ND s3 s8 ks s7) {s8' : zZ} (h8 : ∀ d i, i ≠ 5 → s8' d i = s8 d i) {b col : Nat} (hb : (b : Int) < s7 0 25) (hcol : s8' b 5 = col) {n c k : Nat} (hn : s7 0 21 * 2 = n) (hc : col < c) {D : Int} {L : Nat → Int} {s : zZ} {T : Nat → Nat → Int} (hs : ∀ q, q < 13 → s q = s3 q) (H : TSf s n c k D T L) : ∃ s', d_X4_addForces s s8' ks b = some s' ∧ TSf s' n c k D (fun r j => T r j + (if j = col then mA s3 s8 b r else 0)) L ∧ (∀ q, q < 15 ∨ 23 ≤ q → s' q = s q) := by
  obtain ⟨z, s', a1, a2, a3⟩ := e_af2 R h8 hb hcol hn hc 2 0 zF s T (by omega) (by unfold zF; omega) hs H
  unfold d_X4_addForces
  rw [show ((0 : Nat) : Int) = 0 from rfl] at a1
  rw [a1]
  refine ⟨s', rfl, TSf_congr a2 (fun r j _ _ => ?_) (fun _ _ => rfl), a3⟩
  have e : (j = col ∧ 0 ≤ r % 2) = (j = col) := by apply propext; omega
  simp only [e]
/-! columns of bars that are not cut -/
def cn (s8 : zZ) : Nat → Nat
  | 0 => 0
  | b + 1 => cn s8 b + (if s8 b 4 = 0 then 1 else 0)
theorem cn_le (s8 : zZ) : ∀ b : Nat, cn s8 b ≤ b := by
  intro b
  induction b with
  | zero => exact Nat.le_refl _
  | succ b ih =>
    show cn s8 b + (if s8 b 4 = 0 then 1 else 0) ≤ b + 1
    split <;> omega
theorem cn_mono (s8 : zZ) {a : Nat} : ∀ d : Nat, cn s8 a ≤ cn s8 (a + d) := by
  intro d
  induction d with
  | zero => exact Nat.le_refl _
  | succ d ih =>
    show cn s8 a ≤ cn s8 (a + d) + (if s8 (a + d) 4 = 0 then 1 else 0)
    omega
theorem cn_lt (s8 : zZ) {a b : Nat} (h : a < b) (h0 : s8 a 4 = 0) : cn s8 a < cn s8 b := by
  have h1 : cn s8 (a + 1) = cn s8 a + 1 := by
    show cn s8 a + (if s8 a 4 = 0 then 1 else 0) = _
    rw [if_pos h0]
  have h2 := cn_mono s8 (a := a + 1) (b - (a + 1))
  rw [show a + 1 + (b - (a + 1)) = b by omega] at h2
  omega
theorem cn_inj (s8 : zZ) {a b : Nat} (ha : s8 a 4 = 0) (hb : s8 b 4 = 0) (h : cn s8 a = cn s8 b) : a = b := by
  rcases Nat.lt_trichotomy a b with q | q | q
  · have := cn_lt s8 q ha; omega
  · exact q
  · have := cn_lt s8 q hb; omega
theorem e_gc {s3 s8 s7 : zZ} {ks : List Int} (R : ND s3 s8 ks s7) : ∀ (m k f : Nat) (t : zZ), ((k : Int) + m = s7 0 25) → m + 1 ≤ f → (∀ d i, i ≠ 5 → t d i = s8 d i) → (∀ d, d < k → t d 5 = if s8 d 4 = 0 then ((cn s8 d : Nat) : Int) else -1) → ∃ z t', d_X4_giveColumns_4 s3 ks f (cn s8 k : Nat) k t = some (((cn s8 (s7 0 25).toNat : Nat) : Int), z, t') ∧ (∀ d i, i ≠ 5 → t' d i = s8 d i) ∧ ∀ d : Nat, (d : Int) < s7 0 25 → t' d 5 = if s8 d 4 = 0 then ((cn s8 d : Nat) : Int) else -1 := by
  obtain ⟨r1, r2, r3, r4, r5, r6, r7, r8, _⟩ := R
  intro m
  induction m with
  | zero =>
    intro k f t hk hf h1 h2
    obtain ⟨f, rfl⟩ : ∃ g, f = g + 1 := ⟨f - 1, by omega⟩
    unfold d_X4_giveColumns_4
    rw [r3.1, if_pos (by omega), if_pos (by omega), show (s7 0 25).toNat = k by omega]
    exact ⟨_, _, rfl, h1, fun d hd => h2 d (by omega)⟩
  | succ m ih =>
    intro k f t hk hf h1 h2
    obtain ⟨f, rfl⟩ : ∃ g, f = g + 1 := ⟨f - 1, by omega⟩
    unfold d_X4_giveColumns_4
    have B := r8 k (by omega)
    have e3 : ((k : Int) + 1) = ((k + 1 : Nat) : Int) := by omega
    have u : ∀ v, upz t k 5 v k 4 = s8 k 4 := fun v => by rw [upz_at, if_pos rfl, if_neg (by decide)]; exact h1 k 4 (by decide)
    simp only [r3.1, r3.2.1, Int.toNat_natCast, e3, h1 k 4 (by decide), u]
    have st : ∀ v : Int, (v = if s8 k 4 = 0 then ((cn s8 k : Nat) : Int) else -1) → ∃ z t', d_X4_giveColumns_4 s3 ks f (cn s8 (k + 1) : Nat) (k + 1 : Nat) (upz t k 5 v) = some (((cn s8 (s7 0 25).toNat : Nat) : Int), z, t') ∧ (∀ d i, i ≠ 5 → t' d i = s8 d i) ∧ ∀ d : Nat, (d : Int) < s7 0 25 → t' d 5 = if s8 d 4 = 0 then ((cn s8 d : Nat) : Int) else -1 := by
      intro v hv
      refine ih (k + 1) f (upz t k 5 v) (by omega) (by omega) (fun d i hi => ?_) (fun d hd => ?_)
      · rw [upz_at]
        by_cases e : d = k
        · rw [if_pos e, if_neg hi, e]; exact h1 k i hi
        · rw [if_neg e]; exact h1 d i hi
      · rw [upz_at]
        by_cases e : d = k
        · rw [if_pos e, if_pos rfl, hv, e]
        · rw [if_neg e]; exact h2 d (by omega)
    have cs : cn s8 (k + 1) = cn s8 k + (if s8 k 4 = 0 then 1 else 0) := rfl
    by_cases g : s8 k 4 = 0
    · have c1 : (((cn s8 k : Nat) : Int) + 1) = ((cn s8 (k + 1) : Nat) : Int) := by rw [cs, if_pos g]; omega
      have S := st (cn s8 k : Nat) (by rw [if_pos g])
      clear st ih
      simp (disch := omega) only [↓if_pos, ↓if_neg]
      rw [c1]
      exact S
    · have c1 : (((cn s8 k : Nat) : Int) + 0) = ((cn s8 (k + 1) : Nat) : Int) := by rw [cs, if_neg g]; omega
      have S := st (-1) (by rw [if_neg g])
      clear st ih
      simp (disch := omega) only [↓if_pos, ↓if_neg]
      rw [c1]
      exact S
def Tb (s3 s8 : zZ) (k r j : Nat) : Int := tot (fun b => if s8 b 4 = 0 ∧ j = cn s8 b then mA s3 s8 b r else 0) k
theorem e_rk38 {s3 s8 s7 : zZ} {ks : List Int} (R : ND s3 s8 ks s7) {s8' : zZ} (h8 : ∀ d i, i ≠ 5 → s8' d i = s8 d i) (h5 : ∀ d : Nat, (d : Int) < s7 0 25 → s8' d 5 = if s8 d 4 = 0 then ((cn s8 d : Nat) : Int) else -1) {n c k : Nat} (hn : s7 0 21 * 2 = n) (hc : cn s8 (s7 0 25).toNat ≤ c) {D : Int} {L : Nat → Int} : ∀ (m b f : Nat) (s : zZ), ((b : Int) + m = s7 0 25) → m + 1 ≤ f → (∀ q, q < 13 → s q = s3 q) → TSf s n c k D (Tb s3 s8 b) L → ∃ z s', d_X4_reckon_38 s8' ks f b s = some (z, s') ∧ TSf s' n c k D (Tb s3 s8 (s7 0 25).toNat) L ∧ (∀ q, q < 15 ∨ 23 ≤ q → s' q = s q) := by
  have hR := R
  obtain ⟨r1, r2, r3, r4, r5, r6, r7, r8, _⟩ := hR
  intro m
  induction m with
  | zero =>
    intro b f s hb hf hs H
    obtain ⟨f, rfl⟩ : ∃ g, f = g + 1 := ⟨f - 1, by omega⟩
    unfold d_X4_reckon_38
    rw [hs 0 (by omega), r3.1, if_pos (by omega), if_pos (by omega), show (s7 0 25).toNat = b by omega]
    exact ⟨_, _, rfl, H, fun _ _ => rfl⟩
  | succ m ih =>
    intro b f s hb hf hs H
    obtain ⟨f, rfl⟩ : ∃ g, f = g + 1 := ⟨f - 1, by omega⟩
    unfold d_X4_reckon_38
    have B := r8 b (by omega)
    have e3 : ((b : Int) + 1) = ((b + 1 : Nat) : Int) := by omega
    simp only [hs 0 (by omega), hs 5 (by omega), r3.1, r3.2.1, Int.toNat_natCast, e3, h8 b 4 (by decide)]
    rw [if_pos (by omega), if_neg (by omega), if_pos (by omega), if_pos (by omega), if_pos (by omega)]
    by_cases g : s8 b 4 = 0
    · rw [if_neg (by omega), if_pos (by omega)]
      have lt : cn s8 b < cn s8 (s7 0 25).toNat := cn_lt s8 (by omega) g
      obtain ⟨s1, a1, a2, a3⟩ := e_af R h8 (b := b) (col := cn s8 b) (by omega) (by rw [h5 b (by omega), if_pos g]) hn (by omega) hs H
      rw [a1, Option.bind_some]
      obtain ⟨z, s2, b1, b2, b3⟩ := ih (b + 1) f s1 (by omega) (by omega) (fun q hq => by rw [a3 q (by omega)]; exact hs q hq) (TSf_congr a2 (fun r j _ _ => by
        show _ = tot (fun b => if s8 b 4 = 0 ∧ j = cn s8 b then mA s3 s8 b r else 0) b + (if s8 b 4 = 0 ∧ j = cn s8 b then mA s3 s8 b r else 0)
        have e : (s8 b 4 = 0 ∧ j = cn s8 b) = (j = cn s8 b) := by apply propext; exact ⟨fun h => h.2, fun h => ⟨g, h⟩⟩
        simp only [e]
        rfl) (fun _ _ => rfl))
      exact ⟨z, s2, b1, b2, fun q hq => by rw [b3 q hq, a3 q hq]⟩
    · rw [if_pos g]
      refine ih (b + 1) f s (by omega) (by omega) hs (TSf_congr H (fun r j _ _ => ?_) (fun _ _ => rfl))
      show _ = tot (fun b => if s8 b 4 = 0 ∧ j = cn s8 b then mA s3 s8 b r else 0) b + (if s8 b 4 = 0 ∧ j = cn s8 b then mA s3 s8 b r else 0)
      rw [if_neg (fun h => g h.1), Int.add_zero]
      rfl
