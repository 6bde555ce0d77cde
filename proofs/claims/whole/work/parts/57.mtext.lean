/-! the dome: its text -/
def cS (s : zZ) (a w : Int) : zZ := upz (upz s 0 9 a) 0 10 w
def mS (s : zZ) (a x : Int) : zZ := upz (upz s 0 9 a) 0 11 x
theorem upz_hit (s : zZ) (p i : Nat) (v : Int) : upz s p i v p i = v := by rw [upz_at, if_pos rfl, if_pos rfl]
theorem cS_9 (s : zZ) (a w : Int) : cS s a w 0 9 = a := by unfold cS; rw [upz_at, if_pos rfl, if_neg (by decide), upz_hit]
theorem cS_10 (s : zZ) (a w : Int) : cS s a w 0 10 = w := by unfold cS; rw [upz_hit]
theorem cS_8 (s : zZ) (a w : Int) : cS s a w 0 8 = s 0 8 := by unfold cS; rw [upz_at, if_pos rfl, if_neg (by decide), upz_at, if_pos rfl, if_neg (by decide)]
theorem cS_ne (s : zZ) (a w : Int) {q : Nat} (h : q ≠ 0) : cS s a w q = s q := by
  unfold cS
  rw [upz_ne _ _ _ _ h, upz_ne _ _ _ _ h]
theorem mS_9 (s : zZ) (a w : Int) : mS s a w 0 9 = a := by unfold mS; rw [upz_at, if_pos rfl, if_neg (by decide), upz_hit]
theorem mS_11 (s : zZ) (a w : Int) : mS s a w 0 11 = w := by unfold mS; rw [upz_hit]
theorem mS_10 (s : zZ) (a w : Int) : mS s a w 0 10 = s 0 10 := by unfold mS; rw [upz_at, if_pos rfl, if_neg (by decide), upz_at, if_pos rfl, if_neg (by decide)]
theorem mS_ne (s : zZ) (a w : Int) {q : Nat} (h : q ≠ 0) : mS s a w q = s q := by
  unfold mS
  rw [upz_ne _ _ _ _ h, upz_ne _ _ _ _ h]
theorem cS_u9 (s : zZ) (a w b : Int) : upz (cS s a w) 0 9 b = cS s b w := by
  funext q j
  simp only [cS, upz_at]
  grind
theorem cS_u10 (s : zZ) (a w b : Int) : upz (cS s a w) 0 10 b = cS s a b := by
  funext q j
  simp only [cS, upz_at]
  grind
theorem cS_u (s : zZ) (a w b : Int) {p : Nat} (h : p ≠ 0) (i : Nat) : upz (cS s a w) p i b = cS (upz s p i b) a w := by
  funext q j
  simp only [cS, upz_at]
  grind
theorem mS_u9 (s : zZ) (a w b : Int) : upz (mS s a w) 0 9 b = mS s b w := by
  funext q j
  simp only [mS, upz_at]
  grind
theorem mS_u11 (s : zZ) (a w b : Int) : upz (mS s a w) 0 11 b = mS s a b := by
  funext q j
  simp only [mS, upz_at]
  grind
theorem mS_u (s : zZ) (a w b : Int) {p : Nat} (h : p ≠ 0) (i : Nat) : upz (mS s a w) p i b = mS (upz s p i b) a w := by
  funext q j
  simp only [mS, upz_at]
  grind
def CC (s : zZ) (m : Nat) (c : Nat → Int) : Prop := s 0 8 = m ∧ ∀ j, j < m → s 4 j = c j
def MM (s : zZ) (base m : Nat) (c : Nat → Int) : Prop := s 0 10 = ((base + m : Nat) : Int) ∧ ∀ j, j < m → s 3 (base + j) = c j
def CK (base m : Nat) (c : Nat → Int) : Prop := m ≤ 60 ∧ base + m ≤ 240 ∧ ∀ j, j < m → zr (c j)
def rdN (c : Nat → Int) (m : Nat) : Nat → Nat → Int → Int × Nat
  | 0, A, v => (v, A)
  | k + 1, A, v => if A < m ∧ 48 ≤ c A ∧ c A ≤ 57 then rdN c m k (A + 1) (10 * v + c A - 48) else (v, A)
theorem rdN_rng (c : Nat → Int) (m : Nat) : ∀ (k A : Nat) (v : Int), 0 ≤ v → A ≤ m → A ≤ (rdN c m k A v).2 ∧ (rdN c m k A v).2 ≤ m ∧ 0 ≤ (rdN c m k A v).1 ∧ (rdN c m k A v).1 + 1 ≤ (v + 1) * 10 ^ k := by
  intro k
  induction k with
  | zero => intro A v hv hA; exact ⟨Nat.le_refl _, hA, hv, by show v + 1 ≤ (v + 1) * 10 ^ 0; omega⟩
  | succ k ih =>
    intro A v hv hA
    unfold rdN
    by_cases h : A < m ∧ 48 ≤ c A ∧ c A ≤ 57
    · rw [if_pos h]
      have := ih (A + 1) (10 * v + c A - 48) (by omega) (by omega)
      refine ⟨by omega, this.2.1, this.2.2.1, ?_⟩
      have h1 : (10 * v + c A - 48 + 1) * 10 ^ k ≤ (10 * (v + 1)) * 10 ^ k := Int.mul_le_mul_of_nonneg_right (by omega) (Int.pow_nonneg (by decide))
      have h2 : (v + 1) * 10 ^ (k + 1) = (10 * (v + 1)) * 10 ^ k := by rw [Int.pow_succ, Int.mul_comm 10 (v + 1), Int.mul_assoc, Int.mul_comm 10]
      omega
    · rw [if_neg h]
      refine ⟨Nat.le_refl _, hA, hv, ?_⟩
      have h1 : (v + 1) * 1 ≤ (v + 1) * 10 ^ (k + 1) := Int.mul_le_mul_of_nonneg_left (Int.pow_pos (by decide)) (by omega)
      show v + 1 ≤ _
      omega
theorem e_rn_loop {s : zZ} {base m : Nat} {c : Nat → Int} (K : CK base m c) (C : CC s m c) {lo hi w : Int} {st : Nat} (hst : st ≤ m) : ∀ (k A : Nat) (v : Int) (f : Nat), A + k = st + 3 → A ≤ m → k + 1 ≤ f → d_X2_readNumber_8 lo hi st f v (cS s A w) = some ((rdN c m k A v).1, cS s (rdN c m k A v).2 w) := by
  obtain ⟨K1, K2, K3⟩ := K
  obtain ⟨C1, C2⟩ := C
  intro k
  induction k with
  | zero =>
    intro A v f hA h1 hf
    obtain ⟨f, rfl⟩ : ∃ g, f = g + 1 := ⟨f - 1, by omega⟩
    unfold d_X2_readNumber_8
    simp only [cS_9, cS_8, C1]
    rw [if_pos (by omega)]
    by_cases q : (m : Int) ≤ A
    · rw [if_pos q]; rfl
    · rw [if_neg q, if_pos (by omega), if_pos (by omega)]; rfl
  | succ k ih =>
    intro A v f hA h1 hf
    obtain ⟨f, rfl⟩ : ∃ g, f = g + 1 := ⟨f - 1, by omega⟩
    unfold d_X2_readNumber_8 rdN
    simp only [cS_9, cS_8, C1, Int.toNat_natCast, cS_ne s A w (show 4 ≠ 0 by decide), cS_u9]
    rw [if_pos (by omega)]
    by_cases q : (m : Int) ≤ A
    · rw [if_pos q, if_neg (by omega)]
    · have e := C2 A (by omega)
      have z := K3 A (by omega)
      rw [if_neg q, if_pos (by omega), if_neg (by omega), if_pos (by omega), e, if_pos z]
      by_cases q1 : c A < 48
      · rw [if_pos q1, if_neg (by omega)]
      · rw [if_neg q1, if_pos (by omega), if_pos z]
        by_cases q2 : 57 < c A
        · rw [if_pos q2, if_neg (by omega)]
        · rw [if_neg q2, if_pos (by omega), if_pos (by omega)]
          have e1 : ((A : Int) + 1) = ((A + 1 : Nat) : Int) := by omega
          rw [e1]
          exact ih (A + 1) _ f (by omega) (by omega) (by omega)
theorem e_wrong {s : zZ} {a w pl : Int} (hw : zr w) : d_X2_wrongAt (cS s a w) pl = some (cS s a (if w = -1 then pl else w)) := by
  unfold d_X2_wrongAt
  rw [cS_10, if_pos hw, cS_u10]
  by_cases h : w = -1
  · rw [if_neg (by omega), if_pos h]
  · rw [if_pos h, if_neg h]
theorem e_rn {s : zZ} {base m : Nat} {c : Nat → Int} (K : CK base m c) (C : CC s m c) {lo hi w v : Int} (hw : zr w) (hlo : zr lo) (hhi : zr hi) {A B : Nat} (hA : A ≤ m) (hN : rdN c m 3 A 0 = (v, B)) : d_X2_readNumber (cS s A w) lo hi = some (v, cS s B (if B ≠ A ∧ lo ≤ v ∧ v ≤ hi then w else if w = -1 then (A : Int) else w)) := by
  have K1 := K.1
  have r := rdN_rng c m 3 A 0 (by decide) hA
  rw [hN] at r
  simp only at r
  unfold d_X2_readNumber
  rw [cS_9, e_rn_loop K C hA 3 A 0 zF (by omega) hA (by unfold zF; omega), hN]
  simp only [Option.bind_some, cS_9]
  rw [if_pos (by omega)]
  by_cases q1 : (B : Int) = A
  · rw [if_pos q1, e_wrong hw, if_neg (show ¬ (B ≠ A ∧ lo ≤ v ∧ v ≤ hi) by omega)]
    rfl
  · rw [if_neg q1, if_pos (by omega)]
    by_cases q2 : v < lo
    · rw [if_pos q2, e_wrong hw, if_neg (show ¬ (B ≠ A ∧ lo ≤ v ∧ v ≤ hi) by omega)]
      rfl
    · rw [if_neg q2, if_pos (by omega)]
      by_cases q3 : v ≤ hi
      · rw [if_pos q3, if_pos (by omega)]
      · rw [if_neg q3, e_wrong hw, if_neg (show ¬ (B ≠ A ∧ lo ≤ v ∧ v ≤ hi) by omega)]
        rfl
theorem e_code {t : zZ} {base m : Nat} {c : Nat → Int} (K : CK base m c) (M : MM t base m c) {A : Nat} (hA : A ≤ m) (x : Int) : d_X12_codeAt (mS t (base + A : Nat) x) = some (if A < m then c A else -9) := by
  obtain ⟨K1, K2, K3⟩ := K
  obtain ⟨M1, M2⟩ := M
  unfold d_X12_codeAt
  rw [mS_9, mS_10, M1, mS_ne t _ _ (by decide), Int.toNat_natCast, if_pos (by omega)]
  by_cases q : A < m
  · rw [if_neg (by omega), if_pos (by omega), if_pos q, M2 A q]
  · rw [if_pos (by omega), if_neg q]
theorem e_nm_loop {t : zZ} {base m : Nat} {c : Nat → Int} (K : CK base m c) (M : MM t base m c) {lo hi x : Int} {st : Nat} (hst : st ≤ m) : ∀ (k A : Nat) (v : Int) (f : Nat), A + k = st + 3 → A ≤ m → k + 1 ≤ f → d_X12_number_8 lo hi (base + st : Nat) f v (mS t (base + A : Nat) x) = some ((rdN c m k A v).1, mS t (base + (rdN c m k A v).2 : Nat) x) := by
  have K1 := K.1
  have K2 := K.2.1
  intro k
  induction k with
  | zero =>
    intro A v f hA h1 hf
    obtain ⟨f, rfl⟩ : ∃ g, f = g + 1 := ⟨f - 1, by omega⟩
    unfold d_X12_number_8
    rw [mS_9, if_pos (by omega), if_pos (by omega)]
    rfl
  | succ k ih =>
    intro A v f hA h1 hf
    obtain ⟨f, rfl⟩ : ∃ g, f = g + 1 := ⟨f - 1, by omega⟩
    unfold d_X12_number_8 rdN
    rw [mS_9, if_pos (by omega), if_neg (by omega), e_code K M h1]
    simp only [Option.bind_some, mS_u9]
    by_cases q : A < m
    · have z := K.2.2 A q
      rw [if_pos q, if_pos z, e_X12_within (by omega), Option.bind_some, if_pos (by omega)]
      by_cases q1 : 48 ≤ c A ∧ c A ≤ 57
      · rw [if_neg (by omega), if_pos ⟨q, q1⟩]
        have e1 : (((base + A : Nat) : Int) + 1) = ((base + (A + 1) : Nat) : Int) := by omega
        rw [e1]
        exact ih (A + 1) _ f (by omega) (by omega) (by omega)
      · rw [if_pos (by omega), if_neg (by omega)]
    · rw [if_neg q, if_pos (by omega), e_X12_within (by omega), Option.bind_some, if_pos (by omega), if_pos (by omega), if_neg (by omega)]
theorem e_nm {t : zZ} {base m : Nat} {c : Nat → Int} (K : CK base m c) (M : MM t base m c) {lo hi v x : Int} (hlo : zr lo) (hhi : zr hi) {A B : Nat} (hA : A ≤ m) (hN : rdN c m 3 A 0 = (v, B)) : d_X12_number (mS t (base + A : Nat) x) lo hi = some (if B ≠ A ∧ lo ≤ v ∧ v ≤ hi then (v, mS t (base + B : Nat) x) else (-1, mS t (base + B : Nat) (base + A : Nat))) := by
  have K1 := K.1
  have K2 := K.2.1
  have r := rdN_rng c m 3 A 0 (by decide) hA
  rw [hN] at r
  simp only at r
  unfold d_X12_number
  rw [mS_9, e_nm_loop K M hA 3 A 0 zF (by omega) hA (by unfold zF; omega), hN]
  simp only [Option.bind_some, mS_9, mS_u11]
  rw [if_pos (by omega)]
  by_cases q1 : B = A
  · rw [if_pos (by omega), if_neg (by omega)]
  · rw [if_neg (by omega), if_pos (by omega), if_pos hlo, if_pos hhi, e_X12_within (by omega), Option.bind_some, if_pos (by omega)]
    by_cases q2 : lo ≤ v ∧ v ≤ hi
    · rw [if_pos (by omega), if_pos ⟨q1, q2⟩]
    · rw [if_neg (by omega), if_neg (fun q => q2 q.2)]
theorem e_so {s : zZ} {base m : Nat} {c : Nat → Int} (K : CK base m c) (C : CC s m c) {w code : Int} (hcd : zr code) {A : Nat} (hA : A ≤ m) : d_X2_stepOver (cS s A w) code = some (if A < m ∧ c A = code then (1, cS s (A + 1 : Nat) w) else (0, cS s A w)) := by
  obtain ⟨K1, K2, K3⟩ := K
  obtain ⟨C1, C2⟩ := C
  unfold d_X2_stepOver
  simp only [cS_9, cS_8, C1, Int.toNat_natCast, cS_ne s A w (show 4 ≠ 0 by decide), cS_u9]
  rw [if_pos (by omega), if_neg (by omega), if_pos (by omega)]
  by_cases q : A < m
  · have e := C2 A q
    have z := K3 A q
    rw [if_neg (by omega), if_pos (by omega), e, if_pos ⟨z, hcd⟩]
    by_cases q1 : c A = code
    · rw [if_pos q1, if_pos ⟨q, q1⟩]
      rfl
    · rw [if_neg q1, if_neg (fun q => q1 q.2)]
  · rw [if_pos (by omega), if_neg (fun h => q h.1)]
theorem e_need {s : zZ} {base m : Nat} {c : Nat → Int} (K : CK base m c) (C : CC s m c) {code : Int} (hcd : zr code) {A : Nat} (hA : A ≤ m) : d_X2_need (cS s A (-1)) code = some (if A < m ∧ c A = code then cS s (A + 1 : Nat) (-1) else cS s A A) := by
  unfold d_X2_need
  rw [cS_10, if_pos (by omega), if_neg (by omega), e_so K C hcd hA, Option.bind_some]
  by_cases q : A < m ∧ c A = code
  · rw [if_pos q, if_pos q]
    rfl
  · rw [if_neg q, if_neg q]
    simp only []
    rw [if_pos (by omega), if_neg (by omega), e_wrong (by omega), cS_9]
    rfl
theorem e_need_w {s : zZ} {w code a : Int} (hw : zr w) (h : w ≠ -1) : d_X2_need (cS s a w) code = some (cS s a w) := by
  unfold d_X2_need
  rw [cS_10, if_pos hw, if_pos h]
theorem e_isc {t : zZ} {base m : Nat} {c : Nat → Int} (K : CK base m c) (M : MM t base m c) {code x : Int} (hcd : zr code) (h9 : code ≠ -9) {A : Nat} (hA : A ≤ m) : d_X12_isCode (mS t (base + A : Nat) x) code = some (if A < m ∧ c A = code then (1, mS t (base + (A + 1) : Nat) x) else (0, mS t (base + A : Nat) (base + A : Nat))) := by
  have K1 := K.1
  have K2 := K.2.1
  unfold d_X12_isCode
  rw [e_code K M hA, Option.bind_some, mS_9, mS_10, M.1, mS_u11, mS_u9]
  by_cases q : A < m
  · have z := K.2.2 A q
    rw [if_pos q, if_pos ⟨z, hcd⟩]
    by_cases q1 : c A = code
    · rw [if_neg (by omega), if_pos (by omega), if_neg (by omega), if_pos ⟨q, q1⟩]
      rfl
    · rw [if_pos q1, if_neg (fun q => q1 q.2)]
  · rw [if_neg q, if_pos (by omega), if_pos (by omega), if_neg (fun h => q h.1)]
def DD (s s' : zZ) : Prop := ∀ q, q ≠ 5 → q ≠ 6 → q ≠ 7 → s' q = s q
def MD (t t' : zZ) : Prop := (∀ q, q ≠ 0 → q ≠ 4 → q ≠ 5 → q ≠ 6 → t' q = t q) ∧ (∀ q j, q ≠ 0 → j < 8 → t' q j = t q j) ∧ ∀ j, j ≠ 9 → j ≠ 11 → t' 0 j = t 0 j
def IT (s t : zZ) (it : Nat) : Prop := ∀ j, j < it → s 5 j = t 4 (8 + j) ∧ s 6 j = t 5 (8 + j) ∧ s 7 j = t 6 (8 + j) ∧ 0 ≤ s 5 j ∧ s 5 j ≤ 99 ∧ 1 ≤ s 6 j ∧ s 6 j ≤ 99 ∧ 0 ≤ s 7 j ∧ s 7 j ≤ 999
theorem DD_refl (s : zZ) : DD s s := fun _ _ _ _ => rfl
theorem DD_upz {s s' : zZ} {p i : Nat} {v : Int} (h : p = 5 ∨ p = 6 ∨ p = 7) (k : DD s s') : DD s (upz s' p i v) := fun q a b c => by rw [upz_ne _ _ _ _ (by omega)]; exact k q a b c
theorem DD_trans {s s' s'' : zZ} (h : DD s s') (k : DD s' s'') : DD s s'' := fun q a b c => (k q a b c).trans (h q a b c)
theorem MD_refl (s : zZ) : MD s s := ⟨fun _ _ _ _ _ => rfl, fun _ _ _ _ => rfl, fun _ _ _ => rfl⟩
theorem MD_upz {s s' : zZ} {p i : Nat} {v : Int} (h : p = 4 ∨ p = 5 ∨ p = 6) (hi : 8 ≤ i) (k : MD s s') : MD s (upz s' p i v) := by
  refine ⟨fun q a b c d => by rw [upz_ne _ _ _ _ (by omega)]; exact k.1 q a b c d, fun q j a b => ?_, fun j a b => by rw [upz_ne _ _ _ _ (by omega)]; exact k.2.2 j a b⟩
  rw [upz_at]
  by_cases e : q = p
  · rw [if_pos e, if_neg (by omega), ← e]
    exact k.2.1 q j a b
  · rw [if_neg e]
    exact k.2.1 q j a b
theorem MD_mS {s s' : zZ} {a x : Int} (k : MD s s') : MD s (mS s' a x) := by
  refine ⟨fun q a b c d => by rw [mS_ne _ _ _ a]; exact k.1 q a b c d, fun q j a b => by rw [mS_ne _ _ _ a]; exact k.2.1 q j a b, fun j a b => ?_⟩
  unfold mS
  rw [upz_at, if_pos rfl, if_neg b, upz_at, if_pos rfl, if_neg a]
  exact k.2.2 j a b
theorem MD_trans {s s' s'' : zZ} (h : MD s s') (k : MD s' s'') : MD s s'' := ⟨fun q a b c d => (k.1 q a b c d).trans (h.1 q a b c d), fun q j a b => (k.2.1 q j a b).trans (h.2.1 q j a b), fun j a b => (k.2.2 j a b).trans (h.2.2 j a b)⟩
theorem CC_DD {s s' : zZ} {m : Nat} {c : Nat → Int} (h : DD s s') (C : CC s m c) : CC s' m c := by
  unfold CC
  rw [h 0 (by decide) (by decide) (by decide), h 4 (by decide) (by decide) (by decide)]
  exact C
theorem MM_MD {s s' : zZ} {base m : Nat} {c : Nat → Int} (h : MD s s') (M : MM s base m c) : MM s' base m c := by
  unfold MM
  rw [h.2.2 10 (by decide) (by decide), h.1 3 (by decide) (by decide) (by decide) (by decide)]
  exact M
/-- the class goes on after a wrong code: nothing but its readings and its place changes -/
theorem e_item_w1 {s : zZ} {base m it : Nat} {c : Nat → Int} (K : CK base m c) (hit : it < 8) (C : CC s m c) {A : Nat} (hA : A ≤ m) {w v : Int} (hw : zr w) (h : w ≠ -1) : ∃ (s' : zZ) (A' : Nat), A' ≤ m ∧ DD s s' ∧ ((d_X2_need (upz (cS s A w) 5 (it : Int).toNat v) 44).bind fun y5 => (d_X2_readNumber y5 1 99).bind fun y7 => if (0 ≤ (it : Int) ∧ (it : Int) < 8) then (if (0 ≤ (it : Int) ∧ (it : Int) < 8) then (if (zr ((upz (upz y7.2 6 (it : Int).toNat y7.1) 7 (it : Int).toNat 0) 0 10)) then (if ((upz (upz y7.2 6 (it : Int).toNat y7.1) 7 (it : Int).toNat 0) 0 10) ≠ (-1) then some (upz (upz y7.2 6 (it : Int).toNat y7.1) 7 (it : Int).toNat 0) else ((d_X2_stepOver (upz (upz y7.2 6 (it : Int).toNat y7.1) 7 (it : Int).toNat 0) 119).bind fun y10 => if (zr y10.1) then (if y10.1 = 0 then some y10.2 else ((d_X2_readNumber y10.2 0 999).bind fun y13 => if (0 ≤ (it : Int) ∧ (it : Int) < 8) then some (upz y13.2 7 (it : Int).toNat y13.1) else none)) else none)) else none) else none) else none) = some (cS s' A' w) := by
  obtain ⟨v2, B, hN⟩ : ∃ v2 B, rdN c m 3 A 0 = (v2, B) := ⟨_, _, rfl⟩
  have r := rdN_rng c m 3 A 0 (by decide) hA
  rw [hN] at r
  simp only at r
  have C' := CC_DD (DD_upz (i := it) (v := v) (Or.inl rfl) (DD_refl s)) C
  simp only [Int.toNat_natCast, cS_u s _ _ _ (show 5 ≠ 0 by decide)]
  rw [e_need_w hw h, Option.bind_some, e_rn K C' hw (by omega) (by omega) hA hN, Option.bind_some]
  rw [if_neg h, ite_self]
  simp only [cS_u _ _ _ _ (show 6 ≠ 0 by decide), cS_u _ _ _ _ (show 7 ≠ 0 by decide), cS_10]
  rw [if_pos (by omega), if_pos (by omega), if_pos hw, if_pos h]
  refine ⟨_, B, r.2.1, ?_, rfl⟩
  exact DD_upz (by omega) (DD_upz (by omega) (DD_upz (by omega) (DD_refl s)))
set_option maxRecDepth 20000 in
theorem e_item {s t : zZ} {base m it : Nat} {c : Nat → Int} (K : CK base m c) (hit : it < 8) (C : CC s m c) (M : MM t base m c) {A : Nat} (hA : A ≤ m) (x : Int) (I : IT s t it) : ∃ rc rm, d_X2_readItem (cS s A (-1)) it = some rc ∧ d_X12_isItem (mS t (base + A : Nat) x) (8 + it) = some rm ∧ ((∃ (s' t' : zZ) (A' : Nat), A' ≤ m ∧ rc = cS s' A' (-1) ∧ rm = (1, mS t' (base + A' : Nat) x) ∧ DD s s' ∧ MD t t' ∧ IT s' t' (it + 1)) ∨ (∃ (s' t' : zZ) (A' k : Nat), A' ≤ m ∧ k ≤ m ∧ rc = cS s' A' k ∧ rm = (0, t') ∧ t' 0 11 = ((base + k : Nat) : Int) ∧ DD s s' ∧ MD t t')) := by
  have K1 := K.1
  have K2 := K.2.1
  have e8 : (8 + (it : Int)).toNat = 8 + it := by omega
  have f1 : 0 ≤ (it : Int) ∧ (it : Int) < 8 := by omega
  have f2 : 0 ≤ 8 + (it : Int) ∧ 8 + (it : Int) < 16 := by omega
  have z1 : zr (1 : Int) := by omega
  have z0 : zr (0 : Int) := by omega
  have zm : zr (-1 : Int) := by omega
  have n1 : (1 : Int) ≠ 0 := by omega
  unfold d_X2_readItem d_X12_isItem
  rw [e_need K C (by omega) hA, e_isc K M (by omega) (by omega) hA]
  by_cases h1 : A < m ∧ c A = 114
  · rw [if_pos h1, if_pos h1, Option.bind_some, Option.bind_some]
    dsimp only
    rw [if_pos z1, if_pos n1]
    obtain ⟨o, A2, hN⟩ : ∃ v2 B, rdN c m 3 (A + 1) 0 = (v2, B) := ⟨_, _, rfl⟩
    have r := rdN_rng c m 3 (A + 1) 0 (by decide) (by omega)
    rw [hN] at r
    simp only at r
    rw [e_rn K C (by omega) (by omega) (by omega) (by omega) hN, e_nm K M (by omega) (by omega) (by omega) hN]
    by_cases h2 : A2 ≠ A + 1 ∧ 0 ≤ o ∧ o ≤ 99
    · rw [if_pos h2, if_pos h2, Option.bind_some, Option.bind_some]
      dsimp only
      rw [if_pos f1, if_pos f2, if_pos f2, Int.toNat_natCast, e8, cS_u _ _ _ _ (show 5 ≠ 0 by decide), mS_u _ _ _ _ (show 4 ≠ 0 by decide), mS_ne _ _ _ (show 4 ≠ 0 by decide), upz_hit, if_pos (show zr o by omega), if_neg (show ¬ (o < 0) by omega)]
      have D1 := DD_upz (i := it) (v := o) (Or.inl rfl) (DD_refl s)
      have N1 := MD_upz (i := 8 + it) (v := o) (Or.inl rfl) (by omega) (MD_refl t)
      have C1 := CC_DD D1 C
      have M1 := MM_MD N1 M
      rw [e_need K C1 (by omega) (by omega), e_isc K M1 (by omega) (by omega) (by omega)]
      by_cases h3 : A2 < m ∧ c A2 = 44
      · rw [if_pos h3, if_pos h3, Option.bind_some, Option.bind_some]
        dsimp only
        rw [if_pos z1, if_pos n1]
        obtain ⟨d, A3, hN2⟩ : ∃ v2 B, rdN c m 3 (A2 + 1) 0 = (v2, B) := ⟨_, _, rfl⟩
        have r2 := rdN_rng c m 3 (A2 + 1) 0 (by decide) (by omega)
        rw [hN2] at r2
        simp only at r2
        rw [e_rn K C1 (by omega) (by omega) (by omega) (by omega) hN2, e_nm K M1 (by omega) (by omega) (by omega) hN2]
        by_cases h4 : A3 ≠ A2 + 1 ∧ 1 ≤ d ∧ d ≤ 99
        · rw [if_pos h4, if_pos h4, Option.bind_some, Option.bind_some]
          dsimp only
          rw [if_pos f1, if_pos f1, cS_u _ _ _ _ (show 6 ≠ 0 by decide), cS_u _ _ _ _ (show 7 ≠ 0 by decide), cS_10, if_pos zm, if_neg (show ¬ ((-1 : Int) ≠ -1) by omega)]
          rw [if_pos f2, if_pos f2, mS_u _ _ _ _ (show 5 ≠ 0 by decide), mS_ne _ _ _ (show 5 ≠ 0 by decide), upz_hit, if_pos (show zr d by omega), if_pos (show 0 ≤ d by omega), if_pos f2, mS_u _ _ _ _ (show 6 ≠ 0 by decide)]
          have D2 := DD_upz (i := it) (v := 0) (Or.inr (Or.inr rfl)) (DD_upz (i := it) (v := d) (Or.inr (Or.inl rfl)) D1)
          have N2 := MD_upz (i := 8 + it) (v := 0) (Or.inr (Or.inr rfl)) (by omega) (MD_upz (i := 8 + it) (v := d) (Or.inr (Or.inl rfl)) (by omega) N1)
          have C2 := CC_DD D2 C
          have M2 := MM_MD N2 M
          have fin : ∀ w : Int, 0 ≤ w → w ≤ 999 → ∀ s3 t3 : zZ, (∀ j, s3 5 j = upz s 5 it o 5 j) → (∀ j, s3 6 j = upz s 6 it d 6 j) → (∀ j, s3 7 j = upz s 7 it w 7 j) → (∀ j, t3 4 j = upz t 4 (8 + it) o 4 j) → (∀ j, t3 5 j = upz t 5 (8 + it) d 5 j) → (∀ j, t3 6 j = upz t 6 (8 + it) w 6 j) → IT s3 t3 (it + 1) := by
            intro w w1 w2 s3 t3 g1 g2 g3 g4 g5 g6 j hj
            rw [g1, g2, g3, g4, g5, g6]
            simp only [upz_at]
            by_cases e : j = it
            · subst e
              simp only [↓reduceIte, true_and]
              omega
            · have := I j (by omega)
              simp (disch := omega) only [↓reduceIte, ↓if_pos, ↓if_neg]
              exact this
          rw [e_so K C2 (by omega) (by omega), e_code K M2 (by omega)]
          by_cases h5 : A3 < m ∧ c A3 = 119
          · rw [if_pos h5, if_pos h5.1, h5.2, Option.bind_some, Option.bind_some]
            dsimp only
            rw [if_pos z1, if_neg (show ¬ ((1 : Int) = 0) by omega), if_pos (show zr (119 : Int) by omega), if_neg (show ¬ ((119 : Int) ≠ 119) by omega)]
            obtain ⟨w, A4, hN3⟩ : ∃ v2 B, rdN c m 3 (A3 + 1) 0 = (v2, B) := ⟨_, _, rfl⟩
            have r3 := rdN_rng c m 3 (A3 + 1) 0 (by decide) (by omega)
            rw [hN3] at r3
            simp only at r3
            rw [mS_9, mS_u9, show (((base + A3 : Nat) : Int) + 1) = ((base + (A3 + 1) : Nat) : Int) by omega, e_rn K C2 (by omega) (by omega) (by omega) (by omega) hN3, e_nm K M2 (by omega) (by omega) (by omega) hN3]
            by_cases h6 : A4 ≠ A3 + 1 ∧ 0 ≤ w ∧ w ≤ 999
            · rw [if_pos h6, if_pos h6, Option.bind_some, Option.bind_some]
              dsimp only
              rw [if_pos f1, cS_u _ _ _ _ (show 7 ≠ 0 by decide), if_pos f2, if_pos f2, mS_u _ _ _ _ (show 6 ≠ 0 by decide), mS_ne _ _ _ (show 6 ≠ 0 by decide), upz_hit, if_pos (show zr w by omega), if_neg (show ¬ (w < 0) by omega)]
              refine ⟨_, _, rfl, rfl, Or.inl ⟨_, _, A4, r3.2.1, rfl, rfl, DD_upz (by omega) D2, MD_upz (by omega) (by omega) N2, ?_⟩⟩
              refine fin w (by omega) (by omega) _ _ ?_ ?_ ?_ ?_ ?_ ?_
              all_goals
                intro j
                simp only [upz_at]
                grind
            · rw [if_neg h6, if_neg h6, if_pos rfl, Option.bind_some, Option.bind_some]
              dsimp only
              rw [if_pos f1, cS_u _ _ _ _ (show 7 ≠ 0 by decide), if_pos f2, if_pos f2, mS_u _ _ _ _ (show 6 ≠ 0 by decide), mS_ne _ _ _ (show 6 ≠ 0 by decide), upz_hit, if_pos zm, if_pos (show (-1 : Int) < 0 by omega)]
              exact ⟨_, _, rfl, rfl, Or.inr ⟨_, _, A4, A3 + 1, r3.2.1, by omega, rfl, rfl, mS_11 _ _ _, DD_upz (by omega) D2, MD_mS (MD_upz (by omega) (by omega) N2)⟩⟩
          · have z9 : zr (if A3 < m then c A3 else -9) ∧ (if A3 < m then c A3 else -9) ≠ 119 := by
              by_cases q : A3 < m
              · have := K.2.2 A3 q
                rw [if_pos q]
                exact ⟨this, fun e => h5 ⟨q, e⟩⟩
              · rw [if_neg q]
                omega
            generalize (if A3 < m then c A3 else -9) = cd at z9 ⊢
            rw [if_neg h5, Option.bind_some, Option.bind_some]
            dsimp only
            rw [if_pos z0, if_pos (show (0 : Int) = 0 by omega), if_pos z9.1, if_pos z9.2, if_pos f2, mS_ne _ _ _ (show 6 ≠ 0 by decide), upz_hit, if_pos z0, if_neg (show ¬ ((0 : Int) < 0) by omega)]
            refine ⟨_, _, rfl, rfl, Or.inl ⟨_, _, A3, r2.2.1, rfl, rfl, D2, N2, ?_⟩⟩
            refine fin 0 (by omega) (by omega) _ _ ?_ ?_ ?_ ?_ ?_ ?_
            all_goals
              intro j
              simp only [upz_at]
              grind
        · rw [if_neg h4, if_neg h4, if_pos rfl, Option.bind_some, Option.bind_some]
          dsimp only
          rw [if_pos f1, if_pos f1, cS_u _ _ _ _ (show 6 ≠ 0 by decide), cS_u _ _ _ _ (show 7 ≠ 0 by decide), cS_10, if_pos (show zr ((A2 + 1 : Nat) : Int) by omega), if_pos (show ((A2 + 1 : Nat) : Int) ≠ -1 by omega)]
          rw [if_pos f2, if_pos f2, mS_u _ _ _ _ (show 5 ≠ 0 by decide), mS_ne _ _ _ (show 5 ≠ 0 by decide), upz_hit, if_pos zm, if_neg (show ¬ ((0 : Int) ≤ -1) by omega)]
          exact ⟨_, _, rfl, rfl, Or.inr ⟨_, _, A3, A2 + 1, r2.2.1, by omega, rfl, rfl, mS_11 _ _ _, DD_upz (by omega) (DD_upz (by omega) D1), MD_mS (MD_upz (by omega) (by omega) N1)⟩⟩
      · rw [if_neg h3, if_neg h3, Option.bind_some, Option.bind_some]
        dsimp only
        obtain ⟨d, A3, hN2⟩ : ∃ v2 B, rdN c m 3 A2 0 = (v2, B) := ⟨_, _, rfl⟩
        have r2 := rdN_rng c m 3 A2 0 (by decide) (by omega)
        rw [hN2] at r2
        simp only at r2
        rw [e_rn K C1 (by omega) (by omega) (by omega) (by omega) hN2, if_neg (show ¬ ((A2 : Int) = -1) by omega), ite_self, Option.bind_some]
        dsimp only
        rw [if_pos f1, if_pos f1, cS_u _ _ _ _ (show 6 ≠ 0 by decide), cS_u _ _ _ _ (show 7 ≠ 0 by decide), cS_10, if_pos (show zr (A2 : Int) by omega), if_pos (show (A2 : Int) ≠ -1 by omega), if_pos z0, if_neg (show ¬ ((0 : Int) ≠ 0) by omega)]
        exact ⟨_, _, rfl, rfl, Or.inr ⟨_, _, A3, A2, r2.2.1, by omega, rfl, rfl, mS_11 _ _ _, DD_upz (by omega) (DD_upz (by omega) D1), MD_mS N1⟩⟩
    · obtain ⟨s', A', a1, a2, a3⟩ := e_item_w1 (it := it) K hit C (A := A2) (by omega) (w := ((A + 1 : Nat) : Int)) (v := o) (by omega) (by omega)
      rw [if_neg h2, if_neg h2, if_pos rfl, Option.bind_some, Option.bind_some]
      dsimp only
      rw [if_pos f1, a3, if_pos f2, if_pos f2, e8, mS_u _ _ _ _ (show 4 ≠ 0 by decide), mS_ne _ _ _ (show 4 ≠ 0 by decide), upz_hit, if_pos zm, if_pos (show (-1 : Int) < 0 by omega)]
      exact ⟨_, _, rfl, rfl, Or.inr ⟨s', _, A', A + 1, a1, by omega, rfl, rfl, mS_11 _ _ _, a2, MD_mS (MD_upz (by omega) (by omega) (MD_refl t))⟩⟩
  · rw [if_neg h1, if_neg h1, Option.bind_some, Option.bind_some]
    dsimp only
    obtain ⟨o, A2, hN⟩ : ∃ v2 B, rdN c m 3 A 0 = (v2, B) := ⟨_, _, rfl⟩
    have r := rdN_rng c m 3 A 0 (by decide) (by omega)
    rw [hN] at r
    simp only at r
    rw [e_rn K C (by omega) (by omega) (by omega) (by omega) hN, if_neg (show ¬ ((A : Int) = -1) by omega), ite_self, Option.bind_some]
    dsimp only
    obtain ⟨s', A', a1, a2, a3⟩ := e_item_w1 (it := it) K hit C (A := A2) (by omega) (w := (A : Int)) (v := o) (by omega) (by omega)
    rw [if_pos f1, a3, if_pos z0, if_neg (show ¬ ((0 : Int) ≠ 0) by omega)]
    exact ⟨_, _, rfl, rfl, Or.inr ⟨s', _, A', A, a1, by omega, rfl, rfl, mS_11 _ _ _, a2, MD_mS (MD_refl t)⟩⟩
