/-! sheets and faults: class and model -/
theorem upz_at (s : zZ) (p i : Nat) (v : Int) (q j : Nat) : upz s p i v q j = if q = p then (if j = i then v else s p j) else s q j := by
  unfold upz
  by_cases h : q = p
  · rw [if_pos h, if_pos h]
  · rw [if_neg h, if_neg h]
def RSh (s6 : zZ) (ln sl ce : Nat → Int) : Prop := ∀ k, k < 4 → (-1 ≤ s6 7 k ∧ s6 7 k ≤ 60) ∧ (s6 7 k = -1 → ln k = -9) ∧ (s6 7 k ≠ -1 → ln k = s6 6 k ∧ sl k = s6 7 k ∧ 0 ≤ s6 6 k ∧ s6 6 k ≤ 2) ∧ (∀ j, j < 60 → ce (60 * k + j) = s6 (2 + k) j ∧ zr (ce (60 * k + j)))
theorem e_X6_isSheet {k : Int} (h : zr k) : d_X6_isSheet k = some (if 0 ≤ k ∧ k < 4 then 1 else 0) := by
  unfold d_X6_isSheet
  repeat' split
  all_goals first | rfl | (exfalso; omega)
theorem e_X12_within {v lo hi : Int} (h : zrl v ∧ zrl lo ∧ zrl hi) : d_X12_within v lo hi = some (if lo ≤ v ∧ v ≤ hi then 1 else 0) := by
  unfold d_X12_within
  repeat' split
  all_goals first | rfl | (exfalso; omega)
theorem e_X12_isSheet {k : Int} (h : zr k) : d_X12_isSheet k = some (if 0 ≤ k ∧ k < 4 then 1 else 0) := by
  unfold d_X12_isSheet
  rw [e_X12_within (by omega), if_pos h]
  simp only [Option.bind_some]
  repeat' split
  all_goals first | rfl | (exfalso; omega)
theorem e_X12_fails (s7 : zZ) (k : Int) : d_X12_fails s7 k = some (-10 - k, upz s7 0 0 k) := rfl
theorem e_X6_faultOfCell {s6 : zZ} {k i : Int} (hk : 0 ≤ k ∧ k < 4) (hi : zr i) (h : -1 ≤ s6 7 k.toNat ∧ s6 7 k.toNat ≤ 60) : d_X6_faultOfCell s6 k i = some (if s6 7 k.toNat = -1 then 1 else if 0 ≤ i ∧ i < s6 7 k.toNat then 0 else 3) := by
  unfold d_X6_faultOfCell
  rw [e_X6_isSheet (by omega)]
  simp only [Option.bind_some]
  repeat' split
  all_goals first | rfl | (exfalso; omega)
/-- what of the model's cells has stayed -/
def Fr (A B : List Nat) (s s' : zZ) : Prop := (∀ q, q ≠ 0 → q ∉ A → s' q = s q) ∧ (∀ j, j ∉ B → s' 0 j = s 0 j)
theorem Fr_refl (A B : List Nat) (s : zZ) : Fr A B s s := ⟨fun _ _ _ => rfl, fun _ _ => rfl⟩
theorem Fr_upz {A B : List Nat} {s s' : zZ} {p i : Nat} {v : Int} (h0 : p ≠ 0) (h1 : p ∈ A) (h : Fr A B s s') : Fr A B s (upz s' p i v) := by
  refine ⟨fun q a b => ?_, fun j hj => ?_⟩
  · rw [upz_ne _ _ _ _ (fun e => b (by rw [e]; exact h1))]
    exact h.1 q a b
  · rw [upz_ne _ _ _ _ (Ne.symm h0)]
    exact h.2 j hj
theorem Fr_upz0 {A B : List Nat} {s s' : zZ} {i : Nat} {v : Int} (h1 : i ∈ B) (h : Fr A B s s') : Fr A B s (upz s' 0 i v) := by
  refine ⟨fun q a b => ?_, fun j hj => ?_⟩
  · rw [upz_ne _ _ _ _ a]
    exact h.1 q a b
  · rw [upz_at, if_pos rfl, if_neg (fun e => hj (by rw [e]; exact h1))]
    exact h.2 j hj
theorem Fr_trans {A B : List Nat} {s s' s'' : zZ} (h : Fr A B s s') (k : Fr A B s' s'') : Fr A B s s'' := ⟨fun q a b => (k.1 q a b).trans (h.1 q a b), fun j hj => (k.2 j hj).trans (h.2 j hj)⟩
theorem Fr_mono {A B A' B' : List Nat} {s s' : zZ} (ha : ∀ q, q ∈ A → q ∈ A') (hb : ∀ q, q ∈ B → q ∈ B') (h : Fr A B s s') : Fr A' B' s s' := ⟨fun q a b => h.1 q a (fun z => b (ha q z)), fun j hj => h.2 j (fun z => hj (hb j z))⟩
theorem m_lose {s0 s6 s7 : zZ} {k : Int} (hk : zr k) (R : RSh s6 (s7 1) (s7 2) (s7 3)) : ∃ r s6' s7', d_X11_lose s0 s6 k = some (r, s6') ∧ d_X12_lose s7 k = some (r, s7') ∧ RSh s6' (s7' 1) (s7' 2) (s7' 3) ∧ Fr [1] [] s7 s7' := by
  unfold d_X11_lose d_X12_lose
  rw [e_X6_isSheet hk, e_X12_isSheet hk]
  simp only [Option.bind_some]
  by_cases h : 0 ≤ k ∧ k < 4
  · have hR := R k.toNat (by omega)
    unfold d_X6_drop
    rw [e_X6_isSheet hk]
    simp only [Option.bind_some, if_pos h]
    by_cases hl : s6 7 k.toNat = -1
    · have h1 := hR.2.1 hl
      simp (disch := omega) only [↓if_pos, ↓if_neg, ↓Option.bind_some]
      refine ⟨_, _, _, rfl, rfl, ?_, Fr_upz (by decide) (by decide) (Fr_refl _ _ _)⟩
      intro j hj
      have := R j hj
      simp only [upz_at]
      grind
    · have h1 := hR.2.2.1 hl
      simp (disch := omega) only [↓if_pos, ↓if_neg, ↓Option.bind_some]
      refine ⟨_, _, _, rfl, rfl, ?_, Fr_upz (by decide) (by decide) (Fr_refl _ _ _)⟩
      intro j hj
      have := R j hj
      simp only [upz_at]
      grind
  · simp (disch := omega) only [↓if_pos, ↓if_neg, ↓Option.bind_some]
    exact ⟨_, _, _, rfl, rfl, R, Fr_refl _ _ _⟩
theorem e_X6_cutToLane {k v : Int} (h : 0 ≤ k ∧ k ≤ 2) : d_X6_cutToLane k v = some (if k = 0 then v.bmod 256 else if k = 1 then v.bmod 65536 else v) := by
  unfold d_X6_cutToLane
  rw [if_pos (by omega)]
  repeat' split
  all_goals first | rfl | (exfalso; omega)
theorem bmod_zr {v : Int} (h : zr v) : zr (v.bmod 256) ∧ zr (v.bmod 65536) := by
  have h1 := @Int.le_bmod v 256 (by decide)
  have h2 := @Int.bmod_lt v 256 (by decide)
  have h3 := @Int.le_bmod v 65536 (by decide)
  have h4 := @Int.bmod_lt v 65536 (by decide)
  omega
theorem m_put {s0 s6 s7 : zZ} {k i v : Int} (hk : zr k) (hi : zr i) (hv : zr v) (R : RSh s6 (s7 1) (s7 2) (s7 3)) : ∃ r s0' s6' s7', d_X11_put s0 s6 k i v = some (r, s0', s6') ∧ d_X12_put s7 k i v = some (r, s7') ∧ s0' 0 6 = s7' 0 0 ∧ RSh s6' (s7' 1) (s7' 2) (s7' 3) ∧ Fr [3] [0] s7 s7' := by
  unfold d_X11_put d_X12_put
  rw [e_X6_isSheet hk, e_X12_isSheet hk]
  simp only [Option.bind_some]
  by_cases h : 0 ≤ k ∧ k < 4
  · have hR := R k.toNat (by omega)
    simp only [if_pos h]
    unfold d_X6_write
    rw [e_X6_faultOfCell h hi hR.1]
    simp only [Option.bind_some, e_X12_fails, d_X11_faultAnswer, upz_ne _ _ _ _ (show 1 ≠ 0 by decide), upz_ne _ _ _ _ (show 2 ≠ 0 by decide)]
    by_cases hl : s6 7 k.toNat = -1
    · have h1 := hR.2.1 hl
      simp (disch := omega) only [↓if_pos, ↓if_neg, ↓Option.bind_some]
      refine ⟨_, _, _, _, rfl, rfl, ?_, ?_, ?_⟩
      · simp only [upz_at]; grind
      · intro j hj
        have := R j hj
        simp only [upz_at]
        grind
      · repeat first | exact Fr_refl _ _ _ | refine Fr_upz0 (by decide) ?_ | refine Fr_upz (by decide) (by decide) ?_
    · have h1 := hR.2.2.1 hl
      have hb := bmod_zr hv
      rw [e_X12_within (by omega)]
      by_cases hin : 0 ≤ i ∧ i < s6 7 k.toNat
      · rw [e_X6_cutToLane (by omega)]
        by_cases l0 : s6 6 k.toNat = 0
        · simp (disch := omega) only [↓if_pos, ↓if_neg, ↓Option.bind_some]
          refine ⟨_, _, _, _, rfl, rfl, ?_, ?_, ?_⟩
          · simp only [upz_at]; grind
          · intro j hj
            have := R j hj
            simp only [upz_at]
            grind
          · repeat first | exact Fr_refl _ _ _ | refine Fr_upz0 (by decide) ?_ | refine Fr_upz (by decide) (by decide) ?_
        · by_cases l1 : s6 6 k.toNat = 1
          · simp (disch := omega) only [↓if_pos, ↓if_neg, ↓Option.bind_some]
            refine ⟨_, _, _, _, rfl, rfl, ?_, ?_, ?_⟩
            · simp only [upz_at]; grind
            · intro j hj
              have := R j hj
              simp only [upz_at]
              grind
            · repeat first | exact Fr_refl _ _ _ | refine Fr_upz0 (by decide) ?_ | refine Fr_upz (by decide) (by decide) ?_
          · simp (disch := omega) only [↓if_pos, ↓if_neg, ↓Option.bind_some]
            refine ⟨_, _, _, _, rfl, rfl, ?_, ?_, ?_⟩
            · simp only [upz_at]; grind
            · intro j hj
              have := R j hj
              simp only [upz_at]
              grind
            · repeat first | exact Fr_refl _ _ _ | refine Fr_upz0 (by decide) ?_ | refine Fr_upz (by decide) (by decide) ?_
      · simp (disch := omega) only [↓if_pos, ↓if_neg, ↓Option.bind_some]
        refine ⟨_, _, _, _, rfl, rfl, ?_, ?_, ?_⟩
        · simp only [upz_at]; grind
        · intro j hj
          have := R j hj
          simp only [upz_at]
          grind
        · repeat first | exact Fr_refl _ _ _ | refine Fr_upz0 (by decide) ?_ | refine Fr_upz (by decide) (by decide) ?_
  · simp (disch := omega) only [↓if_pos, ↓if_neg, ↓Option.bind_some]
    refine ⟨_, _, _, _, rfl, rfl, ?_, ?_, ?_⟩
    · simp only [upz_at]; grind
    · intro j hj
      have := R j hj
      simp only [upz_at]
      grind
    · repeat first | exact Fr_refl _ _ _ | refine Fr_upz0 (by decide) ?_ | refine Fr_upz (by decide) (by decide) ?_
theorem e_X6_isLane {k : Int} (h : zr k) : d_X6_isLane k = some (if 0 ≤ k ∧ k ≤ 2 then 1 else 0) := by
  unfold d_X6_isLane
  repeat' split
  all_goals first | rfl | (exfalso; omega)
theorem e_X12_isLane {k : Int} (h : zr k) : d_X12_isLane k = some (if 0 ≤ k ∧ k ≤ 2 then 1 else 0) := by
  unfold d_X12_isLane
  rw [e_X12_within (by omega), if_pos h]
  simp only [Option.bind_some]
  repeat' split
  all_goals first | rfl | (exfalso; omega)
theorem e_X12_lost (s7 : zZ) (k : Int) : d_X12_lost s7 k = some (-9223372036854775808, upz s7 0 0 k) := rfl
theorem e_X6_isOtherLane {s6 : zZ} {k lane : Int} (hk : 0 ≤ k ∧ k < 4) (hl : zr lane) (h : -1 ≤ s6 7 k.toNat ∧ s6 7 k.toNat ≤ 60) (h2 : s6 7 k.toNat ≠ -1 → zr (s6 6 k.toNat)) : d_X6_isOtherLane s6 k lane = some (if s6 7 k.toNat ≠ -1 ∧ s6 6 k.toNat ≠ lane then 1 else 0) := by
  unfold d_X6_isOtherLane
  rw [e_X6_isSheet (by omega)]
  simp only [Option.bind_some]
  repeat' split
  all_goals first | rfl | (exfalso; omega)
theorem m_cell {s0 s6 s7 : zZ} {k i lane : Int} (hk : zr k) (hi : zr i) (hv : zr lane) (R : RSh s6 (s7 1) (s7 2) (s7 3)) : ∃ r s0' s7', d_X11_cell s0 s6 k i lane = some (r, s0') ∧ d_X12_cell s7 k i lane = some (r, s7') ∧ s0' 0 6 = s7' 0 0 ∧ Fr [] [0] s7 s7' := by
  unfold d_X11_cell d_X12_cell
  rw [e_X6_isSheet hk, e_X12_isSheet hk]
  simp only [Option.bind_some]
  by_cases h : 0 ≤ k ∧ k < 4
  · have hR := R k.toNat (by omega)
    simp only [if_pos h]
    rw [e_X6_isLane hv, e_X12_isLane hv]
    by_cases hL : 0 ≤ lane ∧ lane ≤ 2
    · unfold d_X6_number
      rw [e_X6_faultOfCell h hi hR.1, e_X6_isOtherLane h hv hR.1 (fun q => by have := hR.2.2.1 q; omega)]
      simp only [Option.bind_some, e_X12_lost, if_pos hL, upz_ne _ _ _ _ (show 1 ≠ 0 by decide), upz_ne _ _ _ _ (show 2 ≠ 0 by decide), upz_ne _ _ _ _ (show 3 ≠ 0 by decide)]
      by_cases hl : s6 7 k.toNat = -1
      · have h1 := hR.2.1 hl
        simp (disch := omega) only [↓if_pos, ↓if_neg, ↓Option.bind_some]
        refine ⟨_, _, _, rfl, rfl, ?_, ?_⟩
        · simp only [upz_at]; grind
        · repeat first | exact Fr_refl _ _ _ | refine Fr_upz0 (by decide) ?_ | refine Fr_upz (by decide) (by decide) ?_
      · have h1 := hR.2.2.1 hl
        rw [e_X12_within (by omega)]
        by_cases hla : s6 6 k.toNat = lane
        · by_cases hin : 0 ≤ i ∧ i < s6 7 k.toNat
          · have h2 := hR.2.2.2 i.toNat (by omega)
            have e : 60 * k.toNat + i.toNat = (60 * k + i).toNat := by omega
            rw [e] at h2
            simp (disch := omega) only [↓if_pos, ↓if_neg, ↓Option.bind_some]
            refine ⟨_, _, _, rfl, by rw [h2.1], ?_, ?_⟩
            · simp only [upz_at]; grind
            · repeat first | exact Fr_refl _ _ _ | refine Fr_upz0 (by decide) ?_ | refine Fr_upz (by decide) (by decide) ?_
          · simp (disch := omega) only [↓if_pos, ↓if_neg, ↓Option.bind_some]
            refine ⟨_, _, _, rfl, rfl, ?_, ?_⟩
            · simp only [upz_at]; grind
            · repeat first | exact Fr_refl _ _ _ | refine Fr_upz0 (by decide) ?_ | refine Fr_upz (by decide) (by decide) ?_
        · simp (disch := omega) only [↓if_pos, ↓if_neg, ↓Option.bind_some]
          refine ⟨_, _, _, rfl, rfl, ?_, ?_⟩
          · simp only [upz_at]; grind
          · repeat first | exact Fr_refl _ _ _ | refine Fr_upz0 (by decide) ?_ | refine Fr_upz (by decide) (by decide) ?_
    · simp (disch := omega) only [↓if_pos, ↓if_neg, ↓Option.bind_some]
      refine ⟨_, _, _, rfl, rfl, ?_, ?_⟩
      · simp only [upz_at]; grind
      · repeat first | exact Fr_refl _ _ _ | refine Fr_upz0 (by decide) ?_ | refine Fr_upz (by decide) (by decide) ?_
  · simp (disch := omega) only [↓if_pos, ↓if_neg, ↓Option.bind_some]
    refine ⟨_, _, _, rfl, rfl, ?_, ?_⟩
    · simp only [upz_at]; grind
    · repeat first | exact Fr_refl _ _ _ | refine Fr_upz0 (by decide) ?_ | refine Fr_upz (by decide) (by decide) ?_
/-- laying a sheet -/
theorem e_sheet_loop (k lane n : Int) (hk : 0 ≤ k ∧ k < 4) : ∀ (m : Nat) (i : Nat) (f : Nat) (s7 : zZ), i + m = 60 → m + 1 ≤ f → ∃ s7', d_X12_sheet_57 k lane n f (i : Int) s7 = some (60, s7') ∧ (∀ q, q ≠ 3 → s7' q = s7 q) ∧ ∀ j, s7' 3 j = if 60 * k.toNat + i ≤ j ∧ j < 60 * k.toNat + 60 then 0 else s7 3 j := by
  intro m
  induction m with
  | zero =>
    intro i f s7 hi hf
    obtain ⟨f, rfl⟩ : ∃ g, f = g + 1 := ⟨f - 1, by omega⟩
    unfold d_X12_sheet_57
    rw [if_pos (by omega), if_pos (by omega), show (i : Int) = 60 by omega]
    exact ⟨_, rfl, fun _ _ => rfl, fun j => by rw [if_neg (by omega)]⟩
  | succ m ih =>
    intro i f s7 hi hf
    obtain ⟨f, rfl⟩ : ∃ g, f = g + 1 := ⟨f - 1, by omega⟩
    unfold d_X12_sheet_57
    rw [if_pos (by omega), if_neg (by omega), if_pos (by omega)]
    obtain ⟨s7', h1, h2, h3⟩ := ih (i + 1) f (upz s7 3 ((60 * k) + i).toNat 0) (by omega) (by omega)
    rw [show ((i : Int) + 1) = ((i + 1 : Nat) : Int) by omega, h1]
    refine ⟨s7', rfl, fun q hq => by rw [h2 q hq, upz_ne _ _ _ _ hq], fun j => ?_⟩
    rw [h3 j, upz_at, if_pos rfl]
    have e : ((60 * k) + (i : Int)).toNat = 60 * k.toNat + i := by omega
    rw [e]
    by_cases q : j = 60 * k.toNat + i
    · rw [if_neg (by omega), if_pos q, if_pos (by omega)]
    · by_cases q2 : 60 * k.toNat + (i + 1) ≤ j ∧ j < 60 * k.toNat + 60
      · rw [if_pos q2, if_pos (by omega)]
      · rw [if_neg q2, if_neg q, if_neg (by omega)]
theorem zfl_at (s : zZ) (p N : Nat) (v : Int) (q j : Nat) : zfl s p N v q j = if q = p then (if j < N then v else s p j) else s q j := by
  unfold zfl
  by_cases h : q = p
  · rw [if_pos h, if_pos h]
  · rw [if_neg h, if_neg h]
theorem m_sheet {s0 s6 s7 : zZ} {k lane n : Int} (hk : zr k) (hl : zr lane) (hn : zr n) (R : RSh s6 (s7 1) (s7 2) (s7 3)) : ∃ r s0' s6' s7', d_X11_sheet s0 s6 k lane n = some (r, s0', s6') ∧ d_X12_sheet s7 k lane n = some (r, s7') ∧ s0' 0 6 = s7' 0 0 ∧ RSh s6' (s7' 1) (s7' 2) (s7' 3) ∧ Fr [1, 2, 3] [0] s7 s7' := by
  unfold d_X11_sheet d_X12_sheet
  rw [e_X6_isSheet hk, e_X12_isSheet hk, e_X6_isLane hl, e_X12_isLane hl]
  simp only [Option.bind_some, e_X12_fails, d_X11_faultAnswer]
  by_cases h : 0 ≤ k ∧ k < 4
  · simp only [if_pos h]
    by_cases hL : 0 ≤ lane ∧ lane ≤ 2
    · simp only [if_pos hL]
      by_cases h6 : n ≤ 60
      · by_cases h0 : 0 ≤ n
        · unfold d_X6_begin
          rw [e_X6_isSheet hk]
          obtain ⟨s7', g1, g2, g3⟩ := e_sheet_loop k lane n h 60 0 zF (upz (upz (upz s7 0 0 0) 1 k.toNat lane) 2 k.toNat n) (by omega) (by decide)
          rw [show ((0 : Nat) : Int) = 0 from rfl] at g1
          rw [g1]
          simp (disch := omega) only [↓if_pos, ↓if_neg, ↓Option.bind_some]
          refine ⟨_, _, _, _, rfl, rfl, ?_, ?_, ?_⟩
          · rw [g2 0 (by decide)]
            simp only [upz_at]; grind
          · intro j hj
            have := R j hj
            have h3 := g3
            rw [g2 1 (by decide), g2 2 (by decide)]
            simp only [upz_at, zfl_at]
            refine ⟨by grind, by grind, by grind, fun i hi => ?_⟩
            rw [h3 (60 * j + i)]
            simp only [upz_at]
            have := this.2.2.2 i hi
            by_cases hjk : j = k.toNat
            · rw [if_pos (by omega)]
              grind
            · rw [if_neg (by omega)]
              grind
          · refine ⟨fun q a b => ?_, fun j hj => ?_⟩
            · have b1 : q ≠ 1 := fun e => b (by simp [e])
              have b2 : q ≠ 2 := fun e => b (by simp [e])
              have b3 : q ≠ 3 := fun e => b (by simp [e])
              rw [g2 q b3, upz_ne _ _ _ _ b2, upz_ne _ _ _ _ b1, upz_ne _ _ _ _ a]
            · rw [g2 0 (by decide), upz_ne _ _ _ _ (by decide), upz_ne _ _ _ _ (by decide), upz_at, if_pos rfl, if_neg (fun e => hj (by simp [e]))]
        · simp (disch := omega) only [↓if_pos, ↓if_neg, ↓Option.bind_some]
          refine ⟨_, _, _, _, rfl, rfl, ?_, ?_, ?_⟩
          · simp only [upz_at]; grind
          · intro j hj
            have := R j hj
            simp only [upz_at]
            grind
          · repeat first | exact Fr_refl _ _ _ | refine Fr_upz0 (by decide) ?_ | refine Fr_upz (by decide) (by decide) ?_
      · simp (disch := omega) only [↓if_pos, ↓if_neg, ↓Option.bind_some]
        refine ⟨_, _, _, _, rfl, rfl, ?_, ?_, ?_⟩
        · simp only [upz_at]; grind
        · intro j hj
          have := R j hj
          simp only [upz_at]
          grind
        · repeat first | exact Fr_refl _ _ _ | refine Fr_upz0 (by decide) ?_ | refine Fr_upz (by decide) (by decide) ?_
    · simp (disch := omega) only [↓if_pos, ↓if_neg, ↓Option.bind_some]
      refine ⟨_, _, _, _, rfl, rfl, ?_, ?_, ?_⟩
      · simp only [upz_at]; grind
      · intro j hj
        have := R j hj
        simp only [upz_at]
        grind
      · repeat first | exact Fr_refl _ _ _ | refine Fr_upz0 (by decide) ?_ | refine Fr_upz (by decide) (by decide) ?_
  · simp (disch := omega) only [↓if_pos, ↓if_neg, ↓Option.bind_some]
    refine ⟨_, _, _, _, rfl, rfl, ?_, ?_, ?_⟩
    · simp only [upz_at]; grind
    · intro j hj
      have := R j hj
      simp only [upz_at]
      grind
    · repeat first | exact Fr_refl _ _ _ | refine Fr_upz0 (by decide) ?_ | refine Fr_upz (by decide) (by decide) ?_
