/-! the net: a joint -/
theorem e_isPlace {x : Int} (h : zr x) : d_X4_isPlace x = some (if 0 ≤ x ∧ x ≤ 5 then 1 else 0) := by
  unfold d_X4_isPlace
  repeat' split
  all_goals first | rfl | (exfalso; omega)
/-- a net with a joint more -/
theorem ND_joint {s3 s8 s7 s3' s7' : zZ} {ks : List Int} (R : ND s3 s8 ks s7) {n : Nat} (hn : s7 0 20 = n) (h8 : n < 8) {x y fn fr' : Int} (hx : 0 ≤ x ∧ x ≤ 5) (hy : 0 ≤ y ∧ y ≤ 5) (new : ∀ j : Nat, (j : Int) < s7 0 20 → ¬ (s3 2 j = x ∧ s3 3 j = y)) (hf : (fn = -1 ∧ fr' = s7 0 21) ∨ (fn = s7 0 21 ∧ fr' = s7 0 21 + 1 ∧ s7 0 21 < 4)) (a0 : s3' 0 4 = n + 1 ∧ s3' 0 5 = fr' ∧ s3' 0 7 = s3 0 7 ∧ s3' 0 10 = 1) (a1 : s3' 1 = s3 1) (a2 : ∀ j, s3' 2 j = if j = n then x else s3 2 j) (a3 : ∀ j, s3' 3 j = if j = n then y else s3 3 j) (a4 : ∀ j, s3' 4 j = if j = n then fn else s3 4 j) (a5 : ∀ q, 5 ≤ q → s3' q = s3 q) (b0 : s7' 0 20 = n + 1 ∧ s7' 0 21 = fr' ∧ s7' 0 25 = s7 0 25 ∧ s7' 0 1 = s7 0 1) (b14 : ∀ j, s7' 14 j = if j = n then x else s7 14 j) (b15 : ∀ j, s7' 15 j = if j = n then y else s7 15 j) (b16 : ∀ j, s7' 16 j = if j = n then (if fn = -1 then -9 else fn) else s7 16 j) (b17 : ∀ q, 17 ≤ q → s7' q = s7 q) : ND s3' s8 ks s7' := by
  obtain ⟨r1, r2, r3, r4, r5, r6, r7, r8, r9, r10, r11, r12, r13⟩ := R
  unfold ND PVf PVg
  rw [b0.1, b0.2.1, b0.2.2.1, b0.2.2.2, a0.1, a0.2.1, a0.2.2.1, a0.2.2.2, a1, a5 5 (by omega), a5 13 (by omega), a5 14 (by omega), a5 24 (by omega), a5 25 (by omega), b17 17 (by omega), b17 18 (by omega), b17 19 (by omega), b17 20 (by omega), b17 21 (by omega)]
  refine ⟨⟨rfl, by omega, by omega⟩, ⟨rfl, by omega, by omega⟩, r3, r4, fun j hj => ?_, fun i j hi hj hij => ?_, fun f hf2 => ?_, fun b hb => ?_, r9, fun c k hc hk => ?_, r11, r12, Or.inr rfl⟩
  · rw [a2, a3, a4, b14, b15, b16]
    by_cases e : j = n
    · rw [if_pos e, if_pos e, if_pos e, if_pos e, if_pos e, if_pos e]
      refine ⟨rfl, hx.1, hx.2, rfl, hy.1, hy.2, ?_⟩
      by_cases q : fn = -1
      · exact Or.inl ⟨q, if_pos q⟩
      · rw [if_neg q]
        exact Or.inr ⟨by omega, by omega, rfl⟩
    · rw [if_neg e, if_neg e, if_neg e, if_neg e, if_neg e, if_neg e]
      have := r5 j (by omega)
      refine ⟨this.1, this.2.1, this.2.2.1, this.2.2.2.1, this.2.2.2.2.1, this.2.2.2.2.2.1, ?_⟩
      omega
  · rw [a2, a2, a3, a3, a4, a4]
    by_cases ei : i = n
    · rw [if_pos ei, if_pos ei, if_pos ei, if_neg (by omega), if_neg (by omega), if_neg (by omega)]
      have J := r5 j (by omega)
      have N := new j (by omega)
      refine ⟨fun h => by omega, fun h => N ⟨h.1.symm, h.2.symm⟩⟩
    · rw [if_neg ei, if_neg ei, if_neg ei]
      by_cases ej : j = n
      · rw [if_pos ej, if_pos ej, if_pos ej]
        have J := r5 i (by omega)
        refine ⟨fun h => by omega, new i (by omega)⟩
      · rw [if_neg ej, if_neg ej, if_neg ej]
        exact r6 i j (by omega) (by omega) hij
  · by_cases e : (f : Int) < s7 0 21
    · obtain ⟨j, j1, j2⟩ := r7 f e
      refine ⟨j, by omega, ?_⟩
      rw [a4, if_neg (by omega)]
      exact j2
    · refine ⟨n, by omega, ?_⟩
      rw [a4, if_pos rfl]
      omega
  · have B := r8 b hb
    refine ⟨B.1, B.2.1, ⟨B.2.2.1.1, B.2.2.1.2.1, by omega⟩, ⟨B.2.2.2.1.1, B.2.2.2.1.2.1, by omega⟩, B.2.2.2.2⟩
  · rw [a5 (7 + c) (by omega)]
    exact r10 c k hc hk
theorem m_joint {s0 s3 s8 s7 : zZ} {ks : List Int} {x y held : Int} (hx : zr x) (hy : zr y) (hh : held = 0 ∨ held = 1) (R : ND s3 s8 ks s7) : ∃ r s3' s7', d_X11_joint s0 s3 x y held = some (r, s3') ∧ d_X12_joint s7 x y held = some (r, s7') ∧ ND s3' s8 ks s7' ∧ (s3' = s3 ∨ s3' 0 10 = 1) ∧ Fr [14, 15, 16] [20, 21] s7 s7' := by
  have hR := R
  obtain ⟨r1, r2, r3, r4, r5, r6, r7, r8, r9, r10, r11, r12, r13⟩ := hR
  have off : ∀ (r : Int) (A : Option (Int × zZ)) (B : Option (Int × zZ)), A = some (r, s3) → B = some (r, s7) → ∃ r s3' s7', A = some (r, s3') ∧ B = some (r, s7') ∧ ND s3' s8 ks s7' ∧ (s3' = s3 ∨ s3' 0 10 = 1) ∧ Fr [14, 15, 16] [20, 21] s7 s7' := fun r A B a b => ⟨r, s3, s7, a, b, R, Or.inl rfl, Fr_refl _ _ _⟩
  unfold d_X11_joint d_X12_joint
  rw [e_isPlace hx, e_isPlace hy, e_X12_within (by omega), e_X12_within (by omega)]
  by_cases q1 : 0 ≤ x ∧ x ≤ 5
  · by_cases q2 : 0 ≤ y ∧ y ≤ 5
    · unfold d_X4_isTaken
      rcases e_taken R (held := held) hx hy (s7 0 20).toNat 0 zF zF (by omega) (by unfold zF; omega) (by unfold zF; omega) with ⟨_, t1, t2, _⟩ | ⟨z, w, t1, t2, t3⟩
      · rw [show ((0 : Nat) : Int) = 0 from rfl] at t1 t2
        rw [t1, t2]
        refine off (-3) _ _ ?_ ?_
        · simp (disch := omega) only [↓if_pos, ↓if_neg, ↓Option.bind_some]
        · simp (disch := omega) only [↓if_pos, ↓if_neg, ↓Option.bind_some]
      · rw [show ((0 : Nat) : Int) = 0 from rfl] at t1 t2
        rw [t1, t2]
        obtain ⟨n, hn⟩ : ∃ n : Nat, s7 0 20 = n := ⟨(s7 0 20).toNat, by omega⟩
        unfold d_X4_addJoint d_X4_hasRoomForJoint
        by_cases full : n = 8
        · refine off (-4) _ _ ?_ ?_
          · simp (disch := omega) only [↓if_pos, ↓if_neg, ↓Option.bind_some]
          · simp (disch := omega) only [↓if_pos, ↓if_neg, ↓Option.bind_some]
        · have h4 : s3 0 4 = n := by omega
          have h5 : s3 0 5 = s7 0 21 := r2.1
          rcases hh with rfl | rfl
          · by_cases ff : s7 0 21 = 4
            · refine off (-4) _ _ ?_ ?_
              · simp (disch := omega) only [↓if_pos, ↓if_neg, ↓Option.bind_some]
              · simp (disch := omega) only [↓if_pos, ↓if_neg, ↓Option.bind_some]
            · simp only [Option.bind_some, h4, hn, Int.toNat_natCast, upz_at]
              simp (disch := omega) only [↓if_pos, ↓if_neg, ↓Option.bind_some, Int.toNat_natCast]
              simp only [↓reduceIte]
              refine ⟨_, _, _, rfl, rfl, ND_joint R hn (by omega) q1 q2 (fun j hj => t3 j (Nat.zero_le _) hj) (fn := s7 0 21) (fr' := s7 0 21 + 1) (Or.inr ⟨rfl, rfl, by omega⟩) ⟨by simp only [upz_at]; grind, by simp only [upz_at]; grind, by simp only [upz_at]; grind, by simp only [upz_at]; grind⟩ (by rw [upz_ne _ _ _ _ (by omega), upz_ne _ _ _ _ (by omega), upz_ne _ _ _ _ (by omega), upz_ne _ _ _ _ (by omega), upz_ne _ _ _ _ (by omega), upz_ne _ _ _ _ (by omega), upz_ne _ _ _ _ (by omega)]) (fun j => by simp only [upz_at]; grind) (fun j => by simp only [upz_at]; grind) (fun j => by simp only [upz_at]; grind) (fun q hq => by rw [upz_ne _ _ _ _ (by omega), upz_ne _ _ _ _ (by omega), upz_ne _ _ _ _ (by omega), upz_ne _ _ _ _ (by omega), upz_ne _ _ _ _ (by omega), upz_ne _ _ _ _ (by omega), upz_ne _ _ _ _ (by omega)]) ⟨by simp only [upz_at]; grind, by simp only [upz_at]; grind, by simp only [upz_at]; grind, by simp only [upz_at]; grind⟩ (fun j => by simp only [upz_at]; grind) (fun j => by simp only [upz_at]; grind) (fun j => by simp only [upz_at]; grind) (fun q hq => by rw [upz_ne _ _ _ _ (by omega), upz_ne _ _ _ _ (by omega), upz_ne _ _ _ _ (by omega), upz_ne _ _ _ _ (by omega), upz_ne _ _ _ _ (by omega)]), Or.inr (by simp only [upz_at]; grind), (by repeat first | exact Fr_refl _ _ _ | refine Fr_upz0 (by decide) ?_ | refine Fr_upz (by decide) (by decide) ?_)⟩
          · simp only [Option.bind_some, h4, hn, Int.toNat_natCast, upz_at]
            simp (disch := omega) only [↓if_pos, ↓if_neg, ↓Option.bind_some, Int.toNat_natCast]
            simp only [↓reduceIte]
            refine ⟨_, _, _, rfl, rfl, ND_joint R hn (by omega) q1 q2 (fun j hj => t3 j (Nat.zero_le _) hj) (fn := -1) (fr' := s7 0 21) (Or.inl ⟨rfl, rfl⟩) ⟨by simp only [upz_at]; grind, by simp only [upz_at]; grind, by simp only [upz_at]; grind, by simp only [upz_at]; grind⟩ (by rw [upz_ne _ _ _ _ (by omega), upz_ne _ _ _ _ (by omega), upz_ne _ _ _ _ (by omega), upz_ne _ _ _ _ (by omega), upz_ne _ _ _ _ (by omega)]) (fun j => by simp only [upz_at]; grind) (fun j => by simp only [upz_at]; grind) (fun j => by simp only [upz_at]; grind) (fun q hq => by rw [upz_ne _ _ _ _ (by omega), upz_ne _ _ _ _ (by omega), upz_ne _ _ _ _ (by omega), upz_ne _ _ _ _ (by omega), upz_ne _ _ _ _ (by omega)]) ⟨by simp only [upz_at]; grind, by simp only [upz_at]; grind, by simp only [upz_at]; grind, by simp only [upz_at]; grind⟩ (fun j => by simp only [upz_at]; grind) (fun j => by simp only [upz_at]; grind) (fun j => by simp only [upz_at]; grind) (fun q hq => by rw [upz_ne _ _ _ _ (by omega), upz_ne _ _ _ _ (by omega), upz_ne _ _ _ _ (by omega), upz_ne _ _ _ _ (by omega), upz_ne _ _ _ _ (by omega)]), Or.inr (by simp only [upz_at]; grind), (by repeat first | exact Fr_refl _ _ _ | refine Fr_upz0 (by decide) ?_ | refine Fr_upz (by decide) (by decide) ?_)⟩
    · refine off (-2) _ _ ?_ ?_
      · simp (disch := omega) only [↓if_pos, ↓if_neg, ↓Option.bind_some]
      · simp (disch := omega) only [↓if_pos, ↓if_neg, ↓Option.bind_some]
  · refine off (-2) _ _ ?_ ?_
    · simp (disch := omega) only [↓if_pos, ↓if_neg, ↓Option.bind_some]
    · simp (disch := omega) only [↓if_pos, ↓if_neg, ↓Option.bind_some]
