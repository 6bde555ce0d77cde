/-! the net: which bars a case needs -/
theorem XN_Lz {s3 s8 s7 : zZ} {ks : List Int} (R : ND s3 s8 ks s7) {B n : Nat} (hB : s7 0 25 = B) (hn : n ≤ 8) {f : Nat} (hf : f < cn s8 B) : (XN s3 s8 B n).2.2.2 f = -1 ∨ ∃ i : Nat, (XN s3 s8 B n).2.2.2 f = i ∧ i < n := by
  have kn := (XN_rng R hB hn).1
  obtain ⟨c, u, z, pc, _, P1, P2, P3⟩ := XN_CI R hB hn
  rcases P2 f hf with h | ⟨i, i1, i2⟩
  · exact Or.inl h.1
  · right
    have p := P1 i i1
    exact ⟨i, by rw [i2]; exact p.2.1, by omega⟩
theorem e_cc2 {s3 : zZ} {n c k : Nat} {D : Int} {T : Nat → Nat → Int} {L : Nat → Int} (H : TSf s3 n c k D T L) {cr i : Nat} (h11 : s3 0 11 = cr) (hc : cr ≤ c) (hi : i < n) (hz : ∀ r j, r < n → j < c → wi (T r j) 900000000) (hL : ∀ f, f < cr → L f = -1 ∨ ∃ i : Nat, L f = i ∧ i < n) : ∀ (m j f : Nat), j + m = cr → m + 1 ≤ f → (∃ z, d_X4_canChange_2 s3 i f j = some (.inl z) ∧ ∀ x, j ≤ x → x < cr → L x = -1 → T i x = 0) ∨ (d_X4_canChange_2 s3 i f j = some (.inr 1) ∧ ∃ x, x < cr ∧ L x = -1 ∧ T i x ≠ 0) := by
  intro m
  have h0 := H.1
  induction m with
  | zero =>
    intro j f hj hf
    obtain ⟨f, rfl⟩ : ∃ g, f = g + 1 := ⟨f - 1, by omega⟩
    left
    unfold d_X4_canChange_2
    rw [h11, if_pos (by omega), if_pos (by omega)]
    exact ⟨_, rfl, fun i h1 h2 => by omega⟩
  | succ m ih =>
    intro j f hj hf
    obtain ⟨f, rfl⟩ : ∃ g, f = g + 1 := ⟨f - 1, by omega⟩
    have e3 : ((j : Int) + 1) = ((j + 1 : Nat) : Int) := by omega
    have ih' := ih (j + 1) f (by omega) (by omega)
    clear ih
    unfold d_X4_canChange_2
    rw [h11, if_pos (by omega), if_neg (by omega), e_leadsf H (by omega), if_pos (by omega), Option.bind_some, Int.toNat_natCast, e3]
    rcases hL j (by omega) with e | ⟨l, e, hl⟩
    · have z := hz i j hi (by omega)
      unfold wi at z
      rw [e, if_pos (by decide), if_neg (by decide), e_numberf H (by omega) (by omega), if_pos (by omega), Option.bind_some, Int.toNat_natCast, Int.toNat_natCast, if_pos (by omega)]
      by_cases q : T i j = 0
      · rw [if_pos q]
        rcases ih' with ⟨w, a, b⟩ | ⟨a, b⟩
        · left
          refine ⟨w, a, fun x h1 h2 h3 => ?_⟩
          by_cases e : x = j
          · rw [e]; exact q
          · exact b x (by omega) h2 h3
        · exact Or.inr ⟨a, b⟩
      · rw [if_neg q]
        exact Or.inr ⟨rfl, j, by omega, e, q⟩
    · rw [e, if_pos (by omega), if_pos (by omega)]
      rcases ih' with ⟨w, a, b⟩ | ⟨a, b⟩
      · left
        refine ⟨w, a, fun x h1 h2 h3 => ?_⟩
        by_cases e2 : x = j
        · rw [e2, e] at h3; omega
        · exact b x (by omega) h2 h3
      · exact Or.inr ⟨a, b⟩
theorem e_canChange {s3 s8 s7 : zZ} {ks : List Int} {B F : Nat} (K : NK s3 s8 ks s7 B F) {i : Nat} (hi : i < 2 * F) : (d_X4_canChange s3 i = some 0 ∧ ∀ x, x < cn s8 B → (XN s3 s8 B (2 * F)).2.2.2 x = -1 → (XN s3 s8 B (2 * F)).2.2.1 i x = 0) ∨ (d_X4_canChange s3 i = some 1 ∧ ∃ x, x < cn s8 B ∧ (XN s3 s8 B (2 * F)).2.2.2 x = -1 ∧ (XN s3 s8 B (2 * F)).2.2.1 i x ≠ 0) := by
  obtain ⟨R, hB, hF, h11, h5, H⟩ := K
  have r2 := R.2.1
  have r3 := R.2.2.1
  have cB := cn_le s8 B
  have g := XN_rng R hB (n := 2 * F) (by omega)
  unfold d_X4_canChange
  rcases e_cc2 H h11 (by omega) hi g.2.2.2.2 (fun f hf => XN_Lz R hB (by omega) hf) (cn s8 B) 0 zF (by omega) (by unfold zF; omega) with ⟨z, a, b⟩ | ⟨a, b⟩
  · left
    rw [show ((0 : Nat) : Int) = 0 from rfl] at a
    rw [a]
    exact ⟨rfl, fun x hx => b x (Nat.zero_le _) hx⟩
  · right
    rw [show ((0 : Nat) : Int) = 0 from rfl] at a
    rw [a]
    exact ⟨rfl, b⟩
/-- sums over bars that are not cut are sums over columns -/
theorem tot_cn (s8 : zZ) {g G : Nat → Int} : ∀ B : Nat, (∀ j, j < B → s8 j 4 = 0 → G (cn s8 j) = g j) → tot (fun j => if s8 j 4 = 0 then g j else 0) B = tot G (cn s8 B) := by
  intro B
  induction B with
  | zero => intro _; rfl
  | succ B ih =>
    intro h
    have e : cn s8 (B + 1) = cn s8 B + (if s8 B 4 = 0 then 1 else 0) := rfl
    show tot (fun j => if s8 j 4 = 0 then g j else 0) B + (if s8 B 4 = 0 then g B else 0) = _
    rw [e, ih (fun j hj => h j (by omega))]
    by_cases q : s8 B 4 = 0
    · rw [if_pos q, if_pos q]
      show _ = tot G (cn s8 B) + G (cn s8 B)
      rw [h B (by omega) q]
    · rw [if_neg q, if_neg q]
      exact Int.add_zero _
theorem col_ex (s8 : zZ) (B : Nat) (x' : Nat → Int) : ∃ x : Nat → Int, ∀ j, j < B → s8 j 4 = 0 → x (cn s8 j) = x' j := by
  refine ⟨fun i => tot (fun j => if s8 j 4 = 0 ∧ cn s8 j = i then x' j else 0) B, fun j hj h => ?_⟩
  dsimp only
  rw [tot_one (i := j) B hj (fun l hl hn => if_neg (fun q => hn (cn_inj s8 q.1 h q.2))), if_pos ⟨h, rfl⟩]
theorem slv_iff {s3 s8 : zZ} {B n c b : Nat} {v : Nat → Int} (hv : ∀ s, s < n → v s = s3 (7 + c) s) (hb : b < B) (h0 : s8 b 4 = 0) : Slv n B (fun j r => Tv s3 s8 B v b r j) ((fun j r => Tv s3 s8 B v b r j) B) (fun _ => False) ↔ Slv n (cn s8 B) (fun j r => T0f s3 s8 B r j) ((fun j r => T0f s3 s8 B r j) (cn s8 B + c)) (fun j => j = cn s8 b) := by
  have rhs : ∀ s, s < n → Tv s3 s8 B v b s B = T0f s3 s8 B s (cn s8 B + c) := by
    intro s hs
    rw [T0f_case, ← hv s hs]
    exact if_neg (Nat.lt_irrefl _)
  have col : ∀ (x' x : Nat → Int), (∀ j, j < B → s8 j 4 = 0 → x (cn s8 j) = if j = b then 0 else x' j) → ∀ s, tot (fun j => x' j * Tv s3 s8 B v b s j) B = tot (fun i => x i * T0f s3 s8 B s i) (cn s8 B) := by
    intro x' x hx s
    rw [← tot_cn s8 (g := fun j => if j = b then 0 else x' j * mA s3 s8 j s) (G := fun i => x i * T0f s3 s8 B s i) B (fun j hj h => by
      rw [hx j hj h, T0f_bar hj h]
      by_cases q : j = b
      · rw [if_pos q, if_pos q, Int.zero_mul]
      · rw [if_neg q, if_neg q])]
    refine tot_congr B (fun j hj => ?_)
    unfold Tv
    rw [if_pos hj]
    by_cases h : s8 j 4 = 0
    · rw [if_pos h]
      by_cases q : j = b
      · rw [if_pos q, if_pos (Or.inr (by omega)), Int.mul_zero]
      · rw [if_neg q, if_neg (by omega)]
    · rw [if_neg h, if_pos (Or.inl h), Int.mul_zero]
  constructor
  · rintro ⟨N, x', hN, _, e⟩
    obtain ⟨x, hx⟩ := col_ex s8 B (fun j => if j = b then 0 else x' j)
    refine ⟨N, x, hN, fun j hj => ?_, fun s hs => ?_⟩
    · rw [hj, hx b hb h0, if_pos rfl]
    · have e1 := e s hs
      dsimp only at e1 ⊢
      rw [← rhs s hs, e1]
      exact col x' x hx s
  · rintro ⟨N, x, hN, z, e⟩
    refine ⟨N, fun j => x (cn s8 j), hN, fun _ h => h.elim, fun s hs => ?_⟩
    have e1 := e s hs
    dsimp only at e1 ⊢
    rw [rhs s hs, e1]
    refine (col (fun j => x (cn s8 j)) x (fun j hj h => ?_) s).symm
    by_cases q : j = b
    · rw [if_pos q, q]
      exact z _ rfl
    · rw [if_neg q]
