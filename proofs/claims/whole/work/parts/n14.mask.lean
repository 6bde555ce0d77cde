/-! the net: what the two programs ask of their tables -/
def NK (s3 s8 : zZ) (ks : List Int) (s7 : zZ) (B F : Nat) : Prop := ND s3 s8 ks s7 ∧ s7 0 25 = B ∧ s7 0 21 = F ∧ s3 0 11 = ((cn s8 B : Nat) : Int) ∧ (∀ d, d < B → s8 d 5 = if s8 d 4 = 0 then ((cn s8 d : Nat) : Int) else -1) ∧ TSf s3 (2 * F) (cn s8 B + 6) (XN s3 s8 B (2 * F)).1 (XN s3 s8 B (2 * F)).2.1 (XN s3 s8 B (2 * F)).2.2.1 (XN s3 s8 B (2 * F)).2.2.2
theorem e_rk {s3 s8 s7 : zZ} {ks : List Int} (R : ND s3 s8 ks s7) (C : NC s3 s8 s7) : ∃ s3' s8' B F, d_X4_reckon s3 s8 ks = some (s3', s8') ∧ NK s3' s8' ks s7 B F ∧ NC s3' s8' s7 ∧ (∀ q, q ≠ 0 → q < 13 → s3' q = s3 q) ∧ (∀ d i, i ≠ 5 → s8' d i = s8 d i) := by
  obtain ⟨s3', s8', a1, a2, a3, a4, a5, a6⟩ := e_reckon R C
  have r2 := R.2.1
  have r3 := R.2.2.1
  obtain ⟨B, hB⟩ : ∃ B : Nat, s7 0 25 = B := ⟨(s7 0 25).toNat, by omega⟩
  obtain ⟨F, hF⟩ : ∃ B : Nat, s7 0 21 = B := ⟨(s7 0 21).toNat, by omega⟩
  have K := a3 a4
  rw [show (s7 0 25).toNat = B by omega, show (s7 0 21).toNat = F by omega] at K
  exact ⟨s3', s8', B, F, a1, ⟨a2, hB, hF, K.1, fun d hd => K.2.1 d (by omega), K.2.2⟩, a3, a5, a6⟩
theorem XN_CI {s3 s8 s7 : zZ} {ks : List Int} (R : ND s3 s8 ks s7) {B n : Nat} (hB : s7 0 25 = B) (hn : n ≤ 8) : CI n (cn s8 B + 6) (cn s8 B) (fun j r => T0f s3 s8 B r j) 100 (XN s3 s8 B n) := clr_CI (by decide) (by omega) (T0f_nv R hB n hn).1 (cn s8 B) (Nat.le_refl _)
theorem XN_rng {s3 s8 s7 : zZ} {ks : List Int} (R : ND s3 s8 ks s7) {B n : Nat} (hB : s7 0 25 = B) (hn : n ≤ 8) : (XN s3 s8 B n).1 ≤ n ∧ (XN s3 s8 B n).1 ≤ cn s8 B ∧ (XN s3 s8 B n).2.1 ≠ 0 ∧ wi (XN s3 s8 B n).2.1 100000000 ∧ ∀ r j, r < n → j < cn s8 B + 6 → wi ((XN s3 s8 B n).2.2.1 r j) 900000000 := by
  have C := XN_CI R hB hn
  have nvs := T0f_nv R hB n hn
  have k8 : (XN s3 s8 B n).1 ≤ 8 := Nat.le_trans (clr_le n _ (Nat.zero_le _) _) hn
  refine ⟨clr_le n _ (Nat.zero_le _) _, ?_, ?_, ?_, fun r j hr hj => ?_⟩
  · have : ∀ q, (clr n (0, 1, T0f s3 s8 B, fun _ => -1) q).1 ≤ q := by
      intro q
      induction q with
      | zero => exact Nat.le_refl _
      | succ q ih =>
        show (clr1 n q (clr n (0, 1, T0f s3 s8 B, fun _ => -1) q)).1 ≤ q + 1
        unfold clr1
        split
        · dsimp only
          omega
        · omega
    exact this _
  · obtain ⟨_, _, _, _, B, _⟩ := C
    exact B.2.1
  · have h := (CI_bd (by decide) C k8 (by omega) nvs.2).1
    exact sq_bd (M := 100000000) (by decide) (Int.le_trans h (by decide))
  · have h := CI_bd7 (by decide) C (kx := 7) (by omega) hj (nvs.2 j hj) hr
    exact sq_bd (M := 900000000) (by decide) (Int.le_trans h (by decide))
theorem e_ca8 {s3 : zZ} {n c k : Nat} {D : Int} {T : Nat → Nat → Int} {L : Nat → Int} (H : TSf s3 n c k D T L) {cr x : Nat} (h11 : s3 0 11 = cr) (hx : cr + x < c) (hz : ∀ r j, r < n → j < c → wi (T r j) 900000000) : ∀ (m r f : Nat), r + m = n → m + 1 ≤ f → (∃ z, d_X4_carries_8 s3 x f r = some (.inl z) ∧ ∀ i, r ≤ i → i < n → T i (cr + x) = 0) ∨ (d_X4_carries_8 s3 x f r = some (.inr 0) ∧ ∃ i, r ≤ i ∧ i < n ∧ T i (cr + x) ≠ 0) := by
  intro m
  have h0 := H.1
  have h4 := H.2.2.2.1
  induction m with
  | zero =>
    intro r f hr hf
    obtain ⟨f, rfl⟩ : ∃ g, f = g + 1 := ⟨f - 1, by omega⟩
    left
    unfold d_X4_carries_8
    rw [h4, if_pos (by omega), if_pos (by omega)]
    exact ⟨_, rfl, fun i h1 h2 => by omega⟩
  | succ m ih =>
    intro r f hr hf
    obtain ⟨f, rfl⟩ : ∃ g, f = g + 1 := ⟨f - 1, by omega⟩
    unfold d_X4_carries_8
    have z := hz r (cr + x) (by omega) hx
    unfold wi at z
    have e1 : (cr : Int) + (x : Int) = ((cr + x : Nat) : Int) := by omega
    have e3 : ((r : Int) + 1) = ((r + 1 : Nat) : Int) := by omega
    rw [h4, if_pos (by omega), if_neg (by omega), h11, e1, e_numberf H (by omega) (by omega), if_pos (by omega), Option.bind_some, Int.toNat_natCast, Int.toNat_natCast, if_pos (by omega), e3]
    by_cases q : T r (cr + x) = 0
    · rw [if_pos q]
      rcases ih (r + 1) f (by omega) (by omega) with ⟨w, a, b⟩ | ⟨a, i, b⟩
      · left
        refine ⟨w, a, fun i h1 h2 => ?_⟩
        by_cases e : i = r
        · rw [e]; exact q
        · exact b i (by omega) h2
      · right
        exact ⟨a, i, by omega, b.2⟩
    · rw [if_neg q]
      right
      exact ⟨rfl, r, Nat.le_refl _, by omega, q⟩
theorem e_carries {s3 s8 s7 : zZ} {ks : List Int} {B F : Nat} (K : NK s3 s8 ks s7 B F) {x : Nat} (hx : x < 6) : (d_X4_carries s3 x = some 1 ∧ ∀ i, (XN s3 s8 B (2 * F)).1 ≤ i → i < 2 * F → (XN s3 s8 B (2 * F)).2.2.1 i (cn s8 B + x) = 0) ∨ (d_X4_carries s3 x = some 0 ∧ ¬ ∀ i, (XN s3 s8 B (2 * F)).1 ≤ i → i < 2 * F → (XN s3 s8 B (2 * F)).2.2.1 i (cn s8 B + x) = 0) := by
  obtain ⟨R, hB, hF, h11, h5, H⟩ := K
  have r2 := R.2.1
  have g := XN_rng R hB (n := 2 * F) (by omega)
  unfold d_X4_carries
  rw [H.2.2.2.2.2.1]
  rcases e_ca8 H h11 (x := x) (by omega) g.2.2.2.2 (2 * F - (XN s3 s8 B (2 * F)).1) (XN s3 s8 B (2 * F)).1 zF (by omega) (by unfold zF; omega) with ⟨z, a, b⟩ | ⟨a, i, b1, b2, b3⟩
  · left
    rw [a]
    exact ⟨rfl, b⟩
  · right
    rw [a]
    exact ⟨rfl, fun h => b3 (h i b1 b2)⟩
theorem e_ds5 {s2 : zZ} {B F : Nat} (h25 : s2 0 25 = B) (hB : B ≤ 16) (h21 : s2 0 21 = F) (hF : F ≤ 4) {T : Nat → Nat → Int} (M : RMs s2 (2 * F) (B + 1) T (Bdn B)) : ∀ (m r f : Nat), r + m = 2 * F → m + 1 ≤ f → (∃ z, d_X12_doesStand_5 s2 f r = some (.inl z) ∧ ∀ i, r ≤ i → i < 2 * F → T i B = 0) ∨ (d_X12_doesStand_5 s2 f r = some (.inr 0) ∧ ∃ i, r ≤ i ∧ i < 2 * F ∧ T i B ≠ 0) := by
  intro m
  induction m with
  | zero =>
    intro r f hr hf
    obtain ⟨f, rfl⟩ : ∃ g, f = g + 1 := ⟨f - 1, by omega⟩
    left
    unfold d_X12_doesStand_5
    rw [h21, if_pos (by omega), if_pos (by omega)]
    exact ⟨_, rfl, fun i h1 h2 => by omega⟩
  | succ m ih =>
    intro r f hr hf
    obtain ⟨f, rfl⟩ : ∃ g, f = g + 1 := ⟨f - 1, by omega⟩
    unfold d_X12_doesStand_5
    have z := (M r (by omega)).2 B (by omega)
    have p := PRP_zero (M r (by omega)).1 (show B < B + 1 by omega)
    unfold wi Bdn at z
    rw [if_neg (Nat.lt_irrefl _)] at z
    have e1 : 20 * (r : Int) + (B : Int) = ((20 * r + B : Nat) : Int) := by omega
    have e3 : ((r : Int) + 1) = ((r + 1 : Nat) : Int) := by omega
    rw [h21, h25, if_pos (by omega), if_neg (by omega), e1, if_pos (by omega), Int.toNat_natCast, if_pos (by omega), e3]
    by_cases q : T r B = 0
    · rw [if_pos (p.mpr q)]
      rcases ih (r + 1) f (by omega) (by omega) with ⟨w, a, b⟩ | ⟨a, i, b⟩
      · left
        refine ⟨w, a, fun i h1 h2 => ?_⟩
        by_cases e : i = r
        · rw [e]; exact q
        · exact b i (by omega) h2
      · right
        exact ⟨a, i, by omega, b.2⟩
    · rw [if_neg (fun h => q (p.mp h))]
      right
      exact ⟨rfl, r, Nat.le_refl _, by omega, q⟩
theorem e_doesStand {s2 : zZ} {B F k : Nat} (h25 : s2 0 25 = B) (hB : B ≤ 16) (h21 : s2 0 21 = F) (hF : F ≤ 4) (h33 : s2 0 33 = k) (hk : k ≤ 2 * F) {T : Nat → Nat → Int} (M : RMs s2 (2 * F) (B + 1) T (Bdn B)) : (d_X12_doesStand s2 = some 1 ∧ ∀ i, k ≤ i → i < 2 * F → T i B = 0) ∨ (d_X12_doesStand s2 = some 0 ∧ ¬ ∀ i, k ≤ i → i < 2 * F → T i B = 0) := by
  unfold d_X12_doesStand
  rw [h33]
  rcases e_ds5 h25 hB h21 hF M (2 * F - k) k zF (by omega) (by unfold zF; omega) with ⟨z, a, b⟩ | ⟨a, i, b1, b2, b3⟩
  · left
    rw [a]
    exact ⟨rfl, b⟩
  · right
    rw [a]
    exact ⟨rfl, fun h => b3 (h i b1 b2)⟩
theorem e_mb4 {s3 s8 s7 : zZ} {ks : List Int} (R : ND s3 s8 ks s7) {B : Nat} (hB : s7 0 25 = B) : ∀ (m b f : Nat), b + m = B → m + 1 ≤ f → ∃ z, d_X12_manyBars_4 s7 f ((cn s8 b : Nat) : Int) b = some (((cn s8 B : Nat) : Int), z) := by
  intro m
  have r3 := R.2.2.1
  induction m with
  | zero =>
    intro b f hr hf
    obtain ⟨f, rfl⟩ : ∃ g, f = g + 1 := ⟨f - 1, by omega⟩
    unfold d_X12_manyBars_4
    rw [hB, if_pos (by omega), if_pos (by omega), show b = B by omega]
    exact ⟨_, rfl⟩
  | succ m ih =>
    intro b f hr hf
    obtain ⟨f, rfl⟩ : ∃ g, f = g + 1 := ⟨f - 1, by omega⟩
    have r8 := R.2.2.2.2.2.2.2.1 b (by omega)
    have r84 := r8.2.2.2.2.2.2
    unfold d_X12_manyBars_4
    have e3 : ((b : Int) + 1) = ((b + 1 : Nat) : Int) := by omega
    rw [hB, if_pos (by omega), if_neg (by omega), if_pos (by omega), Int.toNat_natCast, if_pos (by omega), e3]
    have i := ih (b + 1) f (by omega) (by omega)
    have e : cn s8 (b + 1) = cn s8 b + (if s8 b 4 = 0 then 1 else 0) := rfl
    by_cases q : s8 b 4 = 0
    · rw [if_pos q] at e
      rw [e] at i
      rw [if_pos (by omega), show ((cn s8 b : Nat) : Int) + 1 = ((cn s8 b + 1 : Nat) : Int) by omega]
      exact i
    · rw [if_neg q] at e
      rw [e] at i
      rw [if_neg (by omega), show ((cn s8 b : Nat) : Int) + 0 = ((cn s8 b + 0 : Nat) : Int) by omega]
      exact i
theorem e_manyBars {s3 s8 s7 : zZ} {ks : List Int} (R : ND s3 s8 ks s7) {B : Nat} (hB : s7 0 25 = B) : d_X12_manyBars s7 = some ((cn s8 B : Nat) : Int) := by
  have r3 := R.2.2.1
  obtain ⟨z, a⟩ := e_mb4 R hB B 0 zF (by omega) (by unfold zF; omega)
  unfold d_X12_manyBars
  have a' : d_X12_manyBars_4 s7 zF 0 0 = some (((cn s8 B : Nat) : Int), z) := a
  rw [a']
  rfl
/-- the pushes, by the class's table -/
def upC (s3 s8 : zZ) (B n c b : Nat) : Int := if s8 b 4 = 0 ∧ (XN s3 s8 B n).2.2.2 (cn s8 b) ≠ -1 then (XN s3 s8 B n).2.2.1 ((XN s3 s8 B n).2.2.2 (cn s8 b)).toNat (cn s8 B + c) else 0
theorem XN_L {s3 s8 s7 : zZ} {ks : List Int} (R : ND s3 s8 ks s7) {B n : Nat} (hB : s7 0 25 = B) (hn : n ≤ 8) {b : Nat} (hb : b < B) (h0 : s8 b 4 = 0) : (XN s3 s8 B n).2.2.2 (cn s8 b) = -1 ∨ ∃ i : Nat, (XN s3 s8 B n).2.2.2 (cn s8 b) = i ∧ i < (XN s3 s8 B n).1 ∧ (XN s3 s8 B n).2.2.1 i (cn s8 b) = (XN s3 s8 B n).2.1 := by
  have kn := (XN_rng R hB hn).1
  obtain ⟨c, u, z, pc, _, P1, P2, P3⟩ := XN_CI R hB hn
  rcases P2 (cn s8 b) (cn_lt s8 hb h0) with h | ⟨i, i1, i2⟩
  · exact Or.inl h.1
  · right
    have p := P1 i i1
    refine ⟨i, by rw [i2]; exact p.2.1, i1, ?_⟩
    have := p.2.2.2 i (by omega)
    rw [if_pos rfl] at this
    rw [i2]
    exact this
theorem upC_rng {s3 s8 s7 : zZ} {ks : List Int} (R : ND s3 s8 ks s7) {B n : Nat} (hB : s7 0 25 = B) (hn : n ≤ 8) {b : Nat} (hb : b < B) {c : Nat} (hc : c < 6) : wi (upC s3 s8 B n c b) 900000000 := by
  unfold upC
  have g := XN_rng R hB hn
  split
  · rename_i h
    rcases XN_L R hB hn hb h.1 with e | ⟨i, e, h2, _⟩
    · exact absurd e h.2
    · rw [e]
      exact g.2.2.2.2 _ _ (by omega) (by omega)
  · unfold wi
    omega
theorem e_upperPush {s3 s8 s7 : zZ} {ks : List Int} {B F : Nat} (K : NK s3 s8 ks s7 B F) {c b : Nat} (hc : c < 6) (hb : b < B) : d_X4_upperPush s3 s8 ks c b = some (upC s3 s8 B (2 * F) c b) := by
  obtain ⟨R, hB, hF, h11, h5, H⟩ := K
  have r2 := R.2.1
  have r3 := R.2.2.1
  have r8 := R.2.2.2.2.2.2.2.1 b (by omega)
  have r84 := r8.2.2.2.2.2.2
  have g := XN_rng R hB (n := 2 * F) (by omega)
  have cB := cn_le s8 B
  unfold d_X4_upperPush upC
  rw [if_pos (by omega), Int.toNat_natCast, if_pos (by omega)]
  by_cases q : s8 b 4 = 0
  · have l := cn_lt s8 hb q
    rw [if_pos q, if_pos (by omega), h5 b hb, if_pos q, e_leadsf H (by omega), Option.bind_some, if_pos (by omega), Int.toNat_natCast, h11, show ((cn s8 B : Nat) : Int) + (c : Int) = ((cn s8 B + c : Nat) : Int) by omega]
    rcases XN_L R hB (n := 2 * F) (by omega) hb q with e | ⟨i, e, h2, _⟩
    · rw [e, e_numberf H (by omega) (by omega), Option.bind_some, if_neg (by omega), if_neg (fun h => h.2 rfl)]
    · rw [e, e_numberf H (by omega) (by omega), Option.bind_some, if_pos (by omega), if_pos ⟨q, by omega⟩, Int.toNat_natCast, Int.toNat_natCast]
  · rw [if_neg q, if_neg (fun h => q h.1)]
theorem e_updown_ {s3 s8 s7 s2 : zZ} {ks : List Int} (R : ND s3 s8 ks s7) {B F : Nat} (hB : s7 0 25 = B) (hF : s7 0 21 = F) {set : Nat} {Bd : Nat → Int} (h25 : s2 0 25 = B) (h23 : ∀ b, b < B → s2 23 b = if s8 b 4 = 0 then lv (XN s3 s8 B (2 * F)).2.2.2 (cn s8 b) else -9) (M : RMs s2 (2 * F) (B + 1) (Tm s8 B set (XN s3 s8 B (2 * F)).2.2.1) Bd) {b : Nat} (hb : b < B) (p0 : 0 ≤ Bd B) (p1 : 1 ≤ Bd b) : ∃ u d : Int, d_X12_upOf s2 b = some u ∧ d_X12_downOf s2 b = some d ∧ (∃ x y : Int, x ≠ 0 ∧ y ≠ 0 ∧ x * u = y * tot (fun c => if set / 2 ^ c % 2 = 1 then upC s3 s8 B (2 * F) c b else 0) 6 ∧ x * d = y * (XN s3 s8 B (2 * F)).2.1) ∧ wi u (Bd B) ∧ wi d (Bd b) ∧ d ≠ 0 := by
  have r2 := R.2.1
  have r3 := R.2.2.1
  have g := XN_rng R hB (n := 2 * F) (by omega)
  have none_ : s2 23 b = -9 → tot (fun c => if set / 2 ^ c % 2 = 1 then upC s3 s8 B (2 * F) c b else 0) 6 = 0 → ∃ u d : Int, d_X12_upOf s2 b = some u ∧ d_X12_downOf s2 b = some d ∧ (∃ x y : Int, x ≠ 0 ∧ y ≠ 0 ∧ x * u = y * tot (fun c => if set / 2 ^ c % 2 = 1 then upC s3 s8 B (2 * F) c b else 0) 6 ∧ x * d = y * (XN s3 s8 B (2 * F)).2.1) ∧ wi u (Bd B) ∧ wi d (Bd b) ∧ d ≠ 0 := by
    intro h z
    refine ⟨0, 1, ?_, ?_, ⟨(XN s3 s8 B (2 * F)).2.1, 1, g.2.2.1, by decide, by rw [z]; omega, by omega⟩, by unfold wi; omega, by unfold wi; omega, by decide⟩
    · unfold d_X12_upOf
      rw [Int.toNat_natCast, h, if_pos (by omega), if_pos (by decide), if_neg (by decide)]
    · unfold d_X12_downOf
      rw [Int.toNat_natCast, h, if_pos (by omega), if_pos (by decide), if_neg (by decide)]
  by_cases q : s8 b 4 = 0
  · have h := h23 b hb
    rw [if_pos q] at h
    unfold lv at h
    rcases XN_L R hB (n := 2 * F) (by omega) hb q with e | ⟨i, e, h2, h3⟩
    · rw [if_pos e] at h
      refine none_ h (tot_zero 6 (fun c _ => ?_))
      rw [show upC s3 s8 B (2 * F) c b = 0 from if_neg (fun h => h.2 e), ite_self]
    · rw [if_neg (by omega), e] at h
      have Mi := M i (by omega)
      have w1 := Mi.2 B (by omega)
      have w2 := Mi.2 b (by omega)
      have pz := PRP_zero Mi.1 (show b < B + 1 by omega)
      have t1 : Tm s8 B set (XN s3 s8 B (2 * F)).2.2.1 i b = (XN s3 s8 B (2 * F)).2.1 := by
        unfold Tm
        rw [if_pos hb, if_pos q, h3]
      have t2 : Tm s8 B set (XN s3 s8 B (2 * F)).2.2.1 i B = tot (fun c => if set / 2 ^ c % 2 = 1 then upC s3 s8 B (2 * F) c b else 0) 6 := by
        unfold Tm
        rw [if_neg (Nat.lt_irrefl _)]
        refine tot_congr 6 (fun c _ => ?_)
        unfold upC
        rw [if_pos (⟨q, by omega⟩ : s8 b 4 = 0 ∧ (XN s3 s8 B (2 * F)).2.2.2 (cn s8 b) ≠ -1), e, Int.toNat_natCast]
      obtain ⟨x, y, hx, hy, e2⟩ := Mi.1
      have e3 := e2 B (by omega)
      have e4 := e2 b (by omega)
      rw [t2] at e3
      rw [t1] at e4
      rw [t1] at pz
      refine ⟨s2 22 (20 * i + B), s2 22 (20 * i + b), ?_, ?_, ⟨x, y, hx, hy, e3, e4⟩, w1, w2, fun z => g.2.2.1 (pz.mp z)⟩
      · unfold d_X12_upOf
        rw [Int.toNat_natCast, h, h25, if_pos (by omega), if_pos (by omega), if_pos (by omega), show 20 * (i : Int) + (B : Int) = ((20 * i + B : Nat) : Int) by omega, if_pos (by omega), if_pos (by omega), Int.toNat_natCast]
      · unfold d_X12_downOf
        rw [Int.toNat_natCast, h, if_pos (by omega), if_pos (by omega), if_pos (by omega), show 20 * (i : Int) + (b : Int) = ((20 * i + b : Nat) : Int) by omega, if_pos (by omega), if_pos (by omega), Int.toNat_natCast]
  · have h := h23 b hb
    rw [if_neg q] at h
    refine none_ h (tot_zero 6 (fun c _ => ?_))
    rw [show upC s3 s8 B (2 * F) c b = 0 from if_neg (fun h => q h.1), ite_self]
theorem e_updown {s3 s8 s7 s2 : zZ} {ks : List Int} (R : ND s3 s8 ks s7) {B F : Nat} (hB : s7 0 25 = B) (hF : s7 0 21 = F) {set : Nat} (h25 : s2 0 25 = B) (h23 : ∀ b, b < B → s2 23 b = if s8 b 4 = 0 then lv (XN s3 s8 B (2 * F)).2.2.2 (cn s8 b) else -9) (M : RMs s2 (2 * F) (B + 1) (Tm s8 B set (XN s3 s8 B (2 * F)).2.2.1) (Bdn B)) {b : Nat} (hb : b < B) : ∃ u d : Int, d_X12_upOf s2 b = some u ∧ d_X12_downOf s2 b = some d ∧ (∃ x y : Int, x ≠ 0 ∧ y ≠ 0 ∧ x * u = y * tot (fun c => if set / 2 ^ c % 2 = 1 then upC s3 s8 B (2 * F) c b else 0) 6 ∧ x * d = y * (XN s3 s8 B (2 * F)).2.1) ∧ wi u 6000000000 ∧ wi d 100000000 ∧ d ≠ 0 := by
  have e1 : Bdn B B = 6000000000 := if_neg (Nat.lt_irrefl _)
  have e2 : Bdn B b = 100000000 := if_pos hb
  have h := e_updown_ R hB hF h25 h23 M hb (by rw [e1]; decide) (by rw [e2]; decide)
  rw [e1, e2] at h
  exact h
