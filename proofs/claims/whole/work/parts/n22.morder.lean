/-! the net: whether none gives -/
theorem TSf_hi {s3 s : zZ} {n c k : Nat} {D : Int} {T : Nat → Nat → Int} {L : Nat → Int} (hs : ∀ q, q < 24 → s q = s3 q) (H : TSf s3 n c k D T L) : TSf s n c k D T L := by
  obtain ⟨h0, h1, h2, h4, h5, h6, h7, hp, ht, hl⟩ := H
  unfold TSf PVf tbf
  rw [hs 13 (by decide), hs 14 (by decide), hs 23 (by decide)]
  refine ⟨h0, h1, h2, h4, h5, h6, h7, hp, fun r j hr hj => ?_, hl⟩
  have p := hp r (by omega)
  rw [hs _ (by omega)]
  exact ht r j hr hj
theorem NC_hi {s3 s s8 s7 : zZ} (hs : ∀ q, q < 24 → s q = s3 q) (C : NC s3 s8 s7) : NC s s8 s7 := by
  intro h
  rw [hs 0 (by decide)] at h
  obtain ⟨c1, c2, c3⟩ := C h
  refine ⟨by rw [hs 0 (by decide)]; exact c1, c2, ?_⟩
  have g := clr_congr (n := 2 * (s7 0 21).toNat) (J := cn s8 (s7 0 25).toNat + 6) (T := T0f s3 s8 (s7 0 25).toNat) (T' := T0f s s8 (s7 0 25).toNat) (fun r j _ hj => (T0f_congr (fun q h1 h2 => hs q (by omega)) (fun _ _ _ => rfl) _ r j hj).symm) (k0 := 0) (Nat.zero_le _) (D0 := 1) (L0 := fun _ => -1) (cn s8 (s7 0 25).toNat) (by omega)
  rw [← g.1, ← g.2.1]
  exact TSf_congr (TSf_hi hs c3) g.2.2.1 (fun j _ => by rw [g.2.2.2])
theorem ND_hi {s3 s s8 s7 : zZ} {ks : List Int} (hs : ∀ q, q < 24 → s q = s3 q) (hg : s 24 0 = 16 ∧ s 24 1 = 8 ∧ PVg s) (R : ND s3 s8 ks s7) : ND s s8 ks s7 := by
  obtain ⟨r1, r2, r3, r4, r5, r6, r7, r8, r9, r10, r11, r12, r13⟩ := R
  unfold ND PVf
  simp only [hs 0 (by decide), hs 1 (by decide), hs 2 (by decide), hs 3 (by decide), hs 4 (by decide), hs 5 (by decide), hs 13 (by decide), hs 14 (by decide)]
  refine ⟨r1, r2, r3, r4, r5, r6, r7, r8, r9, fun x y hx hy => ?_, r11, hg, r13⟩
  rw [hs (7 + x) (by omega)]
  exact r10 x y hx hy
theorem e_upHi {s3 s s8 s7 : zZ} {ks : List Int} {B F : Nat} (K : NK s3 s8 ks s7 B F) (hs : ∀ q, q < 24 → s q = s3 q) {c b : Nat} (hc : c < 6) (hb : b < B) : d_X4_upperPush s s8 ks c b = some (upC s3 s8 B (2 * F) c b) := by
  obtain ⟨R, hB, hF, h11, h5, H⟩ := K
  have H' := TSf_hi hs H
  have h11' : s 0 11 = ((cn s8 B : Nat) : Int) := by rw [hs 0 (by decide)]; exact h11
  have r2 := R.2.1
  have r3 := R.2.2.1
  have r8 := R.2.2.2.2.2.2.2.1 b (by omega)
  have r84 := r8.2.2.2.2.2.2
  have g := XN_rng R hB (n := 2 * F) (by omega)
  have cB := cn_le s8 B
  unfold d_X4_upperPush upC
  rw [if_pos (by omega), Int.toNat_natCast, if_pos (by omega)]
  by_cases q : s8 b 4 = 0
  · have l := cn_lt s8 hb q
    rw [if_pos q, if_pos (by omega), h5 b hb, if_pos q, e_leadsf H' (by omega), Option.bind_some, if_pos (by omega), Int.toNat_natCast, h11', show ((cn s8 B : Nat) : Int) + (c : Int) = ((cn s8 B + c : Nat) : Int) by omega]
    rcases XN_L R hB (n := 2 * F) (by omega) hb q with e | ⟨i, e, h2, _⟩
    · rw [e, e_numberf H' (by omega) (by omega), Option.bind_some, if_neg (by omega), if_neg (fun h => h.2 rfl)]
    · rw [e, e_numberf H' (by omega) (by omega), Option.bind_some, if_pos (by omega), if_pos ⟨q, by omega⟩, Int.toNat_natCast, Int.toNat_natCast]
  · rw [if_neg q, if_neg (fun h => q h.1)]
def smU (s3 s8 : zZ) (B F on b : Nat) (n : Nat) : Int := tot (fun c => if on / 2 ^ c % 2 = 1 then upC s3 s8 B (2 * F) c b else 0) n
theorem bit_cast (on c : Nat) : (on : Int) / ((2 ^ c : Nat) : Int) % 2 = ((on / 2 ^ c % 2 : Nat) : Int) := by
  rw [← Int.natCast_ediv]
  rfl
theorem e_ng15 {s3 s s8 s7 : zZ} {ks : List Int} {B F : Nat} (K : NK s3 s8 ks s7 B F) (hs : ∀ q, q < 24 → s q = s3 q) {on b : Nat} (ho : on < 64) (hb : b < B) : ∀ (m c f : Nat), c + m = 6 → m + 1 ≤ f → ∃ z, d_X4_noneGives_15 s s8 ks on b f (smU s3 s8 B F on b c) c = some (smU s3 s8 B F on b 6, z) := by
  have hB := K.2.1
  have r3 := K.1.2.2.1
  have s5 : s 5 0 = B := by rw [hs 5 (by decide)]; omega
  intro m
  induction m with
  | zero =>
    intro c f hc hf
    obtain ⟨f, rfl⟩ : ∃ g, f = g + 1 := ⟨f - 1, by omega⟩
    unfold d_X4_noneGives_15
    rw [if_pos (by omega), if_pos (by omega), show c = 6 by omega]
    exact ⟨_, rfl⟩
  | succ m ih =>
    intro c f hc hf
    obtain ⟨f, rfl⟩ : ∃ g, f = g + 1 := ⟨f - 1, by omega⟩
    obtain ⟨z, i⟩ := ih (c + 1) f (by omega) (by omega)
    have e3 : ((c : Int) + 1) = ((c + 1 : Nat) : Int) := by omega
    have e : smU s3 s8 B F on b (c + 1) = smU s3 s8 B F on b c + (if on / 2 ^ c % 2 = 1 then upC s3 s8 B (2 * F) c b else 0) := rfl
    have lt2 : on / 2 ^ c % 2 < 2 := Nat.mod_lt _ (by decide)
    unfold d_X4_noneGives_15
    rw [Int.toNat_natCast, two_pow, bit_cast, e3, if_pos (by omega), if_neg (by omega), if_pos (by omega), if_pos (by omega), s5]
    by_cases q : on / 2 ^ c % 2 = 1
    · rw [if_pos q] at e
      rw [if_neg (by omega), if_pos (by omega), e_upHi K hs (by omega) hb, Option.bind_some, ← e]
      exact ⟨z, i⟩
    · rw [if_neg q] at e
      rw [if_pos (by omega), ← e]
      exact ⟨z, i⟩
theorem smU_rng {s3 s8 s7 : zZ} {ks : List Int} (R : ND s3 s8 ks s7) {B F : Nat} (hB : s7 0 25 = B) (hF : s7 0 21 = F) {on b : Nat} (hb : b < B) : ∀ n : Nat, n ≤ 6 → -900000000 * (n : Int) ≤ smU s3 s8 B F on b n ∧ smU s3 s8 B F on b n ≤ 900000000 * n := by
  have r2 := R.2.1
  intro n
  induction n with
  | zero => intro _; show -900000000 * ((0 : Nat) : Int) ≤ 0 ∧ (0 : Int) ≤ 900000000 * ((0 : Nat) : Int); decide
  | succ n ih =>
    intro hn
    have i := ih (by omega)
    have e : smU s3 s8 B F on b (n + 1) = smU s3 s8 B F on b n + (if on / 2 ^ n % 2 = 1 then upC s3 s8 B (2 * F) n b else 0) := rfl
    have g := upC_rng R hB (n := 2 * F) (by omega) hb (show n < 6 by omega)
    unfold wi at g
    by_cases q : on / 2 ^ n % 2 = 1
    · rw [if_pos q] at e; omega
    · rw [if_neg q] at e; omega
def nng (s3 s8 : zZ) (B F on : Nat) : Prop := ∀ b, b < B → ((smU s3 s8 B F on b 6).natAbs : Int) ≤ s8 b 3 * ((XN s3 s8 B (2 * F)).2.1.natAbs : Int)
theorem e_ng2 {s3 s s8 s7 : zZ} {ks : List Int} {B F : Nat} (K : NK s3 s8 ks s7 B F) (hs : ∀ q, q < 24 → s q = s3 q) {on : Nat} (ho : on < 64) : ∀ (m b f : Nat), b + m = B → m + 1 ≤ f → (∃ z, d_X4_noneGives_2 s s8 ks on f b = some (.inl z) ∧ ∀ x, b ≤ x → x < B → ((smU s3 s8 B F on x 6).natAbs : Int) ≤ s8 x 3 * ((XN s3 s8 B (2 * F)).2.1.natAbs : Int)) ∨ (d_X4_noneGives_2 s s8 ks on f b = some (.inr 0) ∧ ∃ x, x < B ∧ ¬ ((smU s3 s8 B F on x 6).natAbs : Int) ≤ s8 x 3 * ((XN s3 s8 B (2 * F)).2.1.natAbs : Int)) := by
  have K' := K
  obtain ⟨R, hB, hF, h11, h5, H⟩ := K'
  have r2 := R.2.1
  have r3 := R.2.2.1
  have s5 : s 5 0 = B := by rw [hs 5 (by decide)]; omega
  have s7' : s 0 7 = B := by rw [hs 0 (by decide)]; omega
  have g := XN_rng R hB (n := 2 * F) (by omega)
  have gd := g.2.2.2.1
  have ad := wi_abs gd
  unfold wi at gd
  have sD : s 13 7 = (XN s3 s8 B (2 * F)).2.1 := by rw [hs 13 (by decide)]; exact H.2.2.2.2.2.2.1
  intro m
  induction m with
  | zero =>
    intro b f hb hf
    obtain ⟨f, rfl⟩ : ∃ g, f = g + 1 := ⟨f - 1, by omega⟩
    left
    unfold d_X4_noneGives_2
    rw [s7', if_pos (by omega), if_pos (by omega)]
    exact ⟨_, rfl, fun x h1 h2 => by omega⟩
  | succ m ih =>
    intro b f hb hf
    obtain ⟨f, rfl⟩ : ∃ g, f = g + 1 := ⟨f - 1, by omega⟩
    have ih' := ih (b + 1) f (by omega) (by omega)
    clear ih
    have e3 : ((b : Int) + 1) = ((b + 1 : Nat) : Int) := by omega
    obtain ⟨z, i⟩ := e_ng15 K hs ho (show b < B by omega) 6 0 zF (by omega) (by unfold zF; omega)
    have i' : d_X4_noneGives_15 s s8 ks on b zF 0 0 = some (smU s3 s8 B F on b 6, z) := i
    have gs := smU_rng R hB hF (on := on) (show b < B by omega) 6 (by decide)
    have r8 := R.2.2.2.2.2.2.2.1 b (by omega)
    have r83 := r8.2.2.2.2.2.1
    have m1 := mul_rg (a := s8 b 3) (A := 999) ⟨by omega, by omega⟩ ad
    unfold d_X4_noneGives_2 d_X4_lowerPush
    rw [s7', s5, sD, Int.toNat_natCast, e3, if_pos (by omega), if_neg (by omega), i', Option.bind_some, e_abs (by omega), Option.bind_some, if_pos (by omega), if_pos (by omega), if_pos (by omega), Option.bind_some, e_abs (by omega), Option.bind_some, if_pos (by omega)]
    by_cases q : ((smU s3 s8 B F on b 6).natAbs : Int) ≤ s8 b 3 * ((XN s3 s8 B (2 * F)).2.1.natAbs : Int)
    · rw [if_pos q]
      rcases ih' with ⟨w, a, b'⟩ | ⟨a, b'⟩
      · left
        refine ⟨w, a, fun x h1 h2 => ?_⟩
        by_cases e : x = b
        · rw [e]; exact q
        · exact b' x (by omega) h2
      · exact Or.inr ⟨a, b'⟩
    · rw [if_neg q]
      exact Or.inr ⟨rfl, b, by omega, q⟩
theorem e_noneGives {s3 s s8 s7 : zZ} {ks : List Int} {B F : Nat} (K : NK s3 s8 ks s7 B F) (hs : ∀ q, q < 24 → s q = s3 q) {on : Nat} (ho : on < 64) : (d_X4_noneGives s s8 ks on = some 1 ∧ nng s3 s8 B F on) ∨ (d_X4_noneGives s s8 ks on = some 0 ∧ ¬ nng s3 s8 B F on) := by
  have hB := K.2.1
  have r3 := K.1.2.2.1
  unfold d_X4_noneGives
  rcases e_ng2 K hs ho B 0 zF (by omega) (by unfold zF; omega) with ⟨z, a, b⟩ | ⟨a, x, b1, b2⟩
  · left
    rw [show ((0 : Nat) : Int) = 0 from rfl] at a
    rw [a]
    exact ⟨rfl, fun x hx => b x (Nat.zero_le _) hx⟩
  · right
    rw [show ((0 : Nat) : Int) = 0 from rfl] at a
    rw [a]
    exact ⟨rfl, fun h => b2 (h x b1)⟩
/-- the reference: none gives -/
theorem cmp1 {x y u d U D st : Int} (hx : x ≠ 0) (hy : y ≠ 0) (e1 : x * u = y * U) (e2 : x * d = y * D) : (u.natAbs : Int) ≤ st * (d.natAbs : Int) ↔ (U.natAbs : Int) ≤ st * (D.natAbs : Int) := by
  obtain ⟨a, b, h1, h2, h3, h4⟩ := abs_prop hx hy e1 e2
  have k : a * (st * (d.natAbs : Int)) = b * (st * (D.natAbs : Int)) := by rw [Int.mul_left_comm, h4, Int.mul_left_comm]
  constructor
  · intro h
    have := Int.mul_le_mul_of_nonneg_left h (Int.le_of_lt h1)
    rw [h3, k] at this
    exact Int.le_of_mul_le_mul_left this h2
  · intro h
    have := Int.mul_le_mul_of_nonneg_left h (Int.le_of_lt h2)
    rw [← h3, ← k] at this
    exact Int.le_of_mul_le_mul_left this h1
theorem e_dn8 {s3 s8 s7 s2 : zZ} {ks : List Int} (R : ND s3 s8 ks s7) {B F on : Nat} (hB : s7 0 25 = B) (hF : s7 0 21 = F) (h : RN s3 s8 B F on s7 s2) {set_ told : Int} : ∀ (m b f : Nat), b + m = B → m + 1 ≤ f → (∃ z, d_X12_doesNoneGive_8 s2 set_ told f b = some (.inl z) ∧ ∀ x, b ≤ x → x < B → ((smU s3 s8 B F on x 6).natAbs : Int) ≤ s8 x 3 * ((XN s3 s8 B (2 * F)).2.1.natAbs : Int)) ∨ (d_X12_doesNoneGive_8 s2 set_ told f b = some (.inr (0, s2)) ∧ ∃ x, x < B ∧ ¬ ((smU s3 s8 B F on x 6).natAbs : Int) ≤ s8 x 3 * ((XN s3 s8 B (2 * F)).2.1.natAbs : Int)) := by
  have fr := RN_fr h
  have r3 := R.2.2.1
  have s25 : s2 0 25 = B := by rw [fr.2 25 (by decide)]; exact hB
  have s19 : s2 19 = s7 19 := fr.1 19 (by decide) (by decide)
  intro m
  induction m with
  | zero =>
    intro b f hb hf
    obtain ⟨f, rfl⟩ : ∃ g, f = g + 1 := ⟨f - 1, by omega⟩
    left
    unfold d_X12_doesNoneGive_8
    rw [s25, if_pos (by omega), if_pos (by omega)]
    exact ⟨_, rfl, fun x h1 h2 => by omega⟩
  | succ m ih =>
    intro b f hb hf
    obtain ⟨f, rfl⟩ : ∃ g, f = g + 1 := ⟨f - 1, by omega⟩
    have ih' := ih (b + 1) f (by omega) (by omega)
    clear ih
    have e3 : ((b : Int) + 1) = ((b + 1 : Nat) : Int) := by omega
    obtain ⟨u, d, u1, u2, ⟨x', y', u3, u4, u5, u6⟩, u7, u8, u9⟩ := e_updown R hB hF s25 h.2.1 h.2.2.1 (show b < B by omega)
    have iff := cmp1 (st := s8 b 3) u3 u4 u5 u6
    have a8 := wi_abs u8
    unfold wi at u7 u8
    have r8 := R.2.2.2.2.2.2.2.1 b (by omega)
    have r83 := r8.2.2.2.2.2.1
    have m1 := mul_rg (a := s8 b 3) (A := 999) ⟨by omega, by omega⟩ a8
    unfold d_X12_doesNoneGive_8
    rw [s25, s19, Int.toNat_natCast, e3, if_pos (by omega), if_neg (by omega), u1, Option.bind_some, e_size (by omega), Option.bind_some, if_pos (by omega), if_pos (by omega), u2, Option.bind_some, e_size (by omega), Option.bind_some, ← r83.1, if_pos (by omega)]
    by_cases q : ((smU s3 s8 B F on b 6).natAbs : Int) ≤ s8 b 3 * ((XN s3 s8 B (2 * F)).2.1.natAbs : Int)
    · rw [if_pos (iff.mpr q)]
      rcases ih' with ⟨w, a, b'⟩ | ⟨a, b'⟩
      · left
        refine ⟨w, a, fun x h1 h2 => ?_⟩
        by_cases e : x = b
        · rw [e]; exact q
        · exact b' x (by omega) h2
      · exact Or.inr ⟨a, b'⟩
    · rw [if_neg (fun w => q (iff.mp w))]
      exact Or.inr ⟨rfl, b, by omega, q⟩
theorem e_doesNoneGive {s3 s8 s7 : zZ} {ks : List Int} (R : ND s3 s8 ks s7) {B F on : Nat} (hB : s7 0 25 = B) (hF : s7 0 21 = F) (ho : on < 64) (hk : (XN s3 s8 B (2 * F)).1 = cn s8 B) (hst : stB s3 s8 B F on) : ∃ t s2, d_X12_doesNoneGive s7 on = some (t, s2) ∧ Fr [22, 23, 24] [33] s7 s2 ∧ ((t = 1 ∧ nng s3 s8 B F on) ∨ (t = 0 ∧ ¬ nng s3 s8 B F on)) := by
  have r3 := R.2.2.1
  obtain ⟨t, s2, a1, a2, a3, _⟩ := e_toldM R hB hF ho
  rcases a3 with ⟨rfl, _⟩ | ⟨_, a3⟩
  · unfold d_X12_doesNoneGive
    rw [a1, Option.bind_some]
    dsimp only
    rcases e_dn8 R hB hF a2 (set_ := on) (told := 1) B 0 zF (by omega) (by unfold zF; omega) with ⟨z, a, b⟩ | ⟨a, x, b1, b2⟩
    · rw [show ((0 : Nat) : Int) = 0 from rfl] at a
      rw [a, Option.bind_some]
      dsimp only
      rw [if_pos (Or.inr rfl)]
      exact ⟨_, _, rfl, a2.2.2.2.2, Or.inl ⟨rfl, fun x hx => b x (Nat.zero_le _) hx⟩⟩
    · rw [show ((0 : Nat) : Int) = 0 from rfl] at a
      rw [a, Option.bind_some]
      exact ⟨_, _, rfl, a2.2.2.2.2, Or.inr ⟨rfl, fun h => b2 (h x b1)⟩⟩
  · exact absurd ⟨hk, hst⟩ a3
