/-! the net: the order, its searches -/
theorem b_or : ∀ on, on < 64 → ∀ c, c < 6 → (on ||| 2 ^ c < 64) ∧ (on / 2 ^ c % 2 = 0 ∨ on / 2 ^ c % 2 = 1) ∧ (on / 2 ^ c % 2 = 1 → on ||| 2 ^ c = on) ∧ (on / 2 ^ c % 2 = 0 → on < on ||| 2 ^ c) ∧ (on / 2 ^ c % 2 = 0 → zpc 12 (on ||| 2 ^ c) = zpc 12 on + 1) ∧ (on / 2 ^ c % 2 = 1 → 2 ^ c &&& on = 2 ^ c) ∧ (2 ^ c &&& on = 2 ^ c → on / 2 ^ c % 2 = 1) := by decide +kernel
theorem zpc6 : ∀ on, on < 64 → zpc 12 on ≤ 6 := by decide +kernel
theorem sub_or {on set c : Nat} (hs : set < 64) (hc : c < 6) (h : on &&& set = on) (hb : set / 2 ^ c % 2 = 1) : (on ||| 2 ^ c) &&& set = on ||| 2 ^ c := by
  rw [Nat.and_or_distrib_right, h, (b_or set hs c hc).2.2.2.2.2.1 hb]
theorem bit_sub {on set c : Nat} (ho : on < 64) (hs : set < 64) (hc : c < 6) (h : on &&& set = on) (hb : on / 2 ^ c % 2 = 1) : set / 2 ^ c % 2 = 1 := by
  have e := (b_or on ho c hc).2.2.2.2.2.1 hb
  refine (b_or set hs c hc).2.2.2.2.2.2 ?_
  rw [← e, Nat.and_assoc, h]
theorem stB_sub {s3 s8 : zZ} {B F on : Nat} (h : ∀ c, c < 6 → on / 2 ^ c % 2 = 1 → stB s3 s8 B F (2 ^ c)) : stB s3 s8 B F on := by
  intro i h1 h2
  unfold Tm
  rw [if_neg (Nat.lt_irrefl _)]
  refine tot_zero 6 (fun c hc => ?_)
  by_cases q : on / 2 ^ c % 2 = 1
  · rw [if_pos q]
    exact (stB_one hc).mp (h c hc q) i h1 h2
  · rw [if_neg q]
theorem e_at2 {s3 s8 s7 : zZ} {ks : List Int} {B F : Nat} (K : NK s3 s8 ks s7 B F) {set : Nat} (hs : set < 64) : ∀ (m c f : Nat), c + m = 6 → m + 1 ≤ f → (∃ z, d_X4_areTold_2 s3 set f c = some (.inl z) ∧ ∀ x, c ≤ x → x < 6 → set / 2 ^ x % 2 = 1 → (XN s3 s8 B (2 * F)).1 = cn s8 B ∧ stB s3 s8 B F (2 ^ x)) ∨ (d_X4_areTold_2 s3 set f c = some (.inr 0) ∧ ¬ ∀ x, c ≤ x → x < 6 → set / 2 ^ x % 2 = 1 → (XN s3 s8 B (2 * F)).1 = cn s8 B ∧ stB s3 s8 B F (2 ^ x)) := by
  intro m
  induction m with
  | zero =>
    intro c f hc hf
    obtain ⟨f, rfl⟩ : ∃ g, f = g + 1 := ⟨f - 1, by omega⟩
    left
    unfold d_X4_areTold_2
    rw [if_pos (by omega), if_pos (by omega)]
    exact ⟨_, rfl, fun x h1 h2 => by omega⟩
  | succ m ih =>
    intro c f hc hf
    obtain ⟨f, rfl⟩ : ∃ g, f = g + 1 := ⟨f - 1, by omega⟩
    have ih' := ih (c + 1) f (by omega) (by omega)
    clear ih
    have e3 : ((c : Int) + 1) = ((c + 1 : Nat) : Int) := by omega
    have lt2 : set / 2 ^ c % 2 < 2 := Nat.mod_lt _ (by decide)
    unfold d_X4_areTold_2
    rw [Int.toNat_natCast, two_pow, bit_cast, e3, if_pos (by omega), if_neg (by omega), if_pos (by omega), if_pos (by omega)]
    by_cases q : set / 2 ^ c % 2 = 1
    · rw [if_neg (by omega)]
      rcases e_toldC K (show c < 6 by omega) with ⟨a, b⟩ | ⟨a, b⟩
      · rw [a, Option.bind_some, if_pos (by decide), if_pos (by decide)]
        rcases ih' with ⟨w, a', b'⟩ | ⟨a', b'⟩
        · left
          refine ⟨w, a', fun x h1 h2 h3 => ?_⟩
          by_cases e : x = c
          · rw [e]; exact b
          · exact b' x (by omega) h2 h3
        · right
          exact ⟨a', fun h => b' (fun x h1 h2 h3 => h x (by omega) h2 h3)⟩
      · rw [a, Option.bind_some, if_pos (by decide), if_neg (by decide)]
        right
        exact ⟨rfl, fun h => b (h c (Nat.le_refl _) (by omega) q)⟩
    · rw [if_pos (by omega)]
      rcases ih' with ⟨w, a', b'⟩ | ⟨a', b'⟩
      · left
        refine ⟨w, a', fun x h1 h2 h3 => ?_⟩
        by_cases e : x = c
        · rw [e] at h3; exact absurd h3 q
        · exact b' x (by omega) h2 h3
      · right
        exact ⟨a', fun h => b' (fun x h1 h2 h3 => h x (by omega) h2 h3)⟩
theorem e_o35 {s3 s8 s7 : zZ} {ks : List Int} (R : ND s3 s8 ks s7) {B F : Nat} (hB : s7 0 25 = B) (hF : s7 0 21 = F) {set : Nat} (hs : set < 64) {i : Int} : ∀ (m c f : Nat) (s : zZ), c + m = 6 → m + 1 ≤ f → Fr [22, 23, 24, 25, 26] [33] s7 s → (∃ z s', d_X12_order_35 set i f c s = some (.inl (z, s')) ∧ Fr [22, 23, 24, 25, 26] [33] s7 s' ∧ ∀ x, c ≤ x → x < 6 → set / 2 ^ x % 2 = 1 → (XN s3 s8 B (2 * F)).1 = cn s8 B ∧ stB s3 s8 B F (2 ^ x)) ∨ (∃ s', d_X12_order_35 set i f c s = some (.inr (-3, s')) ∧ Fr [22, 23, 24, 25, 26] [33] s7 s' ∧ ¬ ∀ x, c ≤ x → x < 6 → set / 2 ^ x % 2 = 1 → (XN s3 s8 B (2 * F)).1 = cn s8 B ∧ stB s3 s8 B F (2 ^ x)) := by
  intro m
  induction m with
  | zero =>
    intro c f s hc hf fr
    obtain ⟨f, rfl⟩ : ∃ g, f = g + 1 := ⟨f - 1, by omega⟩
    left
    unfold d_X12_order_35
    rw [if_pos (by omega), if_pos (by omega)]
    exact ⟨_, _, rfl, fr, fun x h1 h2 => by omega⟩
  | succ m ih =>
    intro c f s hc hf fr
    obtain ⟨f, rfl⟩ : ∃ g, f = g + 1 := ⟨f - 1, by omega⟩
    have e3 : ((c : Int) + 1) = ((c + 1 : Nat) : Int) := by omega
    have lt2 : set / 2 ^ c % 2 < 2 := Nat.mod_lt _ (by decide)
    unfold d_X12_order_35
    rw [Int.toNat_natCast, two_pow, bit_cast, e3, if_pos (by omega), if_neg (by omega), if_pos (by omega), if_pos (by omega)]
    by_cases q : set / 2 ^ c % 2 = 1
    · rw [if_neg (by omega), if_pos (by omega)]
      obtain ⟨t, s2, b1, h, b2, _⟩ := e_toldM (ND_fr R fr) (by rw [fr.2 25 (by decide)]; exact hB) (by rw [fr.2 21 (by decide)]; exact hF) (p2c c (by omega))
      have fr2 := Fr_trans fr (RN_fr h)
      rw [b1, Option.bind_some]
      dsimp only
      rcases b2 with ⟨rfl, b⟩ | ⟨rfl, b⟩
      · rw [if_pos (by decide), if_pos (by decide)]
        rcases ih (c + 1) f s2 (by omega) (by omega) fr2 with ⟨z, s', a', g, b'⟩ | ⟨s', a', g, b'⟩
        · left
          refine ⟨z, s', a', g, fun x h1 h2 h3 => ?_⟩
          by_cases e : x = c
          · rw [e]; exact b
          · exact b' x (by omega) h2 h3
        · right
          exact ⟨s', a', g, fun h => b' (fun x h1 h2 h3 => h x (by omega) h2 h3)⟩
      · rw [if_pos (by decide), if_neg (by decide)]
        right
        exact ⟨s2, rfl, fr2, fun h => b (h c (Nat.le_refl _) (by omega) q)⟩
    · rw [if_pos (by omega)]
      rcases ih (c + 1) f s (by omega) (by omega) fr with ⟨z, s', a', g, b'⟩ | ⟨s', a', g, b'⟩
      · left
        refine ⟨z, s', a', g, fun x h1 h2 h3 => ?_⟩
        by_cases e : x = c
        · rw [e] at h3; exact absurd h3 q
        · exact b' x (by omega) h2 h3
      · right
        exact ⟨s', a', g, fun h => b' (fun x h1 h2 h3 => h x (by omega) h2 h3)⟩
/-- the case may be put on next -/
def Cnd (g : Nat → Int) (set on c : Nat) : Prop := set / 2 ^ c % 2 = 1 ∧ on / 2 ^ c % 2 = 0 ∧ g (on ||| 2 ^ c) ≠ 0
theorem e_fp2 {s : zZ} {set on : Nat} (hs : set < 64) (ho : on < 64) (hz : ∀ x, on < x → x < 64 → zr (s 44 x)) : ∀ (m c f : Nat), c + m = 6 → m + 1 ≤ f → (∃ z, d_X4_firstToPutOn_2 s set on f c = some (.inl z) ∧ ∀ x, c ≤ x → x < 6 → ¬ Cnd (s 44) set on x) ∨ (∃ x : Nat, d_X4_firstToPutOn_2 s set on f c = some (.inr (x : Int)) ∧ c ≤ x ∧ x < 6 ∧ Cnd (s 44) set on x ∧ ∀ y, c ≤ y → y < x → ¬ Cnd (s 44) set on y) := by
  intro m
  induction m with
  | zero =>
    intro c f hc hf
    obtain ⟨f, rfl⟩ : ∃ g, f = g + 1 := ⟨f - 1, by omega⟩
    left
    unfold d_X4_firstToPutOn_2
    rw [if_pos (by omega), if_pos (by omega)]
    exact ⟨_, rfl, fun x h1 h2 => by omega⟩
  | succ m ih =>
    intro c f hc hf
    obtain ⟨f, rfl⟩ : ∃ g, f = g + 1 := ⟨f - 1, by omega⟩
    have e3 : ((c : Int) + 1) = ((c + 1 : Nat) : Int) := by omega
    have lt2 : set / 2 ^ c % 2 < 2 := Nat.mod_lt _ (by decide)
    have B := b_or on ho c (by omega)
    have p := p2c c (by omega)
    have p0 : 0 < 2 ^ c := Nat.two_pow_pos c
    have go : ¬ Cnd (s 44) set on c → (∃ z, d_X4_firstToPutOn_2 s set on f ((c + 1 : Nat) : Int) = some (.inl z) ∧ ∀ x, c ≤ x → x < 6 → ¬ Cnd (s 44) set on x) ∨ (∃ x : Nat, d_X4_firstToPutOn_2 s set on f ((c + 1 : Nat) : Int) = some (.inr (x : Int)) ∧ c ≤ x ∧ x < 6 ∧ Cnd (s 44) set on x ∧ ∀ y, c ≤ y → y < x → ¬ Cnd (s 44) set on y) := by
      intro n
      rcases ih (c + 1) f (by omega) (by omega) with ⟨z, a, b⟩ | ⟨x, a, b1, b2, b3, b4⟩
      · left
        refine ⟨z, a, fun x h1 h2 => ?_⟩
        by_cases e : x = c
        · rw [e]; exact n
        · exact b x (by omega) h2
      · right
        refine ⟨x, a, by omega, b2, b3, fun y h1 h2 => ?_⟩
        by_cases e : y = c
        · rw [e]; exact n
        · exact b4 y (by omega) h2
    clear ih
    unfold d_X4_firstToPutOn_2
    rw [Int.toNat_natCast, Int.toNat_natCast, two_pow, Int.toNat_natCast, Int.toNat_natCast, bit_cast, e3, if_pos (by omega), if_neg (by omega), if_pos (by omega), if_pos (by omega), if_pos (by omega), if_pos (by omega)]
    by_cases q : set / 2 ^ c % 2 = 1
    · rw [if_neg (by omega), if_pos (by omega)]
      rcases B.2.1 with w | w
      · have lt := B.2.2.2.1 w
        rw [if_neg (by omega), if_pos (by omega), if_neg (by omega), if_pos (by omega), if_pos (hz _ lt B.1)]
        by_cases v : s 44 (on ||| 2 ^ c) = 0
        · rw [if_pos v]
          exact go (fun h => h.2.2 v)
        · rw [if_neg v]
          right
          exact ⟨c, rfl, Nat.le_refl _, by omega, ⟨q, w, v⟩, fun y h1 h2 => by omega⟩
      · have eq := B.2.2.1 w
        rw [if_pos (by omega)]
        exact go (fun h => by have := h.2.1; omega)
    · rw [if_pos (by omega)]
      exact go (fun h => q h.1)
theorem e_first {s : zZ} {set on : Nat} (hs : set < 64) (ho : on < 64) (hz : ∀ x, on < x → x < 64 → zr (s 44 x)) : (d_X4_firstToPutOn s set on = some (-9) ∧ ∀ x, x < 6 → ¬ Cnd (s 44) set on x) ∨ (∃ x : Nat, d_X4_firstToPutOn s set on = some (x : Int) ∧ x < 6 ∧ Cnd (s 44) set on x ∧ ∀ y, y < x → ¬ Cnd (s 44) set on y) := by
  unfold d_X4_firstToPutOn
  rcases e_fp2 hs ho hz 6 0 zF (by omega) (by unfold zF; omega) with ⟨z, a, b⟩ | ⟨x, a, b1, b2, b3, b4⟩
  · rw [show ((0 : Nat) : Int) = 0 from rfl] at a
    rw [a]
    exact Or.inl ⟨rfl, fun x hx => b x (Nat.zero_le _) hx⟩
  · rw [show ((0 : Nat) : Int) = 0 from rfl] at a
    rw [a]
    exact Or.inr ⟨x, rfl, b2, b3, fun y hy => b4 y (Nat.zero_le _) hy⟩
theorem e_f31 {s : zZ} {set on : Nat} (hs : set < 64) (ho : on < 64) (hz : ∀ c, c < 6 → set / 2 ^ c % 2 = 1 → on / 2 ^ c % 2 = 0 → zr (s 26 (on ||| 2 ^ c))) : ∀ (m c f : Nat), c + m = 6 → m + 2 ≤ f → (∃ z, d_X12_findOrder_31 s set on f 0 c = some (0, z) ∧ ∀ x, c ≤ x → x < 6 → ¬ Cnd (s 26) set on x) ∨ (∃ z, d_X12_findOrder_31 s set on f 0 c = some (1, z) ∧ ∃ x : Nat, c ≤ x ∧ x < 6 ∧ Cnd (s 26) set on x) := by
  intro m
  induction m with
  | zero =>
    intro c f hc hf
    obtain ⟨f, rfl⟩ : ∃ g, f = g + 1 := ⟨f - 1, by omega⟩
    left
    unfold d_X12_findOrder_31
    rw [if_pos (by omega), if_pos (by omega)]
    exact ⟨_, rfl, fun x h1 h2 => by omega⟩
  | succ m ih =>
    intro c f hc hf
    obtain ⟨f, rfl⟩ : ∃ g, f = g + 1 := ⟨f - 1, by omega⟩
    have e3 : ((c : Int) + 1) = ((c + 1 : Nat) : Int) := by omega
    have lt2 : set / 2 ^ c % 2 < 2 := Nat.mod_lt _ (by decide)
    have B := b_or on ho c (by omega)
    have p := p2c c (by omega)
    have p0 : 0 < 2 ^ c := Nat.two_pow_pos c
    have go : ¬ Cnd (s 26) set on c → (∃ z, d_X12_findOrder_31 s set on f 0 ((c + 1 : Nat) : Int) = some (0, z) ∧ ∀ x, c ≤ x → x < 6 → ¬ Cnd (s 26) set on x) ∨ (∃ z, d_X12_findOrder_31 s set on f 0 ((c + 1 : Nat) : Int) = some (1, z) ∧ ∃ x : Nat, c ≤ x ∧ x < 6 ∧ Cnd (s 26) set on x) := by
      intro n
      rcases ih (c + 1) f (by omega) (by omega) with ⟨z, a, b⟩ | ⟨z, a, x, b1, b2⟩
      · left
        refine ⟨z, a, fun x h1 h2 => ?_⟩
        by_cases e : x = c
        · rw [e]; exact n
        · exact b x (by omega) h2
      · right
        exact ⟨z, a, x, by omega, b2⟩
    clear ih
    unfold d_X12_findOrder_31
    rw [Int.toNat_natCast, Int.toNat_natCast, two_pow, Int.toNat_natCast, Int.toNat_natCast, bit_cast, bit_cast, e3, if_pos (by omega), if_neg (by omega), if_pos (by decide), if_neg (by decide), if_pos (by omega), if_pos (by omega)]
    by_cases q : set / 2 ^ c % 2 = 1
    · rw [if_neg (by omega), if_pos (by omega), if_pos (by omega)]
      rcases B.2.1 with w | w
      · have lt := B.2.2.2.1 w
        have B1 := B.1
        rw [if_neg (by omega), if_pos (by omega), if_pos (by omega), if_pos (by omega), if_pos (hz c (by omega) q w)]
        by_cases v : s 26 (on ||| 2 ^ c) = 0
        · rw [if_pos v]
          exact go (fun h => h.2.2 v)
        · rw [if_neg v]
          right
          obtain ⟨f, rfl⟩ : ∃ g, f = g + 1 := ⟨f - 1, by omega⟩
          unfold d_X12_findOrder_31
          rw [if_pos (by omega)]
          by_cases l : (6 : Int) ≤ ((c + 1 : Nat) : Int)
          · rw [if_pos l]
            exact ⟨_, rfl, c, Nat.le_refl _, by omega, q, w, v⟩
          · rw [if_neg l, if_pos (by decide), if_pos (by decide)]
            exact ⟨_, rfl, c, Nat.le_refl _, by omega, q, w, v⟩
      · rw [if_pos (by omega)]
        exact go (fun h => by have := h.2.1; omega)
    · rw [if_pos (by omega)]
      exact go (fun h => q h.1)
theorem e_103 {s : zZ} {set on : Nat} (hs : set < 64) (ho : on < 64) {i v4 v5 : Int} {x : Nat} (hx : x < 6) (hC : Cnd (s 26) set on x) (hn : ∀ y, y < x → ¬ Cnd (s 26) set on y) (hz : ∀ c, c < 6 → set / 2 ^ c % 2 = 1 → on / 2 ^ c % 2 = 0 → zr (s 26 (on ||| 2 ^ c))) : ∀ (m c f : Nat), c + m = x → m + 1 ≤ f → d_X12_order_103 s set i on v4 v5 f c = some (x : Int) := by
  intro m
  induction m with
  | zero =>
    intro c f hc hf
    obtain ⟨f, rfl⟩ : ∃ g, f = g + 1 := ⟨f - 1, by omega⟩
    have e : c = x := by omega
    subst e
    have B := b_or on ho c hx
    have p := p2c c hx
    have p0 : 0 < 2 ^ c := Nat.two_pow_pos c
    have B1 := B.1
    unfold d_X12_order_103
    rw [Int.toNat_natCast, Int.toNat_natCast, two_pow, Int.toNat_natCast, Int.toNat_natCast, bit_cast, bit_cast, hC.1, hC.2.1, if_pos (by omega), if_pos (by decide), if_neg (by decide), if_pos (by omega), if_pos (by decide), if_neg (by decide), if_pos (by omega), if_pos (by omega), if_pos (by omega), if_pos (hz c hx hC.1 hC.2.1), if_pos hC.2.2]
  | succ m ih =>
    intro c f hc hf
    obtain ⟨f, rfl⟩ : ∃ g, f = g + 1 := ⟨f - 1, by omega⟩
    have ih' := ih (c + 1) f (by omega) (by omega)
    clear ih
    have e3 : ((c : Int) + 1) = ((c + 1 : Nat) : Int) := by omega
    have lt2 : set / 2 ^ c % 2 < 2 := Nat.mod_lt _ (by decide)
    have B := b_or on ho c (by omega)
    have p := p2c c (by omega)
    have p0 : 0 < 2 ^ c := Nat.two_pow_pos c
    have B1 := B.1
    have n := hn c (by omega)
    unfold d_X12_order_103
    rw [Int.toNat_natCast, Int.toNat_natCast, two_pow, Int.toNat_natCast, Int.toNat_natCast, bit_cast, bit_cast, e3, if_pos (by omega), if_pos (by omega)]
    by_cases q : set / 2 ^ c % 2 = 1
    · rw [if_neg (by omega), if_pos (by omega), if_pos (by omega)]
      rcases B.2.1 with w | w
      · rw [if_neg (by omega), if_pos (by omega), if_pos (by omega), if_pos (by omega), if_pos (hz c (by omega) q w), if_neg (fun v => n ⟨q, w, v⟩)]
        exact ih'
      · rw [if_pos (by omega)]
        exact ih'
    · rw [if_pos (by omega)]
      exact ih'
