/-! the net: order -/
theorem NK_fr {s3 s8 s7 s : zZ} {ks : List Int} {B F : Nat} (K : NK s3 s8 ks s7 B F) (h : Fr [22, 23, 24, 25, 26] [33] s7 s) : NK s3 s8 ks s B F := by
  obtain ⟨R, hB, hF, h11, h5, H⟩ := K
  exact ⟨ND_fr R h, by rw [h.2 25 (by decide)]; exact hB, by rw [h.2 21 (by decide)]; exact hF, h11, h5, H⟩
theorem sub_cast {on set : Nat} : (on : Int) - ((on &&& set : Nat) : Int) = 0 ↔ on &&& set = on := by
  have := Nat.and_le_left (n := on) (m := set)
  omega
/-- the class above the set: not a part -/
theorem e_oA {s8 : zZ} {ks : List Int} {set : Nat} {pl : Int} (hs : set < 64) : ∀ (m f : Nat) (s : zZ), set + m < 64 → ∃ s', d_X4_orderedCase_8 s8 ks set pl (f + m) ((set + m : Nat) : Int) s = d_X4_orderedCase_8 s8 ks set pl f (set : Int) s' ∧ (∀ q, q ≠ 44 → s' q = s q) ∧ (∀ x, set < x → x ≤ set + m → s' 44 x = 0) ∧ ∀ x, set + m < x → s' 44 x = s 44 x := by
  intro m
  induction m with
  | zero =>
    intro f s hm
    exact ⟨s, rfl, fun _ _ => rfl, fun x h1 h2 => by omega, fun _ _ => rfl⟩
  | succ m ih =>
    intro f s hm
    have nle : ¬ ((set + (m + 1)) &&& set = set + (m + 1)) := fun h => by
      have := Nat.and_le_right (n := set + (m + 1)) (m := set)
      omega
    have nz : ((set + (m + 1) : Nat) : Int) - (((set + (m + 1)) &&& set : Nat) : Int) ≠ 0 := fun h => nle (sub_cast.mp h)
    have lel := Nat.and_le_left (n := set + (m + 1)) (m := set)
    obtain ⟨s', a1, a2, a3, a4⟩ := ih f (upz s 44 (set + (m + 1)) 0) (by omega)
    refine ⟨s', ?_, fun q hq => by rw [a2 q hq, upz_ne _ _ _ _ hq], fun x h1 h2 => ?_, fun x hx => ?_⟩
    · rw [← a1, show f + (m + 1) = f + m + 1 by omega]
      show d_X4_orderedCase_8 s8 ks set pl (f + m + 1) _ s = _
      rw [d_X4_orderedCase_8, Int.toNat_natCast, Int.toNat_natCast, if_pos (by omega), if_neg (by omega), if_pos (by omega), if_pos (by omega), if_pos nz, if_pos (by omega), show ((set + (m + 1) : Nat) : Int) + -1 = ((set + m : Nat) : Int) by omega]
    · by_cases e : x = set + (m + 1)
      · rw [a4 x (by omega), upz_at, if_pos rfl, if_pos e]
      · exact a3 x h1 (by omega)
    · rw [a4 x (by omega), upz_at, if_pos rfl, if_neg (by omega)]
def RO (set : Nat) (g h : Nat → Int) (x : Nat) : Prop := (x &&& set = x → g x = h x) ∧ (¬ (x &&& set = x) → g x = 0) ∧ (g x = 0 ∨ g x = 1) ∧ (g x ≠ 0 → x = set ∨ ∃ c, c < 6 ∧ Cnd g set x c)
theorem Cnd_up {g g' : Nat → Int} {set on c : Nat} (ho : on < 64) (hc : c < 6) (h : ∀ y, on < y → y < 64 → g' y = g y) : Cnd g' set on c ↔ Cnd g set on c := by
  unfold Cnd
  constructor
  · rintro ⟨a, b, d⟩
    have B := b_or on ho c hc
    exact ⟨a, b, by rw [← h _ (B.2.2.2.1 b) B.1]; exact d⟩
  · rintro ⟨a, b, d⟩
    have B := b_or on ho c hc
    exact ⟨a, b, by rw [h _ (B.2.2.2.1 b) B.1]; exact d⟩
theorem RO_up {g g' h h' : Nat → Int} {set on x : Nat} (hx : on < x) (h64 : x < 64) (e1 : ∀ y, on < y → g' y = g y) (e2 : ∀ y, on < y → h' y = h y) (r : RO set g h x) : RO set g' h' x := by
  obtain ⟨a, b, c, d⟩ := r
  unfold RO
  rw [e1 x hx, e2 x hx]
  refine ⟨a, b, c, fun w => ?_⟩
  rcases d w with q | ⟨y, q1, q2⟩
  · exact Or.inl q
  · exact Or.inr ⟨y, q1, (Cnd_up h64 q1 (fun z hz _ => e1 z (by omega))).mpr q2⟩
theorem e_gate {s3 s8 s7 : zZ} {ks : List Int} {B F : Nat} (K : NK s3 s8 ks s7 B F) {set on : Nat} (hs : set < 64) (ho : on < 64) (hsub : on &&& set = on) (hk : (XN s3 s8 B (2 * F)).1 = cn s8 B) (hst : ∀ c, c < 6 → set / 2 ^ c % 2 = 1 → stB s3 s8 B F (2 ^ c)) {f : Nat} {t : zZ} (fr : Fr [22, 23, 24, 25, 26] [33] s7 t) : ∃ (v : Int) (t' : zZ), (if (zr (on : Int)) then (if (on : Int) = 0 then (if (0 ≤ (on : Int) ∧ (on : Int) < 64) then (d_X12_findOrder_2 set f ((on : Int) + (-1)) (upz t 26 on 1)) else none) else ((d_X12_doesNoneGive t on).bind fun y25 => if (zr y25.1) then (if y25.1 = 0 then (if (0 ≤ (on : Int) ∧ (on : Int) < 64) then (d_X12_findOrder_2 set f ((on : Int) + (-1)) (upz y25.2 26 on 0)) else none) else (if (0 ≤ (on : Int) ∧ (on : Int) < 64) then (d_X12_findOrder_2 set f ((on : Int) + (-1)) (upz y25.2 26 on 1)) else none)) else none)) else none) = d_X12_findOrder_2 set f ((on : Int) + (-1)) (upz t' 26 on v) ∧ ((v = 1 ∧ nng s3 s8 B F on) ∨ (v = 0 ∧ ¬ nng s3 s8 B F on)) ∧ Fr [22, 23, 24] [33] t t' := by
  have Kt := NK_fr K fr
  by_cases z : on = 0
  · rw [if_pos (by omega), if_pos (by omega), if_pos (by omega)]
    refine ⟨1, t, rfl, Or.inl ⟨rfl, fun b hb => ?_⟩, Fr_refl _ _ _⟩
    have e : smU s3 s8 B F on b 6 = 0 := tot_zero 6 (fun c _ => by
      rw [z, Nat.zero_div]
      exact if_neg (by decide))
    have r8 := K.1.2.2.2.2.2.2.2.1 b (by have := K.2.1; omega)
    rw [e]
    exact Int.mul_nonneg (by omega) (by omega)
  · obtain ⟨v, t', a1, a2, a3⟩ := e_doesNoneGive Kt.1 Kt.2.1 Kt.2.2.1 ho hk (stB_sub (fun c hc hb => hst c hc (bit_sub ho hs hc hsub hb)))
    rw [if_pos (by omega), if_neg (by omega), a1, Option.bind_some]
    dsimp only
    rcases a3 with ⟨rfl, n⟩ | ⟨rfl, n⟩
    · rw [if_pos (by decide), if_neg (by decide), if_pos (by omega)]
      exact ⟨1, t', rfl, Or.inl ⟨rfl, n⟩, a2⟩
    · rw [if_pos (by decide), if_pos rfl, if_pos (by omega)]
      exact ⟨0, t', rfl, Or.inr ⟨rfl, n⟩, a2⟩
theorem e_oB {s3 s8 s7 : zZ} {ks : List Int} {B F : Nat} (K : NK s3 s8 ks s7 B F) {set : Nat} {pl : Int} (hs : set < 64) (hk : (XN s3 s8 B (2 * F)).1 = cn s8 B) (hst : ∀ c, c < 6 → set / 2 ^ c % 2 = 1 → stB s3 s8 B F (2 ^ c)) : ∀ (m f fm : Nat) (s t : zZ), m ≤ set + 1 → m + 1 ≤ f → m + 1 ≤ fm → (∀ q, q ≠ 44 → s q = s3 q) → Fr [22, 23, 24, 25, 26] [33] s7 t → (∀ x, m ≤ x → x < 64 → RO set (s 44) (t 26) x) → ∃ z z' s' t', d_X4_orderedCase_8 s8 ks set pl f ((m : Int) - 1) s = some (z, s') ∧ d_X12_findOrder_2 set fm ((m : Int) - 1) t = some (z', t') ∧ (∀ q, q ≠ 44 → s' q = s3 q) ∧ Fr [22, 23, 24, 25, 26] [33] s7 t' ∧ ∀ x, x < 64 → RO set (s' 44) (t' 26) x := by
  intro m
  induction m with
  | zero =>
    intro f fm s t hm hf hfm e fr r
    obtain ⟨f, rfl⟩ : ∃ g, f = g + 1 := ⟨f - 1, by omega⟩
    obtain ⟨fm, rfl⟩ : ∃ g, fm = g + 1 := ⟨fm - 1, by omega⟩
    unfold d_X4_orderedCase_8 d_X12_findOrder_2
    rw [if_pos (by omega), if_pos (by omega), if_pos (by omega), if_pos (by omega)]
    exact ⟨_, _, _, _, rfl, rfl, e, fr, fun x hx => r x (by omega) hx⟩
  | succ m ih =>
    intro f fm s t hm hf hfm e fr r
    obtain ⟨f, rfl⟩ : ∃ g, f = g + 1 := ⟨f - 1, by omega⟩
    obtain ⟨fm, rfl⟩ : ∃ g, fm = g + 1 := ⟨fm - 1, by omega⟩
    have e1 : ((m + 1 : Nat) : Int) - 1 = (m : Int) := by omega
    have e2 : (m : Int) + -1 = (m : Int) - 1 := by omega
    have m64 : m < 64 := by omega
    have lel := Nat.and_le_left (n := m) (m := set)
    have hs24 : ∀ q, q < 24 → s q = s3 q := fun q hq => e q (by omega)
    have up44 : ∀ v y, m < y → upz s 44 m v 44 y = s 44 y := fun v y hy => by rw [upz_at, if_pos rfl, if_neg (by omega)]
    have zc : ∀ x, m < x → x < 64 → zr (s 44 x) := fun x h1 h2 => by
      have := (r x (by omega) h2).2.2.1
      omega
    have eqv : m &&& set = m → ∀ c, c < 6 → set / 2 ^ c % 2 = 1 → m / 2 ^ c % 2 = 0 → s 44 (m ||| 2 ^ c) = t 26 (m ||| 2 ^ c) := fun hsub c hc h1 h2 => by
      have Bo := b_or m m64 c hc
      exact (r (m ||| 2 ^ c) (by have := Bo.2.2.2.1 h2; omega) Bo.1).1 (sub_or hs hc hsub h1)
    have zm : m &&& set = m → ∀ c, c < 6 → set / 2 ^ c % 2 = 1 → m / 2 ^ c % 2 = 0 → zr (t 26 (m ||| 2 ^ c)) := fun hsub c hc h1 h2 => by
      have Bo := b_or m m64 c hc
      rw [← eqv hsub c hc h1 h2]
      exact zc _ (Bo.2.2.2.1 h2) Bo.1
    have cq : m &&& set = m → ∀ c, c < 6 → (Cnd (s 44) set m c ↔ Cnd (t 26) set m c) := fun hsub c hc => by
      unfold Cnd
      constructor
      · rintro ⟨a, b, d⟩
        exact ⟨a, b, by rw [← eqv hsub c hc a b]; exact d⟩
      · rintro ⟨a, b, d⟩
        exact ⟨a, b, by rw [eqv hsub c hc a b]; exact d⟩
    have next : ∀ (v : Int) (t' : zZ), Fr [22, 23, 24] [33] t t' → RO set (upz s 44 m v 44) (upz t' 26 m v 26) m → ∃ z z' s' t'', d_X4_orderedCase_8 s8 ks set pl f ((m : Int) - 1) (upz s 44 m v) = some (z, s') ∧ d_X12_findOrder_2 set fm ((m : Int) - 1) (upz t' 26 m v) = some (z', t'') ∧ (∀ q, q ≠ 44 → s' q = s3 q) ∧ Fr [22, 23, 24, 25, 26] [33] s7 t'' ∧ ∀ x, x < 64 → RO set (s' 44) (t'' 26) x := by
      intro v t' f' r'
      have t26 : t' 26 = t 26 := f'.1 26 (by decide) (by decide)
      refine ih f fm (upz s 44 m v) (upz t' 26 m v) (by omega) (by omega) (by omega) (fun q hq => by rw [upz_ne _ _ _ _ hq]; exact e q hq) (Fr_upz (by decide) (by decide) (Fr_trans fr (Fr_mono (by decide) (by decide) f'))) (fun x h1 h2 => ?_)
      by_cases w : x = m
      · rw [w]; exact r'
      · exact RO_up (on := m) (by omega) h2 (up44 v) (fun y hy => by rw [upz_at, if_pos rfl, if_neg (by omega), t26]) (r x (by omega) h2)
    have hit44 : ∀ v, upz s 44 m v 44 m = v := fun v => upz_hit _ _ _ _
    have hit26 : ∀ (v : Int) (t' : zZ), upz t' 26 m v 26 m = v := fun v t' => upz_hit _ _ _ _
    have put : ∀ (v : Int) (t' : zZ), m &&& set = m → (v = 0 ∨ v = 1) → (v ≠ 0 → m = set ∨ ∃ c, c < 6 ∧ Cnd (s 44) set m c) → RO set (upz s 44 m v 44) (upz t' 26 m v 26) m := by
      intro v t' h1 h2 h3
      unfold RO
      rw [hit44, hit26]
      refine ⟨fun _ => rfl, fun n => absurd h1 n, h2, fun w => ?_⟩
      rcases h3 w with q | ⟨c, c1, c2⟩
      · exact Or.inl q
      · exact Or.inr ⟨c, c1, (Cnd_up m64 c1 (fun y hy _ => up44 v y hy)).mpr c2⟩
    rw [e1, d_X4_orderedCase_8, d_X12_findOrder_2, Int.toNat_natCast, Int.toNat_natCast]
    by_cases hsub : m &&& set = m
    · have z0 := sub_cast.mpr hsub
      by_cases ms : m = set
      · have f31 : d_X12_findOrder_31 t set m zF 1 0 = some (1, 0) := by
          rw [show zF = (zF - 1) + 1 by unfold zF; rfl]
          unfold d_X12_findOrder_31
          rw [if_pos (by decide), if_neg (by decide), if_pos (by decide), if_pos (by decide)]
        obtain ⟨v, t', g1, g2, g3⟩ := e_gate K hs m64 hsub hk hst (f := fm) fr
        rcases e_noneGives K hs24 m64 with ⟨a, b⟩ | ⟨a, b⟩
        · rcases g2 with ⟨rfl, _⟩ | ⟨_, n⟩
          · rw [if_pos (by omega), if_neg (by omega), if_pos (by omega), if_pos (by omega), if_neg (fun h => h z0), if_pos (by omega), if_pos (by omega), a, Option.bind_some, if_pos (by decide), if_neg (by decide), if_pos (by omega), if_pos (by omega), if_neg (by omega), if_pos (by omega), if_pos (by omega), if_pos z0, if_pos (by omega), if_neg (fun h => h (by omega)), f31, Option.bind_some]
            dsimp only
            rw [if_pos (by decide), if_neg (by decide), g1, e2]
            exact next 1 t' g3 (put 1 t' hsub (Or.inr rfl) (fun _ => Or.inl ms))
          · exact absurd b n
        · rcases g2 with ⟨_, n⟩ | ⟨rfl, _⟩
          · exact absurd n b
          · rw [if_pos (by omega), if_neg (by omega), if_pos (by omega), if_pos (by omega), if_neg (fun h => h z0), if_pos (by omega), if_pos (by omega), a, Option.bind_some, if_pos (by decide), if_pos rfl, if_pos (by omega), if_pos (by omega), if_neg (by omega), if_pos (by omega), if_pos (by omega), if_pos z0, if_pos (by omega), if_neg (fun h => h (by omega)), f31, Option.bind_some]
            dsimp only
            rw [if_pos (by decide), if_neg (by decide), g1, e2]
            exact next 0 t' g3 (put 0 t' hsub (Or.inl rfl) (fun h => absurd rfl h))
      · have F1 := e_first hs m64 zc
        have F2 := e_f31 hs m64 (zm hsub) 6 0 zF (by omega) (by unfold zF; omega)
        rw [show ((0 : Nat) : Int) = 0 from rfl] at F2
        rcases F1 with ⟨a, b⟩ | ⟨x, a, b1, b2, b3⟩
        · rcases F2 with ⟨z, a', b'⟩ | ⟨z, a', y, y1, y2, y3⟩
          · rw [if_pos (by omega), if_neg (by omega), if_pos (by omega), if_pos (by omega), if_neg (fun h => h z0), if_pos (by omega), if_neg (by omega), a, Option.bind_some, if_pos (by decide), if_pos (by decide), if_pos (by omega), if_pos (by omega), if_neg (by omega), if_pos (by omega), if_pos (by omega), if_pos z0, if_pos (by omega), if_pos (by omega), a', Option.bind_some]
            dsimp only
            rw [if_pos (by decide), if_pos rfl, if_pos (by omega), e2]
            exact next 0 t (Fr_refl _ _ _) (put 0 t hsub (Or.inl rfl) (fun h => absurd rfl h))
          · exact absurd ((cq hsub y y2).mpr y3) (b y y2)
        · rcases F2 with ⟨z, a', b'⟩ | ⟨z, a', y, y1, y2, y3⟩
          · exact absurd ((cq hsub x b1).mp b2) (b' x (Nat.zero_le _) b1)
          · obtain ⟨v, t', g1, g2, g3⟩ := e_gate K hs m64 hsub hk hst (f := fm) fr
            rcases e_noneGives K hs24 m64 with ⟨c1, c2⟩ | ⟨c1, c2⟩
            · rcases g2 with ⟨rfl, _⟩ | ⟨_, n⟩
              · rw [if_pos (by omega), if_neg (by omega), if_pos (by omega), if_pos (by omega), if_neg (fun h => h z0), if_pos (by omega), if_neg (by omega), a, Option.bind_some, if_pos (by omega), if_neg (by omega), c1, Option.bind_some, if_pos (by decide), if_neg (by decide), if_pos (by omega), if_pos (by omega), if_neg (by omega), if_pos (by omega), if_pos (by omega), if_pos z0, if_pos (by omega), if_pos (by omega), a', Option.bind_some]
                dsimp only
                rw [if_pos (by decide), if_neg (by decide), g1, e2]
                exact next 1 t' g3 (put 1 t' hsub (Or.inr rfl) (fun _ => Or.inr ⟨x, b1, b2⟩))
              · exact absurd c2 n
            · rcases g2 with ⟨_, n⟩ | ⟨rfl, _⟩
              · exact absurd n c2
              · rw [if_pos (by omega), if_neg (by omega), if_pos (by omega), if_pos (by omega), if_neg (fun h => h z0), if_pos (by omega), if_neg (by omega), a, Option.bind_some, if_pos (by omega), if_neg (by omega), c1, Option.bind_some, if_pos (by decide), if_pos rfl, if_pos (by omega), if_pos (by omega), if_neg (by omega), if_pos (by omega), if_pos (by omega), if_pos z0, if_pos (by omega), if_pos (by omega), a', Option.bind_some]
                dsimp only
                rw [if_pos (by decide), if_neg (by decide), g1, e2]
                exact next 0 t' g3 (put 0 t' hsub (Or.inl rfl) (fun h => absurd rfl h))
    · have nz : ¬ ((m : Int) - ((m &&& set : Nat) : Int) = 0) := fun h => hsub (sub_cast.mp h)
      rw [if_pos (by omega), if_neg (by omega), if_pos (by omega), if_pos (by omega), if_pos nz, if_pos (by omega), if_pos (by omega), if_neg (by omega), if_pos (by omega), if_pos (by omega), if_neg nz, e2]
      refine ih f fm (upz s 44 m 0) t (by omega) (by omega) (by omega) (fun q hq => by rw [upz_ne _ _ _ _ hq]; exact e q hq) fr (fun x h1 h2 => ?_)
      by_cases w : x = m
      · rw [w]
        unfold RO
        rw [hit44]
        exact ⟨fun h => absurd h hsub, fun _ => rfl, Or.inl rfl, fun h => absurd rfl h⟩
      · exact RO_up (on := m) (by omega) h2 (up44 0) (fun _ _ => rfl) (r x (by omega) h2)
