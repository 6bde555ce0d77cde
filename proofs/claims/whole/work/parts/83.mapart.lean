/-! the skin: lots laid and counted in the reference -/
theorem e_ll2 : ∀ (m k f : Nat) (s : zZ), k + m = 100 → m + 1 ≤ f → (∀ x, x < k → s 28 x = -9) → ∃ z s', d_X12_layLots_2 f k s = some (z, s') ∧ (∀ q, q ≠ 28 → s' q = s q) ∧ ∀ x, x < 100 → s' 28 x = -9 := by
  intro m
  induction m with
  | zero =>
    intro k f s hk hf h
    obtain ⟨f, rfl⟩ : ∃ h, f = h + 1 := ⟨f - 1, by omega⟩
    unfold d_X12_layLots_2
    rw [if_pos (by omega), if_pos (by omega)]
    exact ⟨_, _, rfl, fun _ _ => rfl, fun x hx => h x (by omega)⟩
  | succ m ih =>
    intro k f s hk hf h
    obtain ⟨f, rfl⟩ : ∃ h, f = h + 1 := ⟨f - 1, by omega⟩
    unfold d_X12_layLots_2
    have e3 : ((k : Int) + 1) = ((k + 1 : Nat) : Int) := by omega
    simp only [e3, Int.toNat_natCast]
    rw [if_pos (by omega), if_neg (by omega), if_pos (by omega)]
    obtain ⟨z, s', a1, a2, a3⟩ := ih (k + 1) f (upz s 28 k (-9)) (by omega) (by omega) (fun x hx => by
      rw [upz_at, if_pos rfl]
      by_cases q : x = k
      · rw [if_pos q]
      · rw [if_neg q]
        exact h x (by omega))
    exact ⟨z, s', a1, fun q hq => by rw [a2 q hq, upz_ne _ _ _ _ hq], a3⟩
/-- lots laid up to the place k: n lots, each with its first place -/
def Ly (g : Nat → Int) (n k : Nat) (rep : Nat → Nat) (s : zZ) : Prop := (∀ x, x < 100 → s 27 x = g x) ∧ (∀ x, x < 100 → s 28 x = -9 ∨ (0 ≤ s 28 x ∧ s 28 x < n)) ∧ (∀ x, x < 100 → (s 28 x ≠ -9 ↔ ∃ j, j < k ∧ Con g j x)) ∧ (∀ x y, x < 100 → y < 100 → s 28 x ≠ -9 → (s 28 y = s 28 x ↔ Con g x y)) ∧ (∀ l, l < n → rep l < k ∧ s 28 (rep l) = l ∧ ∀ j, j < rep l → ¬ Con g j (rep l)) ∧ n ≤ k
theorem e_ll26 {g : Nat → Int} (hg : ∀ a, a < 100 → g a = 0 ∨ g a = 1) {h : Nat → Int} (hz : ∀ k, k < 100 → (∃ j, j < k ∧ Con g j k) → h k = 0) : ∀ (m k n f : Nat) (rep : Nat → Nat) (s : zZ), k + m = 100 → m + 1 ≤ f → Ly g n k rep s → tot (fun l => h (rep l)) n = tot h k → ∃ (N : Nat) (z : Int) (rep' : Nat → Nat) (s' : zZ), d_X12_layLots_26 f n k s = some ((N : Int), z, s') ∧ Ly g N 100 rep' s' ∧ tot (fun l => h (rep' l)) N = tot h 100 ∧ (∀ q, q ≠ 28 → s' q = s q) := by
  intro m
  induction m with
  | zero =>
    intro k n f rep s hk hf L T
    obtain ⟨f, rfl⟩ : ∃ h, f = h + 1 := ⟨f - 1, by omega⟩
    unfold d_X12_layLots_26
    have : k = 100 := by omega
    subst this
    rw [if_pos (by omega), if_pos (by omega)]
    exact ⟨n, _, rep, s, rfl, L, T, fun _ _ => rfl⟩
  | succ m ih =>
    intro k n f rep s hk hf L T
    obtain ⟨f, rfl⟩ : ∃ h, f = h + 1 := ⟨f - 1, by omega⟩
    unfold d_X12_layLots_26
    have L' := L
    obtain ⟨l1, l2, l3, l4, l5, l6⟩ := L'
    have e3 : ((k : Int) + 1) = ((k + 1 : Nat) : Int) := by omega
    have en : ((n : Int) + 1) = ((n + 1 : Nat) : Int) := by omega
    have lk := l2 k (by omega)
    simp only [e3, en, Int.toNat_natCast]
    rw [if_pos (by omega), if_neg (by omega), if_pos (by omega), if_pos (by omega)]
    by_cases q : s 28 k = -9
    · rw [if_neg (by omega)]
      have new : ∀ j, j < k → ¬ Con g j k := fun j hj e => (l3 k (by omega)).mpr ⟨j, hj, e⟩ q
      have un9 : ∀ x, Con g k x → s 28 x = -9 := by
        intro x hx
        have x100 := Con_lt (show k < 100 by omega) hx
        by_cases e : s 28 x = -9
        · exact e
        · exfalso
          obtain ⟨j, j1, j2⟩ := (l3 x x100).mp e
          exact new j j1 (Con_trans j2 (Con_symm hx))
      obtain ⟨s1, c1, c2, c3, c4⟩ := e_spread hg (fr := k) (by omega) (lot := n) (by omega) (s := s) l1 l2 un9
      rw [c1, Option.bind_some]
      have Ly1 : Ly g (n + 1) (k + 1) (fun l => if l = n then k else rep l) s1 := by
        have dec : ∀ x, x < 100 → (Con g k x ∧ s1 28 x = n) ∨ (¬ Con g k x ∧ s1 28 x = s 28 x) := by
          intro x hx
          by_cases e : Con g k x
          · exact Or.inl ⟨e, c3 x e⟩
          · exact Or.inr ⟨e, c4 x hx e⟩
        refine ⟨by rw [c2 27 (by decide)]; exact l1, fun x hx => ?_, fun x hx => ?_, fun x y hx hy h9 => ?_, fun l hl => ?_, by omega⟩
        · rcases dec x hx with e | e
          · omega
          · have := l2 x hx
            omega
        · rcases dec x hx with e | e
          · constructor
            · exact fun _ => ⟨k, by omega, e.1⟩
            · exact fun _ => by omega
          · rw [e.2, l3 x hx]
            constructor
            · exact fun ⟨j, j1, j2⟩ => ⟨j, by omega, j2⟩
            · intro ⟨j, j1, j2⟩
              by_cases r : j = k
              · rw [r] at j2
                exact absurd j2 e.1
              · exact ⟨j, by omega, j2⟩
        · rcases dec x hx with e | e <;> rcases dec y hy with d | d
          · constructor
            · exact fun _ => Con_trans (Con_symm e.1) d.1
            · exact fun _ => by omega
          · have ly := l2 y hy
            constructor
            · intro _; omega
            · exact fun r => absurd (Con_trans e.1 r) d.1
          · have lx := l2 x hx
            constructor
            · intro _; omega
            · exact fun r => absurd (Con_trans d.1 (Con_symm r)) e.1
          · rw [e.2, d.2]
            exact l4 x y hx hy (by rw [← e.2]; exact h9)
        · show (if l = n then k else rep l) < k + 1 ∧ s1 28 (if l = n then k else rep l) = (l : Int) ∧ ∀ j, j < (if l = n then k else rep l) → ¬ Con g j (if l = n then k else rep l)
          by_cases r : l = n
          · rw [if_pos r, r]
            exact ⟨by omega, c3 k (Con_refl g k), new⟩
          · rw [if_neg r]
            obtain ⟨r1, r2, r3⟩ := l5 l (by omega)
            refine ⟨by omega, ?_, r3⟩
            rcases dec (rep l) (by omega) with e | e
            · have := un9 (rep l) e.1
              omega
            · rw [e.2]; exact r2
      have T1 : tot (fun l => h (if l = n then k else rep l)) (n + 1) = tot h (k + 1) := by
        show tot (fun l => h (if l = n then k else rep l)) n + h (if n = n then k else rep n) = tot h k + h k
        rw [if_pos rfl, tot_congr (w := fun l => h (rep l)) n (fun a ha => by show h (if a = n then k else rep a) = h (rep a); rw [if_neg (by omega)]), T]
      obtain ⟨N, z, rep', s', d1, d2, d3, d4⟩ := ih (k + 1) (n + 1) f _ s1 (by omega) (by omega) Ly1 T1
      exact ⟨N, z, rep', s', d1, d2, d3, fun q hq => by rw [d4 q hq, c2 q hq]⟩
    · rw [if_pos q]
      obtain ⟨j0, j1, j2⟩ := (l3 k (by omega)).mp q
      have L1 : Ly g n (k + 1) rep s := by
        refine ⟨l1, l2, fun x hx => ?_, l4, fun l hl => ?_, by omega⟩
        · rw [l3 x hx]
          constructor
          · exact fun ⟨j, k1, k2⟩ => ⟨j, by omega, k2⟩
          · intro ⟨j, k1, k2⟩
            by_cases r : j = k
            · rw [r] at k2
              exact ⟨j0, j1, Con_trans j2 k2⟩
            · exact ⟨j, by omega, k2⟩
        · have := l5 l hl
          exact ⟨by omega, this.2⟩
      exact ih (k + 1) n f rep s (by omega) (by omega) L1 (by
        show _ = tot h k + h k
        rw [T, hz k (by omega) ⟨j0, j1, j2⟩, Int.add_zero])
theorem e_isRim {a : Nat} (ha : a < 100) : d_X12_isRim a = some (if a / 10 = 0 ∨ a / 10 = 9 ∨ a % 10 = 0 ∨ a % 10 = 9 then 1 else 0) := by
  unfold d_X12_isRim
  repeat' split
  all_goals first | rfl | (exfalso; omega)
theorem e_ap22 {g : Nat → Int} (hg : ∀ a, a < 100 → g a = 0 ∨ g a = 1) {kd all cn : Int} (hk : kd = 0 ∨ kd = 1) {l : Int} (hl : zr l) {s : zZ} (h27 : ∀ x, x < 100 → s 27 x = g x) (h28 : ∀ x, x < 100 → zr (s 28 x)) : ∀ (m a f : Nat) (is : Int), a + m = 100 → m + 1 ≤ f → (is = 0 ∨ is = 1) → (is = 1 ↔ ∀ x, x < a → s 28 x = l → g x = kd ∧ ¬ hld g x) → ∃ I z, d_X12_apart_22 s kd all cn l f is a = some (I, z) ∧ (I = 0 ∨ I = 1) ∧ (I = 1 ↔ ∀ x, x < 100 → s 28 x = l → g x = kd ∧ ¬ hld g x) := by
  intro m
  induction m with
  | zero =>
    intro a f is ha hf h1 h2
    obtain ⟨f, rfl⟩ : ∃ h, f = h + 1 := ⟨f - 1, by omega⟩
    unfold d_X12_apart_22
    have : a = 100 := by omega
    subst this
    rw [if_pos (by omega), if_pos (by omega)]
    exact ⟨_, _, rfl, h1, h2⟩
  | succ m ih =>
    intro a f is ha hf h1 h2
    obtain ⟨f, rfl⟩ : ∃ h, f = h + 1 := ⟨f - 1, by omega⟩
    unfold d_X12_apart_22
    have a100 : a < 100 := by omega
    have e3 : ((a : Int) + 1) = ((a + 1 : Nat) : Int) := by omega
    have z := h28 a a100
    have ga := hg a a100
    have g1 := h27 a a100
    simp only [e3, Int.toNat_natCast, g1]
    rw [if_pos (by omega), if_neg (by omega), if_pos (by omega), if_pos (by omega)]
    have spl : (∀ x, x < a + 1 → s 28 x = l → g x = kd ∧ ¬ hld g x) ↔ ((∀ x, x < a → s 28 x = l → g x = kd ∧ ¬ hld g x) ∧ (s 28 a = l → g a = kd ∧ ¬ hld g a)) := by
      constructor
      · exact fun H => ⟨fun x hx => H x (by omega), H a (by omega)⟩
      · intro H x hx
        by_cases q : x = a
        · rw [q]; exact H.2
        · exact H.1 x (by omega)
    have go : ∀ is', (is' = 0 ∨ is' = 1) → (is' = 1 ↔ (is = 1 ∧ (s 28 a = l → g a = kd ∧ ¬ hld g a))) → ∃ I z, d_X12_apart_22 s kd all cn l f is' (a + 1 : Nat) = some (I, z) ∧ (I = 0 ∨ I = 1) ∧ (I = 1 ↔ ∀ x, x < 100 → s 28 x = l → g x = kd ∧ ¬ hld g x) := by
      intro is' k1 k2
      exact ih (a + 1) f is' (by omega) (by omega) k1 (by rw [spl, k2, h2])
    clear ih
    by_cases q1 : s 28 a = l
    · rw [if_neg (fun h => h q1), if_pos (by rcases h1 with h | h <;> rw [h] <;> decide)]
      by_cases q2 : is = 0
      · rw [if_pos q2]
        exact go 0 (Or.inl rfl) ⟨fun h => absurd h (by decide), fun h => absurd (h.1.symm.trans q2) (by decide)⟩
      · have i1 : is = 1 := by rcases h1 with h | h; exact absurd h q2; exact h
        have zz : zr (g a) ∧ zr kd := by clear go spl; omega
        rw [if_neg q2, if_pos ⟨by clear go spl; omega, by clear go spl; omega⟩, if_pos zz]
        by_cases q3 : g a = kd
        · rw [if_neg (fun h => h q3), if_pos zz.2]
          have r1 : ∀ v : Int, (v = 0 ∨ v = 1) → (v = 1 ↔ ¬ hld g a) → ∃ I z, d_X12_apart_22 s kd all cn l f v (a + 1 : Nat) = some (I, z) ∧ (I = 0 ∨ I = 1) ∧ (I = 1 ↔ ∀ x, x < 100 → s 28 x = l → g x = kd ∧ ¬ hld g x) := by
            intro v v1 v2
            refine go v v1 ?_
            rw [v2]
            exact ⟨fun h => ⟨i1, fun _ => ⟨q3, h⟩⟩, fun h => (h.2 q1).2⟩
          clear go
          by_cases q4 : kd = 0
          · rw [if_pos q4, if_pos (by clear r1 spl; omega), if_pos (by clear r1 spl; omega)]
            by_cases q5 : (a : Int) / 10 = 9
            · rw [if_pos q5]
              refine r1 0 (Or.inl rfl) ⟨fun h => absurd h (by decide), fun h => absurd (Or.inl ⟨q3.trans q4, by clear r1 spl h; omega⟩) h⟩
            · rw [if_neg q5]
              refine r1 1 (Or.inr rfl) ⟨fun _ h => ?_, fun _ => rfl⟩
              unfold hld at h
              clear r1 spl
              omega
          · rw [if_neg q4, e_isRim a100, Option.bind_some]
            by_cases q5 : a / 10 = 0 ∨ a / 10 = 9 ∨ a % 10 = 0 ∨ a % 10 = 9
            · rw [if_pos q5, if_pos (by decide), if_neg (by decide)]
              exact r1 0 (Or.inl rfl) ⟨fun h => absurd h (by decide), fun h => absurd (Or.inr ⟨fun e => q4 (q3.symm.trans e), q5⟩) h⟩
            · rw [if_neg q5, if_pos (by decide), if_pos (by decide)]
              refine r1 1 (Or.inr rfl) ⟨fun _ h => ?_, fun _ => rfl⟩
              rcases h with h | h
              · exact q4 (q3.symm.trans h.1)
              · exact q5 h.2
        · rw [if_pos q3]
          exact go 0 (Or.inl rfl) ⟨fun h => absurd h (by decide), fun h => absurd (h.2 q1).1 q3⟩
    · rw [if_pos q1]
      refine go is h1 ⟨fun h => ⟨h, fun h' => absurd h' q1⟩, fun h => h.1⟩
theorem e_ap10 {g : Nat → Int} (hg : ∀ a, a < 100 → g a = 0 ∨ g a = 1) {kd : Int} (hk : kd = 0 ∨ kd = 1) {N : Nat} (hN : N ≤ 100) {s : zZ} (h27 : ∀ x, x < 100 → s 27 x = g x) (h28 : ∀ x, x < 100 → zr (s 28 x)) {h : Nat → Int} (hh : ∀ l, l < N → (h l = 1 ∧ ∀ x, x < 100 → s 28 x = (l : Int) → g x = kd ∧ ¬ hld g x) ∨ (h l = 0 ∧ ¬ ∀ x, x < 100 → s 28 x = (l : Int) → g x = kd ∧ ¬ hld g x)) : ∀ (m l f : Nat) (cn : Int), l + m = N → m + 1 ≤ f → ∃ z, d_X12_apart_10 s kd N f cn l = some (cn + tot h N - tot h l, z) := by
  intro m
  induction m with
  | zero =>
    intro l f cn hl hf
    obtain ⟨f, rfl⟩ : ∃ h, f = h + 1 := ⟨f - 1, by omega⟩
    unfold d_X12_apart_10
    have : l = N := by omega
    subst this
    rw [if_pos (by omega), if_pos (by omega)]
    refine ⟨(l : Int), ?_⟩
    rw [show cn + tot h l - tot h l = cn by omega]
  | succ m ih =>
    intro l f cn hl hf
    obtain ⟨f, rfl⟩ : ∃ h, f = h + 1 := ⟨f - 1, by omega⟩
    unfold d_X12_apart_10
    have e3 : ((l : Int) + 1) = ((l + 1 : Nat) : Int) := by omega
    obtain ⟨I, z, i1, i2, i3⟩ := e_ap22 hg (all := N) (cn := cn) hk (l := l) (by omega) h27 h28 100 0 zF 1 (by omega) (by unfold zF; omega) (Or.inr rfl) ⟨fun _ x hx => absurd hx (Nat.not_lt_zero _), fun _ => rfl⟩
    rw [show ((0 : Nat) : Int) = 0 from rfl] at i1
    have tl : tot h (l + 1) = tot h l + h l := rfl
    have H := hh l (by omega)
    rw [if_pos (by omega), if_neg (by omega), i1, Option.bind_some, e3]
    dsimp only
    rw [if_pos (by omega)]
    by_cases q : I = 0
    · rw [if_pos q]
      have h0 : h l = 0 := by
        rcases H with x | x
        · exact absurd (i3.mpr x.2) (by omega)
        · exact x.1
      obtain ⟨z', hz⟩ := ih (l + 1) f (cn + 0) (by omega) (by omega)
      refine ⟨z', ?_⟩
      rw [hz, tl, h0, Int.add_zero, Int.add_zero]
    · rw [if_neg q]
      have h1 : h l = 1 := by
        rcases H with x | x
        · exact x.1
        · exact absurd (i3.mp (by omega)) x.2
      obtain ⟨z', hz⟩ := ih (l + 1) f (cn + 1) (by omega) (by omega)
      refine ⟨z', ?_⟩
      rw [hz, tl, h1]
      congr 2
      omega
theorem e_apart {g : Nat → Int} (hg : ∀ a, a < 100 → g a = 0 ∨ g a = 1) {kd : Int} (hk : kd = 0 ∨ kd = 1) {s : zZ} (h27 : ∀ x, x < 100 → s 27 x = g x) {h : Nat → Int} (hh : ∀ k, k < 100 → (h k = 1 ∧ Qk g kd k) ∨ (h k = 0 ∧ ¬ Qk g kd k)) : ∃ s', d_X12_apart s kd = some (tot h 100, s') ∧ Fr [28] [] s s' := by
  obtain ⟨z1, s1, a1, a2, a3⟩ := e_ll2 100 0 zF s (by omega) (by unfold zF; omega) (fun x hx => by omega)
  have L0 : Ly g 0 0 (fun _ => 0) s1 := by
    refine ⟨by rw [a2 27 (by decide)]; exact h27, fun x hx => Or.inl (a3 x hx), fun x hx => ?_, fun x y hx hy h9 => absurd (a3 x hx) h9, fun l hl => by omega, by omega⟩
    constructor
    · exact fun e => absurd (a3 x hx) e
    · intro ⟨j, j1, _⟩
      omega
  obtain ⟨N, z, rep, s2, b1, b2, b3, b4⟩ := e_ll26 hg (h := h) (fun k hk2 ⟨j, j1, j2⟩ => by
    rcases hh k hk2 with x | x
    · exact absurd j2 (x.2.2.1 j j1)
    · exact x.1) 100 0 0 zF (fun _ => 0) s1 (by omega) (by unfold zF; omega) L0 rfl
  obtain ⟨l1, l2, l3, l4, l5, l6⟩ := b2
  obtain ⟨z3, c1⟩ := e_ap10 hg hk (N := N) l6 (s := s2) l1 (fun x hx => by have := l2 x hx; omega) (h := fun l => h (rep l)) (fun l hl => by
    obtain ⟨r1, r2, r3⟩ := l5 l hl
    have mem : ∀ x, x < 100 → (s2 28 x = (l : Int) ↔ Con g (rep l) x) := by
      intro x hx
      have := l4 (rep l) x (by omega) hx (by omega)
      rw [← this, r2]
    have eqv : Qk g kd (rep l) ↔ ∀ x, x < 100 → s2 28 x = (l : Int) → g x = kd ∧ ¬ hld g x := by
      constructor
      · intro Q x hx e
        have cx := (mem x hx).mp e
        exact ⟨by rw [Con_g cx]; exact Q.1, Q.2.2 x cx⟩
      · intro H
        refine ⟨(H (rep l) (by omega) r2).1, r3, fun x cx => ?_⟩
        have x100 := Con_lt (show rep l < 100 by omega) cx
        exact (H x x100 ((mem x x100).mpr cx)).2
    rcases hh (rep l) (by omega) with x | x
    · exact Or.inl ⟨x.1, eqv.mp x.2⟩
    · exact Or.inr ⟨x.1, fun H => x.2 (eqv.mpr H)⟩) N 0 zF 0 (by omega) (by unfold zF; omega)
  rw [show ((0 : Nat) : Int) = 0 from rfl] at a1 b1 c1
  unfold d_X12_apart d_X12_layLots
  rw [a1, Option.bind_some]
  dsimp only
  rw [b1, Option.bind_some, Option.bind_some]
  dsimp only
  rw [c1, Option.bind_some]
  refine ⟨s2, ?_, ⟨fun q h0 hq => ?_, fun j _ => by rw [b4 0 (by decide), a2 0 (by decide)]⟩⟩
  · show some (0 + tot (fun l => h (rep l)) N - 0, s2) = _
    rw [b3, show 0 + tot h 100 - 0 = tot h 100 by omega]
  · simp only [List.mem_cons, List.not_mem_nil, or_false] at hq
    rw [b4 q hq, a2 q hq]
