/-! clearings of tables whose columns come from one another -/
theorem fpw_congr {T T' : Nat → Nat → Int} {c c' n : Nat} (h : ∀ r, r < n → T r c = T' r c') : ∀ m r : Nat, r + m ≤ n → fpw T c m r = fpw T' c' m r := by
  intro m
  induction m with
  | zero => intro r _; rfl
  | succ m ih =>
    intro r hr
    show (if T r c = 0 then fpw T c m (r + 1) else r) = (if T' r c' = 0 then fpw T' c' m (r + 1) else r)
    rw [h r (by omega), ih (r + 1) (by omega)]
theorem tot_mulc {f : Nat → Int} {a : Int} (n : Nat) : tot (fun i => a * f i) n = a * tot f n := by
  have := tot_lin (f := f) (h := f) (a := a) (b := 0) n
  rw [show (fun i => a * f i + 0 * f i) = fun i => a * f i from funext (fun i => by omega)] at this
  omega
theorem elm_lin {n k J p p' : Nat} {D : Int} (hD : D ≠ 0) {T T' : Nat → Nat → Int} (hk : k < n) (hp : ∀ r, r < n → T' r p' = T r p) {m : Nat → Int} {j : Nat} (hj : ∀ r, r < n → T' r j = tot (fun i => m i * T r i) J) (dv : ∀ i l, i < n → i ≠ k → l < J → D ∣ (T k p * T i l - T i p * T k l)) : ∀ r, r < n → elm k p' D T' r j = tot (fun i => m i * elm k p D T r i) J := by
  intro r hr
  unfold elm
  by_cases q : r = k
  · rw [if_pos q, hj k hk]
    exact tot_congr J (fun i _ => by rw [if_pos q])
  · rw [if_neg q, hp k hk, hp r hr, hj r hr, hj k hk]
    have e1 : tot (fun i => m i * (if r = k then T k i else (T k p * T r i - T r p * T k i).tdiv D)) J = tot (fun i => m i * (T k p * T r i - T r p * T k i).tdiv D) J := tot_congr J (fun i _ => by rw [if_neg q])
    rw [e1]
    have e2 : T k p * tot (fun i => m i * T r i) J - T r p * tot (fun i => m i * T k i) J = D * tot (fun i => m i * (T k p * T r i - T r p * T k i).tdiv D) J := by
      have e5 := tot_mulc (f := fun i => m i * (T k p * T r i - T r p * T k i).tdiv D) (a := D) J
      have e3 := tot_lin (f := fun i => m i * T r i) (h := fun i => m i * T k i) (a := T k p) (b := - T r p) J
      have e4 : tot (fun i => T k p * (m i * T r i) + - T r p * (m i * T k i)) J = tot (fun i => D * (m i * (T k p * T r i - T r p * T k i).tdiv D)) J := tot_congr J (fun i hi => by
        obtain ⟨M, hM⟩ := dv r i hr q hi
        rw [hM, Int.mul_tdiv_cancel_left M hD]
        have : T k p * (m i * T r i) + - T r p * (m i * T k i) = m i * (T k p * T r i - T r p * T k i) := by grind
        rw [this, hM]
        grind)
      rw [← e5, ← e4, e3]
      grind
    rw [e2, Int.mul_tdiv_cancel_left _ hD]
theorem clr_map {n Jc Jv bars ld : Nat} {Tc Tv : Nat → Nat → Int} {ph : Nat → Nat} {cut : Nat → Prop} {mm : Nat → Nat → Int} (p0 : ph 0 = 0) (pc1 : ∀ b, b < bars → cut b → ph (b + 1) = ph b) (pc2 : ∀ b, b < bars → ¬ cut b → ph (b + 1) = ph b + 1) (hld : ∀ b, b ≤ bars → ph b ≤ ld) (hl2 : ld ≤ Jc) (hbv : bars ≤ Jv) (h0 : ∀ r j, r < n → j < Jv → Tv r j = tot (fun i => mm j i * Tc r i) Jc) (hc : ∀ b, b < bars → cut b → ∀ i, mm b i = 0) (hu : ∀ b, b < bars → ¬ cut b → ∀ i, mm b i = if i = ph b then 1 else 0) {K : Int} (hK : 0 ≤ K) (hA : ∀ j, j < ld → nv n (fun r => Tc r j) ≤ K) : ∀ b, b ≤ bars → (clr n (0, 1, Tv, fun _ => -1) b).1 = (clr n (0, 1, Tc, fun _ => -1) (ph b)).1 ∧ (clr n (0, 1, Tv, fun _ => -1) b).2.1 = (clr n (0, 1, Tc, fun _ => -1) (ph b)).2.1 ∧ (∀ r j, r < n → j < Jv → (clr n (0, 1, Tv, fun _ => -1) b).2.2.1 r j = tot (fun i => mm j i * (clr n (0, 1, Tc, fun _ => -1) (ph b)).2.2.1 r i) Jc) ∧ (∀ j, j < b → (cut j → (clr n (0, 1, Tv, fun _ => -1) b).2.2.2 j = -1) ∧ (¬ cut j → (clr n (0, 1, Tv, fun _ => -1) b).2.2.2 j = (clr n (0, 1, Tc, fun _ => -1) (ph b)).2.2.2 (ph j))) ∧ (∀ j, b ≤ j → (clr n (0, 1, Tv, fun _ => -1) b).2.2.2 j = -1) ∧ ∀ j, j < b → ¬ cut j → ph j < ph b := by
  intro b
  induction b with
  | zero =>
    intro _
    rw [p0]
    exact ⟨rfl, rfl, h0, fun j hj => by omega, fun _ _ => rfl, fun j hj => by omega⟩
  | succ b ih =>
    intro hb
    obtain ⟨i1, i2, i3, i4, i5, i6⟩ := ih (by omega)
    have ev : clr n (0, 1, Tv, fun _ => -1) (b + 1) = clr1 n b (clr n (0, 1, Tv, fun _ => -1) b) := rfl
    have kn : (clr n (0, 1, Tc, fun _ => -1) (ph b)).1 ≤ n := clr_le n _ (Nat.zero_le _) _
    by_cases q : cut b
    · have e1 : clr n (0, 1, Tv, fun _ => -1) (b + 1) = clr n (0, 1, Tv, fun _ => -1) b := by
        rw [ev]
        have z : ∀ r, r < n → (clr n (0, 1, Tv, fun _ => -1) b).2.2.1 r b = 0 := by
          intro r hr
          rw [i3 r b hr (by omega)]
          exact tot_zero Jc (fun i _ => by rw [hc b (by omega) q i, Int.zero_mul])
        have fr := fpw_rng (clr n (0, 1, Tv, fun _ => -1) b).2.2.1 b (n - (clr n (0, 1, Tv, fun _ => -1) b).1) (clr n (0, 1, Tv, fun _ => -1) b).1
        unfold clr1
        refine if_neg (fun h => ?_)
        exact fr.2.2.1 (by omega) (z _ h)
      rw [e1, pc1 b (by omega) q]
      refine ⟨i1, i2, i3, fun j hj => ?_, fun j hj => i5 j (by omega), fun j hj hn => ?_⟩
      · by_cases e : j = b
        · rw [e]
          exact ⟨fun _ => i5 b (Nat.le_refl _), fun h => absurd q h⟩
        · exact i4 j (by omega)
      · by_cases e : j = b
        · rw [e] at hn
          exact absurd q hn
        · exact i6 j (by omega) hn
    · have pb := pc2 b (by omega) q
      have hp1 := hld (b + 1) hb
      have ec : clr n (0, 1, Tc, fun _ => -1) (ph (b + 1)) = clr1 n (ph b) (clr n (0, 1, Tc, fun _ => -1) (ph b)) := by rw [pb]; rfl
      have C := clr_CI (J := Jc) hK hl2 hA (ph b) (by omega)
      have S := (CI_step hK C (by omega) (hA (ph b) (by omega))).2
      have P3 : ∀ j, ph b ≤ j → (clr n (0, 1, Tc, fun _ => -1) (ph b)).2.2.2 j = -1 := by
        obtain ⟨_, _, _, _, _, P⟩ := C
        exact P.2.2
      have D0 : (clr n (0, 1, Tc, fun _ => -1) (ph b)).2.1 ≠ 0 := by
        obtain ⟨_, _, _, _, B, _⟩ := C
        exact B.2.1
      rw [ev, ec]
      generalize clr n (0, 1, Tv, fun _ => -1) b = sv at *
      generalize clr n (0, 1, Tc, fun _ => -1) (ph b) = sc at *
      obtain ⟨k, D, T, L⟩ := sv
      obtain ⟨k', D', T', L'⟩ := sc
      dsimp only at *
      subst i1 i2
      have col : ∀ r, r < n → T r b = T' r (ph b) := by
        intro r hr
        rw [i3 r b hr (by omega), tot_one (i := ph b) Jc (by omega) (fun l hl hn => by rw [hu b (by omega) q l, if_neg hn, Int.zero_mul]), hu b (by omega) q, if_pos rfl, Int.one_mul]
      have fe : fpw T b (n - k) k = fpw T' (ph b) (n - k) k := fpw_congr col (n - k) k (by omega)
      unfold clr1
      dsimp only
      rw [fe]
      have fr := fpw_rng T' (ph b) (n - k) k
      generalize fpw T' (ph b) (n - k) k = w at *
      have sl : w < n → ∀ r, r < n → (if r = k then w else if r = w then k else r) < n := by
        intro hw r hr
        repeat' split
        all_goals omega
      by_cases wn : w < n
      · rw [if_pos wn, if_pos wn]
        dsimp only
        have sc : ∀ r, r < n → swT k w T r b = swT k w T' r (ph b) := fun r hr => col _ (sl wn r hr)
        refine ⟨rfl, sc k (by omega), fun r j hr hj => ?_, fun j hj => ?_, fun j hj => ?_, fun j hj hn => ?_⟩
        · exact elm_lin (n := n) (J := Jc) (p := ph b) (p' := b) D0 (T := swT k w T') (T' := swT k w T) (by omega) sc (m := mm j) (j := j) (fun r hr => i3 _ j (sl wn r hr) hj) (fun i l hi hn2 hl => S wn i l hi hn2 hl) r hr
        · by_cases e : j = b
          · subst e
            exact ⟨fun h => absurd h q, fun _ => by rw [if_pos rfl, if_pos rfl]⟩
          · rw [if_neg e]
            refine ⟨(i4 j (by omega)).1, fun hn => ?_⟩
            have := i6 j (by omega) hn
            rw [if_neg (by omega)]
            exact (i4 j (by omega)).2 hn
        · rw [if_neg (by omega)]
          exact i5 j (by omega)
        · rw [pb]
          by_cases e : j = b
          · rw [e]; omega
          · have := i6 j (by omega) hn
            omega
      · rw [if_neg wn, if_neg wn]
        dsimp only
        refine ⟨rfl, rfl, i3, fun j hj => ?_, fun j hj => i5 j (by omega), fun j hj hn => ?_⟩
        · by_cases e : j = b
          · subst e
            exact ⟨fun h => absurd h q, fun _ => by rw [i5 j (Nat.le_refl _), P3 (ph j) (Nat.le_refl _)]⟩
          · exact i4 j (by omega)
        · rw [pb]
          by_cases e : j = b
          · rw [e]; omega
          · have := i6 j (by omega) hn
            omega
