/-! THE REAL HEAP BEHIND THE PURE ONE -/
/-- first new cell, heap at the start, addresses of script and statics, classes, array classes, what stands there -/
abbrev xG : Type := Nat × Heap × (Nat → Nat) × va_G × (Nat → ClassId) × List va_E
def xoff (a : Nat) : Nat := xrb (a / 1024) + a % 1024
def xad (G : xG) (a : Nat) : Nat := if a < 9216 then G.1 + xoff a else G.2.2.1 (a - 9216)
def xeV (G : xG) (v : Value) : Value := match v with
  | .ref a => .ref (xad G a)
  | w => w
def xeA (G : xG) (a : vp_A) : vp_A := match a with
  | (n, .inl f) => (n, .inl f)
  | (n, .inr (.inl f)) => (n, .inr (.inl f))
  | (n, .inr (.inr (.inl f))) => (n, .inr (.inr (.inl f)))
  | (n, .inr (.inr (.inr (.inl f)))) => (n, .inr (.inr (.inr (.inl f))))
  | (n, .inr (.inr (.inr (.inr f)))) => (n, .inr (.inr (.inr (.inr (fun i => (f i).map (xad G))))))
def xeE (G : xG) (e : va_E) : va_E := match e with
  | .inl q => .inl (G.2.2.2.2.1 q.1, xeA G q.2)
  | .inr o => .inr (o.1, o.2.map (xeV G))
def xtys (G : xG) : List (ClassId × FieldType) := [(G.2.2.2.2.1 0, .int), (G.2.2.2.2.1 1, .long), (G.2.2.2.2.1 2, .boolean), (G.2.2.2.2.1 3, .array .int), (G.2.2.2.2.1 4, .array .long), (G.2.2.2.2.1 5, .object "SkinLoads$Bar")]
def xok (hp : xH) : Prop := hp.length = 10 ∧ ∀ (r : Nat) (reg : List va_E), r < 9 → hp[r]? = some reg → reg.length = min (xcap r) (xtot hp - xrb r)
def xRel (G : xG) (hp : xH) (H : Heap) : Prop := (∀ (a : Nat) (e : va_E), a < 9216 → xget hp a = some e → va_at G.2.2.2.1 vwCl (xad G a, xeE G e) H) ∧ H.size = G.1 + xtot hp ∧ xok hp ∧ (∀ q : Nat, q < G.1 → H[q]? = G.2.1[q]?) ∧ hp[9]? = some G.2.2.2.2.2
theorem xcap_lt : ∀ r, r < 9 → ∀ q, q < 9 → r < q → xrb r + xcap r ≤ xrb q := by decide
theorem xcap_le : ∀ r, r < 9 → xcap r ≤ 1024 := by decide
theorem xget_spec {hp : xH} {a : Nat} {e : va_E} (h : xget hp a = some e) : ∃ reg, hp[a / 1024]? = some reg ∧ reg[a % 1024]? = some e := by
  unfold xget at h
  split at h
  · exact ⟨_, by assumption, h⟩
  · cases h
theorem xget_lt {hp : xH} {a : Nat} {e : va_E} (hk : xok hp) (ha : a < 9216) (h : xget hp a = some e) : a % 1024 < xcap (a / 1024) ∧ xoff a < xtot hp := by
  obtain ⟨reg, h1, h2⟩ := xget_spec h
  have h3 : a % 1024 < reg.length := (List.getElem?_eq_some_iff.mp h2).1
  have h4 := hk.2 (a / 1024) reg (by omega) h1
  unfold xoff
  omega
theorem xoff_inj {hp : xH} {a b : Nat} {e f : va_E} (hk : xok hp) (ha : a < 9216) (hb : b < 9216) (h : xget hp a = some e) (g : xget hp b = some f) (he : xoff a = xoff b) : a = b := by
  have h1 := (xget_lt hk ha h).1
  have h2 := (xget_lt hk hb g).1
  unfold xoff at he
  rcases Nat.lt_trichotomy (a / 1024) (b / 1024) with q | q | q
  · have := xcap_lt _ (show a / 1024 < 9 by omega) _ (show b / 1024 < 9 by omega) q
    omega
  · rw [q] at he
    omega
  · have := xcap_lt _ (show b / 1024 < 9 by omega) _ (show a / 1024 < 9 by omega) q
    omega
theorem xset_eq {hp : xH} {a : Nat} {reg : List va_E} (h : hp[a / 1024]? = some reg) (e : va_E) : xset hp a e = hp.set (a / 1024) (reg.set (a % 1024) e) := by
  unfold xset
  rw [h]
theorem xget_set_self {hp : xH} {a : Nat} {e0 : va_E} (h : xget hp a = some e0) (e : va_E) : xget (xset hp a e) a = some e := by
  obtain ⟨reg, h1, h2⟩ := xget_spec h
  have l1 : a / 1024 < hp.length := (List.getElem?_eq_some_iff.mp h1).1
  have l2 : a % 1024 < reg.length := (List.getElem?_eq_some_iff.mp h2).1
  rw [xset_eq h1]
  unfold xget
  rw [List.getElem?_set_self l1]
  exact List.getElem?_set_self l2
theorem xget_set_ne {hp : xH} {a b : Nat} {e0 : va_E} (h : xget hp a = some e0) (e : va_E) (hn : b ≠ a) : xget (xset hp a e) b = xget hp b := by
  obtain ⟨reg, h1, h2⟩ := xget_spec h
  have l1 : a / 1024 < hp.length := (List.getElem?_eq_some_iff.mp h1).1
  rw [xset_eq h1]
  unfold xget
  by_cases hq : b / 1024 = a / 1024
  · rw [hq, List.getElem?_set_self l1, h1]
    show (reg.set (a % 1024) e)[b % 1024]? = reg[b % 1024]?
    exact List.getElem?_set_ne (by omega)
  · rw [List.getElem?_set_ne (fun q => hq q.symm)]
theorem xlens_set {hp : xH} {a : Nat} {e0 : va_E} (h : xget hp a = some e0) (e : va_E) : (xset hp a e).map List.length = hp.map List.length := by
  obtain ⟨reg, h1, h2⟩ := xget_spec h
  rw [xset_eq h1, List.map_set, List.length_set]
  apply List.ext_getElem?
  intro i
  by_cases hi : i = a / 1024
  · subst hi
    have l1 : a / 1024 < hp.length := (List.getElem?_eq_some_iff.mp h1).1
    rw [List.getElem?_set_self (by simpa using l1), List.getElem?_map, h1]
    rfl
  · rw [List.getElem?_set_ne (fun q => hi q.symm)]
theorem xtot_map (hp : xH) : xtot hp = ((hp.map List.length).take 9).sum := by
  unfold xtot
  rw [List.map_take]
theorem xtot_set {hp : xH} {a : Nat} {e0 : va_E} (h : xget hp a = some e0) (e : va_E) : xtot (xset hp a e) = xtot hp := by
  rw [xtot_map, xtot_map, xlens_set h]
theorem xok_of {hp hp' : xH} (h : hp'.map List.length = hp.map List.length) (hk : xok hp) : xok hp' := by
  have hl : hp'.length = hp.length := by
    have := congrArg List.length h
    simpa using this
  refine ⟨hl.trans hk.1, fun r reg hr hreg => ?_⟩
  have h1 : (hp'.map List.length)[r]? = some reg.length := by rw [List.getElem?_map, hreg]; rfl
  rw [h, List.getElem?_map] at h1
  cases h2 : hp[r]? with
  | none => rw [h2] at h1; cases h1
  | some reg2 =>
    rw [h2] at h1
    have h3 : reg2.length = reg.length := Option.some.inj h1
    rw [← h3, hk.2 r reg2 hr h2, xtot_map hp', h, ← xtot_map]
theorem xRel.get {G : xG} {hp : xH} {H : Heap} (h : xRel G hp H) {a : Nat} {e : va_E} (ha : a < 9216) (hg : xget hp a = some e) : va_at G.2.2.2.1 vwCl (G.1 + xoff a, xeE G e) H := by
  have h1 := h.1 a e ha hg
  unfold xad at h1
  rw [if_pos ha] at h1
  exact h1
theorem xad_lt {G : xG} {a : Nat} (h : a < 9216) : xad G a = G.1 + xoff a := by
  unfold xad
  rw [if_pos h]
/-- a cell is changed -/
theorem xRel.set {G : xG} {hp : xH} {H H1 : Heap} (h : xRel G hp H) {a : Nat} {e0 e : va_E} (ha : a < 9216) (hg : xget hp a = some e0) (hz : H1.size = H.size) (he : va_at G.2.2.2.1 vwCl (xad G a, xeE G e) H1) (ho : ∀ q : Nat, q ≠ xad G a → H1[q]? = H[q]?) : xRel G (xset hp a e) H1 := by
  obtain ⟨h1, h2, h3, h4, h5⟩ := h
  refine ⟨fun b f hb hf => ?_, by rw [hz, h2, xtot_set hg], xok_of (xlens_set hg e) h3, fun q hq => ?_, ?_⟩
  · by_cases hn : b = a
    · subst hn
      rw [xget_set_self hg] at hf
      cases hf
      exact he
    · rw [xget_set_ne hg e hn] at hf
      refine (h1 b f hb hf).kept (ho _ fun q => hn ?_)
      rw [xad_lt hb, xad_lt ha] at q
      exact xoff_inj h3 hb ha hf hg (by omega)
  · rw [ho q (by rw [xad_lt ha]; omega)]
    exact h4 q hq
  · obtain ⟨reg, g1, g2⟩ := xget_spec hg
    rw [xset_eq g1, List.getElem?_set_ne (by omega)]
    exact h5
theorem xreg_spec : ∀ t, t < 160 → xreg t < 9 ∧ xrb (xreg t) ≤ t ∧ t - xrb (xreg t) < xcap (xreg t) := by decide +kernel
theorem xreg_lens : ∀ t, t < 160 → ∀ r, r < 9 → min (xcap r) (t + 1 - xrb r) = if r = xreg t then t - xrb r + 1 else min (xcap r) (t - xrb r) := by decide +kernel
theorem xreg_self : ∀ t, t < 160 → min (xcap (xreg t)) (t - xrb (xreg t)) = t - xrb (xreg t) := by decide +kernel
theorem xpush_eq {hp : xH} {reg : List va_E} (h : hp[xreg (xtot hp)]? = some reg) (e : va_E) : xpush hp e = hp.set (xreg (xtot hp)) (reg ++ [e]) := by
  unfold xpush
  rw [h]
theorem xsum_set : ∀ (l : List Nat) (i n : Nat), l[i]? = some n → ((l.set i (n + 1)).take 9).sum = (l.take 9).sum + if i < 9 then 1 else 0 := by
  have key : ∀ (k : Nat) (l : List Nat) (i n : Nat), l[i]? = some n → ((l.set i (n + 1)).take k).sum = (l.take k).sum + if i < k then 1 else 0 := by
    intro k
    induction k with
    | zero => intro l i n _; simp
    | succ k ih =>
      intro l i n h
      cases l with
      | nil => simp at h
      | cons x l =>
        cases i with
        | zero =>
          simp at h
          subst h
          simp
          omega
        | succ i =>
          simp at h
          have := ih l i n (by simpa using h)
          simp only [List.set_cons_succ, List.take_succ_cons, List.sum_cons, this]
          by_cases q : i < k
          · rw [if_pos q, if_pos (by omega)]; omega
          · rw [if_neg q, if_neg (by omega)]; omega
  exact key 9
theorem xpush_spec {hp : xH} (hk : xok hp) (ht : xtot hp < 160) (e : va_E) : xtot (xpush hp e) = xtot hp + 1 ∧ xok (xpush hp e) ∧ (xpush hp e)[9]? = hp[9]? ∧ xget (xpush hp e) (xfr (xtot hp)) = some e ∧ xfr (xtot hp) < 9216 ∧ xoff (xfr (xtot hp)) = xtot hp ∧ ∀ b, b < 9216 → b ≠ xfr (xtot hp) → xget (xpush hp e) b = xget hp b := by
  obtain ⟨s1, s2, s3⟩ := xreg_spec _ ht
  have hcap := xcap_le _ s1
  obtain ⟨reg, hreg⟩ : ∃ reg, hp[xreg (xtot hp)]? = some reg := ⟨_, List.getElem?_eq_getElem (by rw [hk.1]; omega)⟩
  have hlen : reg.length = xtot hp - xrb (xreg (xtot hp)) := by rw [hk.2 _ reg s1 hreg, xreg_self _ ht]
  have l1 : xreg (xtot hp) < hp.length := (List.getElem?_eq_some_iff.mp hreg).1
  have d1 : xfr (xtot hp) / 1024 = xreg (xtot hp) := by unfold xfr; omega
  have d2 : xfr (xtot hp) % 1024 = xtot hp - xrb (xreg (xtot hp)) := by unfold xfr; omega
  have htot : xtot (xpush hp e) = xtot hp + 1 := by
    rw [xtot_map, xpush_eq hreg, List.map_set, List.length_append, List.length_singleton, xsum_set _ _ _ (by rw [List.getElem?_map, hreg]; rfl), if_pos s1, ← xtot_map]
  refine ⟨htot, ⟨?_, fun r reg2 hr h2 => ?_⟩, ?_, ?_, ?_, ?_, fun b hb hn => ?_⟩
  · rw [xpush_eq hreg, List.length_set, hk.1]
  · rw [htot, xreg_lens _ ht r hr]
    rw [xpush_eq hreg] at h2
    by_cases q : r = xreg (xtot hp)
    · rw [if_pos q]
      subst q
      rw [List.getElem?_set_self l1] at h2
      cases h2
      rw [List.length_append, hlen]
      rfl
    · rw [if_neg q]
      rw [List.getElem?_set_ne (fun z => q z.symm)] at h2
      exact hk.2 r reg2 hr h2
  · rw [xpush_eq hreg, List.getElem?_set_ne (by omega)]
  · unfold xget
    rw [d1, d2, xpush_eq hreg, List.getElem?_set_self l1, ← hlen]
    simp
  · unfold xfr; omega
  · unfold xoff
    rw [d1, d2]; omega
  · unfold xget
    rw [xpush_eq hreg]
    by_cases q : b / 1024 = xreg (xtot hp)
    · rw [q, List.getElem?_set_self l1, hreg]
      show (reg ++ [e])[b % 1024]? = reg[b % 1024]?
      have hne : b % 1024 ≠ reg.length := fun z => hn (by unfold xfr; omega)
      by_cases hl : b % 1024 < reg.length
      · rw [List.getElem?_append_left hl]
      · rw [List.getElem?_append_right (by omega), List.getElem?_eq_none (l := reg) (by omega), List.getElem?_eq_none]
        simp; omega
    · rw [List.getElem?_set_ne (fun z => q z.symm)]
/-- a cell is made -/
theorem xRel.push {G : xG} {hp : xH} {H H1 : Heap} (h : xRel G hp H) (ht : xtot hp < 160) {e : va_E} (hz : H1.size = H.size + 1) (he : va_at G.2.2.2.1 vwCl (H.size, xeE G e) H1) (ho : ∀ q : Nat, q < H.size → H1[q]? = H[q]?) : xRel G (xpush hp e) H1 ∧ xad G (xfr (xtot hp)) = H.size := by
  obtain ⟨h1, h2, h3, h4, h5⟩ := h
  obtain ⟨p1, p2, p3, p4, p5, p6, p7⟩ := xpush_spec h3 ht e
  have had : xad G (xfr (xtot hp)) = H.size := by rw [xad_lt p5, p6, h2]
  refine ⟨⟨fun b f hb hf => ?_, by rw [hz, h2, p1]; omega, p2, fun q hq => ?_, by rw [p3]; exact h5⟩, had⟩
  · by_cases hn : b = xfr (xtot hp)
    · subst hn
      rw [p4] at hf
      cases hf
      rw [had]
      exact he
    · rw [p7 b hb hn] at hf
      refine (h1 b f hb hf).kept (ho _ ?_)
      have := (xget_lt h3 hb hf).2
      show xad G b < H.size
      rw [xad_lt hb, h2]
      omega
  · rw [ho q (by omega)]
    exact h4 q hq
