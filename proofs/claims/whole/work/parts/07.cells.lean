/-! fields, arrays, what is made -/
theorem xgw_of {w : Cond} (h : w ∈ lw_tbl) (g : goodWord w = true) : w ∈ xgw := List.mem_filter.mpr ⟨h, g⟩
theorem xlay_good (C : String) (T : u_T) (k : Nat) : goodWord (u_lay C T k) = true := by
  unfold u_lay
  split <;> rfl
theorem xcl : ∀ (ci : Nat) (C : String) (T : u_T) (N : Nat), vwCl[ci]? = some (C, T, N) → (∀ w ∈ u_ws C T N, w ∈ xgw) ∧ (∀ a, a < N → ∀ b, b < N → a ≠ b → (T a).2.1 ≠ (T b).2.1) ∧ (∀ k, k < N → parseFieldDescriptor (T k).2.2.1 = some (xty ci k)) ∧ N = xnf ci := by
  intro ci C T N h
  have g : ∀ w ∈ u_ws C T N, goodWord w = true := by
    intro w hw
    obtain ⟨k, -, rfl⟩ := List.mem_map.mp hw
    exact xlay_good C T k
  match ci, h with
  | 0, h => cases h; exact ⟨fun w hw => xgw_of (xin0 w hw) (g w hw), nmX0, tyX0_ok, rfl⟩
  | 1, h => cases h; exact ⟨fun w hw => xgw_of (xin1 w hw) (g w hw), nmX1, tyX1_ok, rfl⟩
  | 2, h => cases h; exact ⟨fun w hw => xgw_of (xin2 w hw) (g w hw), nmX2, tyX2_ok, rfl⟩
  | 3, h => cases h; exact ⟨fun w hw => xgw_of (xin3 w hw) (g w hw), nmX3, tyX3_ok, rfl⟩
  | 4, h => cases h; exact ⟨fun w hw => xgw_of (xin4 w hw) (g w hw), nmX4, tyX4_ok, rfl⟩
  | 5, h => cases h; exact ⟨fun w hw => xgw_of (xin5 w hw) (g w hw), nmX5, tyX5_ok, rfl⟩
  | 6, h => cases h; exact ⟨fun w hw => xgw_of (xin6 w hw) (g w hw), nmX6, tyX6_ok, rfl⟩
  | 7, h => cases h; exact ⟨fun w hw => xgw_of (xin7 w hw) (g w hw), nmX7, tyX7_ok, rfl⟩
  | 8, h => cases h; exact ⟨fun w hw => xgw_of (xin8 w hw) (g w hw), nmX8, tyX8_ok, rfl⟩
  | 9, h => cases h; exact ⟨fun w hw => xgw_of (xin9 w hw) (g w hw), nmX9, tyX9_ok, rfl⟩
  | 10, h => cases h; exact ⟨fun w hw => xgw_of (xin10 w hw) (g w hw), nmX10, tyX10_ok, rfl⟩
  | 11, h => cases h; exact ⟨fun w hw => xgw_of (xin11 w hw) (g w hw), nmX11, tyX11_ok, rfl⟩
  | 12, h => cases h; exact ⟨fun w hw => xgw_of (xin12 w hw) (g w hw), nmX12, tyX12_ok, rfl⟩
  | k + 13, h => simp [vwCl] at h
theorem xreg9 {G : xG} {hp : xH} {H : Heap} {s : State} (hR : xRel G hp H) (hW : xW G s) {o : Nat} {e : va_E} (ho : ¬ o < 9216) (hg : xget hp o = some e) : ∃ (N : Nat) (f : Nat → Int32) (cell : Cell), e = .inl (0, N, .inl f) ∧ H[xad G o]? = some cell ∧ s.isArrayOf cell .int ∧ cell.vm ≠ .unknown ∧ (N ≤ cell.slots.size ∧ cell.slots.size.toInt32 = Int32.ofNat N) ∧ ∀ j, j < N → cell.slots[j]? = some (.int (f j)) := by
  obtain ⟨reg, h1, h2⟩ := xget_spec hg
  have hl : o / 1024 < hp.length := (List.getElem?_eq_some_iff.mp h1).1
  rw [hR.2.2.1.1] at hl
  have h9 : o / 1024 = 9 := by omega
  rw [h9, hR.2.2.2.2] at h1
  cases h1
  obtain ⟨N, f, cell, q1, q2, q3⟩ := hW.2.2.2.1 _ _ h2
  refine ⟨N, f, cell, q1, ?_, q3⟩
  unfold xad
  rw [if_neg ho, show o - 9216 = o % 1024 by omega]
  have hb : G.2.2.1 (o % 1024) < G.2.1.size := (Array.getElem?_eq_some_iff.mp q2).1
  rw [hR.2.2.2.1 _ (by rw [← hW.2.2.1]; exact hb)]
  exact q2
theorem xobj_lt {G : xG} {hp : xH} {H : Heap} {s : State} (hR : xRel G hp H) (hW : xW G s) {o : Nat} {q : Nat × List Value} (hg : xget hp o = some (.inr q)) : o < 9216 := by
  by_cases ho : o < 9216
  · exact ho
  · obtain ⟨N, f, cell, q1, -⟩ := xreg9 hR hW ho hg
    cases q1
theorem xone {G : xG} {hp : xH} {H : Heap} (hR : xRel G hp H) {o : Nat} {e : va_E} (ho : o < 9216) (hg : xget hp o = some e) : va_P G.2.2.2.1 vwCl [(xad G o, xeE G e)] H := by
  intro k q hk
  have h0 : k < 1 := (List.getElem?_eq_some_iff.mp hk).1
  rw [show k = 0 by omega] at hk
  cases hk
  exact hR.1 o e ho hg
theorem xs_get {G : xG} {own : String} {cc : ByteArray} {nL : Nat} {nm : String} {rt : Option FieldType} {R : Room} {Qf : List Frame → Array Value → State → State → Prop} {pc : Nat} {lv : xL} {st : List Value} {hp : xH} {k n : Nat} {i o ci kf N : Nat} {fs : List Value} {C ref host : String} {T : u_T} {w : Value}
    (hcl : vwCl[ci]? = some (C, T, N)) (hk : kf < N) (hlink : Cond.fieldLink own i ref (T kf).2.1 (T kf).2.2.1 ∈ xgw ∨ Cond.fieldLinkNest own i ref (T kf).2.1 (T kf).2.2.1 host ∈ lw_tbl) (hsame : (T kf).1 = ref ∨ Cond.sameField ref (T kf).1 (T kf).2.1 (T kf).2.2.1 ∈ xgw)
    (hg : xget hp o = some (.inr (ci, fs))) (hv : fs[kf]? = some w) (hd : decode cc pc = .ok (.getfield i, 3)) (K : xPW G own cc nL nm rt R Qf (pc + 3) lv (w :: st) hp k n) : xPW G own cc nL nm rt R Qf pc lv (.ref o :: st) hp k n := by
  intro p l e s m args below meth c C0 ls H locs hl hR hf
  have hW := C0.2.2.2.2.2.2.2.2
  have ho := xobj_lt hR hW hg
  obtain ⟨hin, -, -, -⟩ := xcl ci C T N hcl
  have hs : ∀ x, s.fieldFound? (T kf).1 (T kf).2.1 (T kf).2.2.1 = some x → s.fieldFound? ref (T kf).2.1 (T kf).2.2.1 = some x := by
    rcases hsame with h | h
    · intro x hx
      rw [← h]
      exact hx
    · exact u_same (C0.2.2.2.2.1 _ h)
  have hv' : (fs.map (xeV G))[kf]? = some (xeV G w) := by rw [List.getElem?_map, hv]; rfl
  rcases hlink with hlink | hlink
  · exact va_get C0.1 C0.2.1 (Ts := xgw) C0.2.2.2.2.1 hin C0.2.2.2.1 hW.1 (xone hR ho hg) 0 rfl hcl kf hk (C0.2.2.2.2.1 _ hlink) hs hv' hd (K p l e s m args below meth c C0 ls H locs hl hR hf)
  · exact va_getN C0.1 C0.2.1 (Ts := xgw) C0.2.2.2.2.1 hin C0.2.2.2.1 hW.1 (xone hR ho hg) 0 rfl hcl kf hk (va_Nw.use rfl (hW.2.1 _ hlink rfl)) hs hv' hd (K p l e s m args below meth c C0 ls H locs hl hR hf)
theorem xfit_ok {G : xG} {ty : FieldType} {w : Value} (h : xfit ty w = true) : narrow ty (xeV G w) = xeV G w ∧ fits ty (xeV G w) = true := by
  unfold xfit at h
  split at h
  · exact ⟨rfl, rfl⟩
  next x =>
    have h := of_decide_eq_true h
    rcases h with rfl | rfl
    · exact ⟨show narrow .boolean (.int 0) = .int 0 by decide +kernel, show fits .boolean (.int 0) = true by decide +kernel⟩
    · exact ⟨show narrow .boolean (.int 1) = .int 1 by decide +kernel, show fits .boolean (.int 1) = true by decide +kernel⟩
  · exact ⟨rfl, rfl⟩
  · exact ⟨rfl, rfl⟩
  · exact ⟨rfl, rfl⟩
  · exact ⟨rfl, rfl⟩
  · exact ⟨rfl, rfl⟩
  · cases h
theorem xs_put {G : xG} {own : String} {cc : ByteArray} {nL : Nat} {nm : String} {rt : Option FieldType} {R : Room} {Qf : List Frame → Array Value → State → State → Prop} {pc : Nat} {lv : xL} {st : List Value} {hp : xH} {k n : Nat} {i o ci kf N : Nat} {fs : List Value} {C ref : String} {T : u_T} {w : Value}
    (hcl : vwCl[ci]? = some (C, T, N)) (hk : kf < N) (hlink : Cond.fieldLink own i ref (T kf).2.1 (T kf).2.2.1 ∈ xgw) (hsame : (T kf).1 = ref ∨ Cond.sameField ref (T kf).1 (T kf).2.1 (T kf).2.2.1 ∈ xgw) (hfin : (T kf).2.2.2 = false ∨ ((T kf).2.2.2 = true ∧ nm = "<init>" ∧ (T kf).1 = own))
    (hg : xget hp o = some (.inr (ci, fs))) (hl0 : kf < fs.length) (hft : xfit (xty ci kf) w = true) (hd : decode cc pc = .ok (.putfield i, 3)) (K : xPW G own cc nL nm rt R Qf (pc + 3) lv st (xset hp o (.inr (ci, fs.set kf w))) k n) : xPW G own cc nL nm rt R Qf pc lv (w :: .ref o :: st) hp k n := by
  intro p l e s m args below meth c C0 ls H locs hl hR hf
  have hW := C0.2.2.2.2.2.2.2.2
  have ho := xobj_lt hR hW hg
  obtain ⟨hin, hnm, hty, -⟩ := xcl ci C T N hcl
  have hts : ∀ w ∈ xgw, w.before args s = true := C0.2.2.2.2.1
  have hs : ∀ x, s.fieldFound? (T kf).1 (T kf).2.1 (T kf).2.2.1 = some x → s.fieldFound? ref (T kf).2.1 (T kf).2.2.1 = some x := by
    rcases hsame with h | h
    · intro x hx
      rw [← h]
      exact hx
    · exact u_same (hts _ h)
  have hap := va_apart (own := own) hts hin (xty ci) hty hnm hW.1 hcl
  obtain ⟨r, h1, cell, q1, q2, q3, q4⟩ := hR.1 o _ ho hg
  have hr : r = (C, T, N) := Option.some.inj (h1.symm.trans hcl)
  subst hr
  obtain ⟨hS, hfc, kC, hkC, hkind⟩ := hW.1.1 ci _ hcl
  obtain ⟨cf, kff, fi, f, hi, hsl⟩ := hS kf hk
  have hlay := hts _ (hin _ (u_in_lay hk))
  have hst := (u_facts hfc hkC (u_lays hts hin hk) hi).1
  obtain ⟨hn, hfit⟩ := xfit_ok (G := G) hft
  have hml : (fs.map (xeV G)).length = fs.length := List.length_map ..
  have after : ∀ H' : Heap, H'[xad G o]? = some (cell.setSlot f.slot (xeV G w)) → H'.size = H.size → (∀ q : Nat, q ≠ xad G o → H'[q]? = H[q]?) → W p l e R s m args below meth c H' (locs ++ [⟨xad G o, f.slot⟩]) k n (Qf below args s) (F0 m (pc + 3) ls (st.map (xeV G))) := by
    intro H' e1 e2 e3
    refine K p l e s m args below meth c C0 ls H' _ hl (hR.set ho hg e2 ?_ e3) (fun q hq => ?_)
    · rw [hsl] at e1
      have hz : xeE G (.inr (ci, fs.set kf w)) = .inr (ci, (fs.map (xeV G)).set kf (xeV G w)) := by
        show Sum.inr (ci, (fs.set kf w).map (xeV G)) = _
        rw [List.map_set]
      rw [hz]
      exact ⟨_, hcl, t_OB.to (V := updV (vp_V (fs.map (xeV G))) kf (xeV G w)) ⟨_, e1, q2, q3, t_set q4 hap hk (xeV G w)⟩ (fun j _ => vp_updV_set (by rw [hml]; exact hl0) (xeV G w) j)⟩
    · rcases List.mem_append.mp hq with h | h
      · exact hf q h
      · rw [List.mem_singleton.mp h]
        show G.1 ≤ xad G o
        rw [xad_lt ho]
        omega
  rcases hfin with hfin | ⟨hfin, hin2, hdecl⟩
  · unfold u_lay at hlay
    rw [if_neg (by rw [hfin]; decide)] at hlay
    have h6 := u_store hfc hkC hkind hlay hi (hty kf hk) hn hfit
    exact W.putK C0.1 C0.2.1 (f := f) ⟨C0.2.2.2.1, hts _ hlink, ⟨_, _, _, hs _ hi⟩, hst⟩ (by rw [q2]; exact h6) q1 q3 (by rw [hsl]; exact k2_hasslot (q4 kf hk)) rfl rfl hd after
  · unfold u_lay at hlay
    rw [if_pos hfin] at hlay
    have hcf : m.cls = cf := by
      obtain ⟨_, _, c', _, _, _, -, -, hf', -, -, -, hown2, -⟩ := Cond.laysFinal_spec hlay
      have e1 : c' = cf := by have := hi.symm.trans hf'; simp at this; exact this.1.symm
      rw [hdecl] at hown2
      rw [← e1]; exact Option.some.inj (C0.2.2.2.1.symm.trans hown2)
    have h6 := u_fits hfc hkC hkind (Or.inr hlay) hi (hty kf hk) hn hfit
    exact W.putFinK C0.1 C0.2.1 C0.2.2.2.1 (hts _ hlink) (hs _ hi) hst hcf (C0.2.2.2.2.2.2.1 hin2) (by rw [q2]; exact h6) q1 q3 (by rw [hsl]; exact k2_hasslot (q4 kf hk)) rfl rfl hd after
theorem xs_getstatic {G : xG} {own : String} {cc : ByteArray} {nL : Nat} {nm : String} {rt : Option FieldType} {R : Room} {Qf : List Frame → Array Value → State → State → Prop} {pc : Nat} {lv : xL} {st : List Value} {hp : xH} {k n : Nat} {i a : Nat}
    (ha : (a = 9217 ∧ Cond.fieldLink own i "SkinLoads$Skin" "ROW_STEPS" "[I" ∈ xgw) ∨ (a = 9218 ∧ Cond.fieldLink own i "SkinLoads$Skin" "COLUMN_STEPS" "[I" ∈ xgw)) (hd : decode cc pc = .ok (.getstatic i, 3)) (K : xPW G own cc nL nm rt R Qf (pc + 3) lv (.ref a :: st) hp k n) : xPW G own cc nL nm rt R Qf pc lv st hp k n := by
  intro p l e s m args below meth c C0 ls H locs hl hR hf
  have hW := C0.2.2.2.2.2.2.2.2
  have go : ∀ (nmF : String) (kq : Nat), a = 9216 + kq → Cond.fieldLink own i "SkinLoads$Skin" nmF "[I" ∈ xgw → va_Z "SkinLoads$Skin" nmF "[I" (.ref (G.2.2.1 kq)) (fun q => G.1 ≤ q) s G.2.1 → W p l e R s m args below meth c H locs k n (Qf below args s) (F0 m pc ls (st.map (xeV G))) := by
    intro nmF kq hkq hw hZ
    obtain ⟨cf, kf, fi, f, b, cell, h1, h2, h3, h4, h5, h6, h7, h8⟩ := hZ
    have hb : b < G.1 := by rw [← hW.2.2.1]; exact (Array.getElem?_eq_some_iff.mp h5).1
    refine W.gets C0.1 C0.2.1 C0.2.2.2.1 (C0.2.2.2.2.1 _ hw) h1 h2 h3 h4 (by rw [hR.2.2.2.1 b hb]; exact h5) (fun z => by rw [z] at h6; cases h6) h7 rfl hd ?_
    have hE : xeV G (.ref a) = .ref (G.2.2.1 kq) := by
      show Value.ref (xad G a) = _
      unfold xad
      rw [if_neg (by omega), show a - 9216 = kq by omega]
    have := K p l e s m args below meth c C0 ls H locs hl hR hf
    rw [List.map_cons, hE] at this
    exact this
  rcases ha with ⟨h1, h2⟩ | ⟨h1, h2⟩
  · exact go "ROW_STEPS" 1 h1 h2 hW.2.2.2.2.1
  · exact go "COLUMN_STEPS" 2 h1 h2 hW.2.2.2.2.2.1
