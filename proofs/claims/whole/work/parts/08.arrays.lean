/-! arrays, and what is made -/
theorem xs_iald {G : xG} {own : String} {cc : ByteArray} {nL : Nat} {nm : String} {rt : Option FieldType} {R : Room} {Qf : List Frame → Array Value → State → State → Prop} {pc : Nat} {lv : xL} {st : List Value} {hp : xH} {k n : Nat} {o N : Nat} {i : Int32} (hin : ¬ (i < 0 ∨ N ≤ i.toNatClampNeg)) {f : Nat → Int32} (hg : xget hp o = some (.inl (0, N, .inl f))) (hd : decode cc pc = .ok (.iaload, 1)) (K : xPW G own cc nL nm rt R Qf (pc + 1) lv (.int (f i.toNatClampNeg) :: st) hp k n) : xPW G own cc nL nm rt R Qf pc lv (.int i :: .ref o :: st) hp k n := by
  intro p l e s m args below meth c C0 ls H locs hl hR hf
  have hW := C0.2.2.2.2.2.2.2.2
  by_cases ho : o < 9216
  · exact va_iald C0.1 C0.2.1 hW.1 (xone hR ho hg) 0 0 rfl rfl hin hd (K p l e s m args below meth c C0 ls H locs hl hR hf)
  · obtain ⟨N2, f2, cell, q1, q2, q3, q4, q5, q6⟩ := xreg9 hR hW ho hg
    cases q1
    have hlt : i.toNatClampNeg < N := Nat.not_le.mp fun q => hin (Or.inr q)
    exact W.iald (v := .int (f i.toNatClampNeg)) C0.1 C0.2.1 q2 q3 q4 (fun q => hin (by rcases q with q | q; exact Or.inl q; exact Or.inr (Nat.le_trans q5.1 q))) (q6 _ hlt) rfl rfl hd (K p l e s m args below meth c C0 ls H locs hl hR hf)
theorem xs_bald {G : xG} {own : String} {cc : ByteArray} {nL : Nat} {nm : String} {rt : Option FieldType} {R : Room} {Qf : List Frame → Array Value → State → State → Prop} {pc : Nat} {lv : xL} {st : List Value} {hp : xH} {k n : Nat} {o N : Nat} {i : Int32} (hin : ¬ (i < 0 ∨ N ≤ i.toNatClampNeg)) {f : Nat → Int32} (hg : xget hp o = some (.inl (2, N, .inl f))) (hd : decode cc pc = .ok (.baload, 1)) (K : xPW G own cc nL nm rt R Qf (pc + 1) lv (.int (f i.toNatClampNeg) :: st) hp k n) : xPW G own cc nL nm rt R Qf pc lv (.int i :: .ref o :: st) hp k n := by
  intro p l e s m args below meth c C0 ls H locs hl hR hf
  have hW := C0.2.2.2.2.2.2.2.2
  by_cases ho : o < 9216
  · exact va_zald C0.1 C0.2.1 hW.1 (xone hR ho hg) 0 2 rfl rfl hin hd (K p l e s m args below meth c C0 ls H locs hl hR hf)
  · obtain ⟨N2, f2, cell, q1, -⟩ := xreg9 hR hW ho hg
    cases q1
theorem xs_lald {G : xG} {own : String} {cc : ByteArray} {nL : Nat} {nm : String} {rt : Option FieldType} {R : Room} {Qf : List Frame → Array Value → State → State → Prop} {pc : Nat} {lv : xL} {st : List Value} {hp : xH} {k n : Nat} {o N : Nat} {i : Int32} (hin : ¬ (i < 0 ∨ N ≤ i.toNatClampNeg)) {f : Nat → Int64} (hg : xget hp o = some (.inl (1, N, .inr (.inl f)))) (hd : decode cc pc = .ok (.laload, 1)) (K : xPW G own cc nL nm rt R Qf (pc + 1) lv (.long (f i.toNatClampNeg) :: st) hp k n) : xPW G own cc nL nm rt R Qf pc lv (.int i :: .ref o :: st) hp k n := by
  intro p l e s m args below meth c C0 ls H locs hl hR hf
  have hW := C0.2.2.2.2.2.2.2.2
  by_cases ho : o < 9216
  · exact va_lald C0.1 C0.2.1 hW.1 (xone hR ho hg) 0 1 rfl rfl hin hd (K p l e s m args below meth c C0 ls H locs hl hR hf)
  · obtain ⟨N2, f2, cell, q1, -⟩ := xreg9 hR hW ho hg
    cases q1
theorem xrf_e (G : xG) (x : Option Nat) : xeV G (xrf x) = va_rf (x.map (xad G)) := by
  cases x <;> rfl
theorem xtys_at (G : xG) : ∀ c, 3 ≤ c → c ≤ 5 → ∃ ty, (xtys G)[c]? = some (G.2.2.2.2.1 c, ty) ∧ ty.isReference = true
  | 3, _, _ => ⟨_, rfl, rfl⟩
  | 4, _, _ => ⟨_, rfl, rfl⟩
  | 5, _, _ => ⟨_, rfl, rfl⟩
theorem xtys_any (G : xG) : ∀ c, c ≤ 5 → ∃ ty, (xtys G)[c]? = some (G.2.2.2.2.1 c, ty)
  | 0, _ => ⟨_, rfl⟩
  | 1, _ => ⟨_, rfl⟩
  | 2, _ => ⟨_, rfl⟩
  | 3, _ => ⟨_, rfl⟩
  | 4, _ => ⟨_, rfl⟩
  | 5, _ => ⟨_, rfl⟩
theorem xs_aald {G : xG} {own : String} {cc : ByteArray} {nL : Nat} {nm : String} {rt : Option FieldType} {R : Room} {Qf : List Frame → Array Value → State → State → Prop} {pc : Nat} {lv : xL} {st : List Value} {hp : xH} {k n : Nat} {o N : Nat} {i : Int32} (hin : ¬ (i < 0 ∨ N ≤ i.toNatClampNeg)) {c0 : Nat} {f : Nat → Option Nat} (hc0 : 3 ≤ c0) (hc1 : c0 ≤ 5) (hg : xget hp o = some (.inl (c0, N, .inr (.inr (.inr (.inr f)))))) (hd : decode cc pc = .ok (.aaload, 1)) (K : xPW G own cc nL nm rt R Qf (pc + 1) lv (xrf (f i.toNatClampNeg) :: st) hp k n) : xPW G own cc nL nm rt R Qf pc lv (.int i :: .ref o :: st) hp k n := by
  intro p l e s m args below meth c C0 ls H locs hl hR hf
  have hW := C0.2.2.2.2.2.2.2.2
  by_cases ho : o < 9216
  · obtain ⟨ty, ht, href⟩ := xtys_at G c0 hc0 hc1
    have hlt : i.toNatClampNeg < N := Nat.not_le.mp fun q => hin (Or.inr q)
    have hcell : H[xad G o]? = some (arrV (G.2.2.2.2.1 c0) N (fun j => va_rf ((f j).map (xad G)))) := hR.1 o _ ho hg
    have hk := (K p l e s m args below meth c C0 ls H locs hl hR hf)
    rw [List.map_cons, xrf_e] at hk
    exact W.aald (v := va_rf ((f i.toNatClampNeg).map (xad G))) (ty := ty) C0.1 C0.2.1 hcell ((hW.1.2 c0 _ ht).1 N (fun j => va_rf ((f j).map (xad G)))) href (fun q => by cases q) (by rw [arrV_size]; exact hin) (by rw [arrV_read _ _ hlt]) rfl rfl hd hk
  · obtain ⟨N2, f2, cell, q1, -⟩ := xreg9 hR hW ho hg
    cases q1
theorem xs_iast {G : xG} {own : String} {cc : ByteArray} {nL : Nat} {nm : String} {rt : Option FieldType} {R : Room} {Qf : List Frame → Array Value → State → State → Prop} {pc : Nat} {lv : xL} {st : List Value} {hp : xH} {k n : Nat} {o N : Nat} {i : Int32} (hin : ¬ (i < 0 ∨ N ≤ i.toNatClampNeg)) {f : Nat → Int32} {w : Int32} (ho : o < 9216) (hg : xget hp o = some (.inl (0, N, .inl f))) (hd : decode cc pc = .ok (.iastore, 1)) (K : xPW G own cc nL nm rt R Qf (pc + 1) lv st (xset hp o (.inl (0, N, .inl (upd f i.toNatClampNeg w)))) k n) : xPW G own cc nL nm rt R Qf pc lv (.int w :: .int i :: .ref o :: st) hp k n := by
  intro p l e s m args below meth c C0 ls H locs hl hR hf
  have hW := C0.2.2.2.2.2.2.2.2
  have after : ∀ (H' : Heap) (v0 : Nat), va_at G.2.2.2.1 vwCl (xad G o, xeE G (.inl (0, N, .inl (upd f i.toNatClampNeg w)))) H' → H'.size = H.size → (∀ q : Nat, q ≠ xad G o → H'[q]? = H[q]?) → W p l e R s m args below meth c H' (locs ++ [⟨xad G o, v0⟩]) k n (Qf below args s) (F0 m (pc + 1) ls (st.map (xeV G))) := by
    intro H' v0 e1 e2 e3
    refine K p l e s m args below meth c C0 ls H' _ hl (hR.set ho hg e2 e1 e3) (fun q hq => ?_)
    rcases List.mem_append.mp hq with h | h
    · exact hf q h
    · rw [List.mem_singleton.mp h]
      show G.1 ≤ xad G o
      rw [xad_lt ho]
      omega
  have hcell : H[xad G o]? = some (arrV (G.2.2.2.2.1 0) N (fun j => .int (f j))) := hR.1 o _ ho hg
  refine W.iast C0.1 C0.2.1 hcell ((hW.1.2 0 _ rfl).1 N (fun j => .int (f j))) (fun q => by cases q) (by rw [arrV_size]; exact hin) rfl rfl hd fun H1 e0 z oq => after H1 _ ?_ z oq
  show H1[xad G o]? = some (arrV (G.2.2.2.2.1 0) N (fun j => .int ((upd f i.toNatClampNeg w) j)))
  rw [e0, arrV_store]
  congr 2
  funext q
  by_cases hq : q = i.toNatClampNeg
  · subst hq
    simp [updV, upd]
  · simp [updV, upd, hq]
theorem xs_last {G : xG} {own : String} {cc : ByteArray} {nL : Nat} {nm : String} {rt : Option FieldType} {R : Room} {Qf : List Frame → Array Value → State → State → Prop} {pc : Nat} {lv : xL} {st : List Value} {hp : xH} {k n : Nat} {o N : Nat} {i : Int32} (hin : ¬ (i < 0 ∨ N ≤ i.toNatClampNeg)) {f : Nat → Int64} {w : Int64} (ho : o < 9216) (hg : xget hp o = some (.inl (1, N, .inr (.inl f)))) (hd : decode cc pc = .ok (.lastore, 1)) (K : xPW G own cc nL nm rt R Qf (pc + 1) lv st (xset hp o (.inl (1, N, .inr (.inl (vp_updL f i.toNatClampNeg w))))) k n) : xPW G own cc nL nm rt R Qf pc lv (.long w :: .int i :: .ref o :: st) hp k n := by
  intro p l e s m args below meth c C0 ls H locs hl hR hf
  have hW := C0.2.2.2.2.2.2.2.2
  have after : ∀ (H' : Heap) (v0 : Nat), va_at G.2.2.2.1 vwCl (xad G o, xeE G (.inl (1, N, .inr (.inl (vp_updL f i.toNatClampNeg w))))) H' → H'.size = H.size → (∀ q : Nat, q ≠ xad G o → H'[q]? = H[q]?) → W p l e R s m args below meth c H' (locs ++ [⟨xad G o, v0⟩]) k n (Qf below args s) (F0 m (pc + 1) ls (st.map (xeV G))) := by
    intro H' v0 e1 e2 e3
    refine K p l e s m args below meth c C0 ls H' _ hl (hR.set ho hg e2 e1 e3) (fun q hq => ?_)
    rcases List.mem_append.mp hq with h | h
    · exact hf q h
    · rw [List.mem_singleton.mp h]
      show G.1 ≤ xad G o
      rw [xad_lt ho]
      omega
  have hcell : H[xad G o]? = some (arrV (G.2.2.2.2.1 1) N (fun j => .long (f j))) := hR.1 o _ ho hg
  refine W.last C0.1 C0.2.1 hcell ((hW.1.2 1 _ rfl).1 N (fun j => .long (f j))) (fun q => by cases q) (by rw [arrV_size]; exact hin) rfl rfl hd fun H1 e0 z oq => after H1 _ ?_ z oq
  show H1[xad G o]? = some (arrV (G.2.2.2.2.1 1) N (fun j => .long ((vp_updL f i.toNatClampNeg w) j)))
  rw [e0, arrV_store]
  congr 2
  funext q
  by_cases hq : q = i.toNatClampNeg
  · subst hq
    simp [updV, vp_updL]
  · simp [updV, vp_updL, hq]
theorem xs_bast {G : xG} {own : String} {cc : ByteArray} {nL : Nat} {nm : String} {rt : Option FieldType} {R : Room} {Qf : List Frame → Array Value → State → State → Prop} {pc : Nat} {lv : xL} {st : List Value} {hp : xH} {k n : Nat} {o N : Nat} {i : Int32} (hin : ¬ (i < 0 ∨ N ≤ i.toNatClampNeg)) {f : Nat → Int32} {w : Int32} (hw : w = 0 ∨ w = 1) (ho : o < 9216) (hg : xget hp o = some (.inl (2, N, .inl f))) (hd : decode cc pc = .ok (.bastore, 1)) (K : xPW G own cc nL nm rt R Qf (pc + 1) lv st (xset hp o (.inl (2, N, .inl (upd f i.toNatClampNeg w)))) k n) : xPW G own cc nL nm rt R Qf pc lv (.int w :: .int i :: .ref o :: st) hp k n := by
  intro p l e s m args below meth c C0 ls H locs hl hR hf
  have hW := C0.2.2.2.2.2.2.2.2
  have after : ∀ (H' : Heap) (v0 : Nat), va_at G.2.2.2.1 vwCl (xad G o, xeE G (.inl (2, N, .inl (upd f i.toNatClampNeg w)))) H' → H'.size = H.size → (∀ q : Nat, q ≠ xad G o → H'[q]? = H[q]?) → W p l e R s m args below meth c H' (locs ++ [⟨xad G o, v0⟩]) k n (Qf below args s) (F0 m (pc + 1) ls (st.map (xeV G))) := by
    intro H' v0 e1 e2 e3
    refine K p l e s m args below meth c C0 ls H' _ hl (hR.set ho hg e2 e1 e3) (fun q hq => ?_)
    rcases List.mem_append.mp hq with h | h
    · exact hf q h
    · rw [List.mem_singleton.mp h]
      show G.1 ≤ xad G o
      rw [xad_lt ho]
      omega
  have hcell : H[xad G o]? = some (arrV (G.2.2.2.2.1 2) N (fun j => .int (f j))) := hR.1 o _ ho hg
  refine W.zast C0.1 C0.2.1 hcell ((hW.1.2 2 _ rfl).1 N (fun j => .int (f j))) (fun q => by cases q) (by rw [arrV_size]; exact hin) rfl rfl hd fun H1 e0 z oq => after H1 _ ?_ z oq
  show H1[xad G o]? = some (arrV (G.2.2.2.2.1 2) N (fun j => .int ((upd f i.toNatClampNeg w) j)))
  rw [e0, show narrow .boolean (.int w) = .int w by (rcases hw with rfl | rfl <;> decide +kernel), arrV_store]
  congr 2
  funext q
  by_cases hq : q = i.toNatClampNeg
  · subst hq
    simp [updV, upd]
  · simp [updV, upd, hq]
theorem xs_aast4 {G : xG} {own : String} {cc : ByteArray} {nL : Nat} {nm : String} {rt : Option FieldType} {R : Room} {Qf : List Frame → Array Value → State → State → Prop} {pc : Nat} {lv : xL} {st : List Value} {hp : xH} {k n : Nat} {o N : Nat} {i : Int32} (hin : ¬ (i < 0 ∨ N ≤ i.toNatClampNeg)) {f : Nat → Option Nat} {w : Nat} {z : vp_A} (ho : o < 9216) (hwo : w < 9216) (hg : xget hp o = some (.inl (4, N, .inr (.inr (.inr (.inr f)))))) (hgw : xget hp w = some (.inl (1, z))) (hd : decode cc pc = .ok (.aastore, 1)) (K : xPW G own cc nL nm rt R Qf (pc + 1) lv st (xset hp o (.inl (4, N, .inr (.inr (.inr (.inr (va_up f i.toNatClampNeg (some w)))))))) k n) : xPW G own cc nL nm rt R Qf pc lv (.ref w :: .int i :: .ref o :: st) hp k n := by
  intro p l e s m args below meth c C0 ls H locs hl hR hf
  have hW := C0.2.2.2.2.2.2.2.2
  have after : ∀ (H' : Heap) (v0 : Nat), va_at G.2.2.2.1 vwCl (xad G o, xeE G (.inl (4, N, .inr (.inr (.inr (.inr (va_up f i.toNatClampNeg (some w)))))))) H' → H'.size = H.size → (∀ q : Nat, q ≠ xad G o → H'[q]? = H[q]?) → W p l e R s m args below meth c H' (locs ++ [⟨xad G o, v0⟩]) k n (Qf below args s) (F0 m (pc + 1) ls (st.map (xeV G))) := by
    intro H' v0 e1 e2 e3
    refine K p l e s m args below meth c C0 ls H' _ hl (hR.set ho hg e2 e1 e3) (fun q hq => ?_)
    rcases List.mem_append.mp hq with h | h
    · exact hf q h
    · rw [List.mem_singleton.mp h]
      show G.1 ≤ xad G o
      rw [xad_lt ho]
      omega
  have hlt : i.toNatClampNeg < N := Nat.not_le.mp fun q => hin (Or.inr q)
  have h0 : ¬ i < 0 := fun q => hin (Or.inl q)
  have hcell : H[xad G o]? = some (arrV (G.2.2.2.2.1 4) N (fun j => va_rf ((f j).map (xad G)))) := hR.1 o _ ho hg
  have hcw : H[xad G w]? = some (vp_cell (G.2.2.2.2.1 1) (xeA G z)) := hR.1 w _ hwo hgw
  have hvm : (vp_cell (G.2.2.2.2.1 1) (xeA G z)).vm = .none ∧ (vp_cell (G.2.2.2.2.1 1) (xeA G z)).cls = G.2.2.2.2.1 1 := by
    generalize xeA G z = y
    obtain ⟨N2, f2 | f2 | f2 | f2 | f2⟩ := y <;> exact ⟨rfl, rfl⟩
  obtain ⟨cmp, kA, hkA, hkind⟩ : ∃ (cmp : ClassId) (kA : Class), s.vm.classes[G.2.2.2.2.1 4]? = some kA ∧ kA.kind = .array cmp (.array .long) := by
    obtain ⟨-, kA, h1, cm, h2⟩ := (hW.1.2 4 _ rfl).1 0 (fun _ => .null)
    exact ⟨cm, kA, h1, h2⟩
  obtain ⟨comp, c4, k4, g1, g2, g3, g4, g5⟩ := xarr_spec (hW.2.1 (.arrayOver (.array .long)) (List.mem_of_getElem? (i := 164) (by decide +kernel)) rfl)
  have e4 : s.vm.findClass ("[" ++ (FieldType.array .long).toString) = some (G.2.2.2.2.1 4) := (hW.1.2 4 _ rfl).2
  have e5 : c4 = G.2.2.2.2.1 4 := Option.some.inj (g5.symm.trans e4)
  subst e5
  have e6 : k4 = kA := Option.some.inj (g3.symm.trans hkA)
  subst e6
  have e7 : cmp = comp := by
    have := hkind.symm.trans g4
    injection this
  subst e7
  have e1 : s.vm.findClass ("[" ++ FieldType.long.toString) = some (G.2.2.2.2.1 1) := (hW.1.2 1 _ rfl).2
  have e8 : cmp = G.2.2.2.2.1 1 := Option.some.inj (g1.symm.trans e1)
  subst e8
  obtain ⟨-, kL, hkL, cL, hkLk⟩ := (hW.1.2 1 _ rfl).1 0 (fun _ => .null)
  have hkL' : s.vm.classes[G.2.2.2.2.1 1]? = some kL := hkL
  refine W.aast C0.1 C0.2.1 hcell (fun q h => by cases h) (fun h => by cases h) hkA hkind rfl hkL' ⟨h0, by rw [arrV_size]; exact hlt⟩ hcw (fun q h => by rw [hvm.1] at h; cases h) (by rw [hvm.2]; exact hkL') (by
    rw [hvm.2]
    show s.vm.assignableAux (255 + 1) _ _ = true
    rw [Vm.assignableAux, beq_self_eq_true, Bool.true_or]) rfl rfl hd fun H1 e0 z0 oq => after H1 _ ?_ z0 oq
  show H1[xad G o]? = some (arrV (G.2.2.2.2.1 4) N (fun j => va_rf ((va_up f i.toNatClampNeg (some w) j).map (xad G))))
  rw [e0, arrV_store]
  congr 2
  funext q
  by_cases hq : q = i.toNatClampNeg
  · subst hq
    simp [updV, va_up, va_rf]
  · simp [updV, va_up, hq]
theorem xs_aast5 {G : xG} {own : String} {cc : ByteArray} {nL : Nat} {nm : String} {rt : Option FieldType} {R : Room} {Qf : List Frame → Array Value → State → State → Prop} {pc : Nat} {lv : xL} {st : List Value} {hp : xH} {k n : Nat} {o N : Nat} {i : Int32} (hin : ¬ (i < 0 ∨ N ≤ i.toNatClampNeg)) {f : Nat → Option Nat} {w ci : Nat} {fs : List Value} (ho : o < 9216) (hci : ci = 0 ∨ ci = 1 ∨ ci = 3) (hg : xget hp o = some (.inl (5, N, .inr (.inr (.inr (.inr f)))))) (hgw : xget hp w = some (.inr (ci, fs))) (hd : decode cc pc = .ok (.aastore, 1)) (K : xPW G own cc nL nm rt R Qf (pc + 1) lv st (xset hp o (.inl (5, N, .inr (.inr (.inr (.inr (va_up f i.toNatClampNeg (some w)))))))) k n) : xPW G own cc nL nm rt R Qf pc lv (.ref w :: .int i :: .ref o :: st) hp k n := by
  intro p l e s m args below meth c C0 ls H locs hl hR hf
  have hW := C0.2.2.2.2.2.2.2.2
  have after : ∀ (H' : Heap) (v0 : Nat), va_at G.2.2.2.1 vwCl (xad G o, xeE G (.inl (5, N, .inr (.inr (.inr (.inr (va_up f i.toNatClampNeg (some w)))))))) H' → H'.size = H.size → (∀ q : Nat, q ≠ xad G o → H'[q]? = H[q]?) → W p l e R s m args below meth c H' (locs ++ [⟨xad G o, v0⟩]) k n (Qf below args s) (F0 m (pc + 1) ls (st.map (xeV G))) := by
    intro H' v0 e1 e2 e3
    refine K p l e s m args below meth c C0 ls H' _ hl (hR.set ho hg e2 e1 e3) (fun q hq => ?_)
    rcases List.mem_append.mp hq with h | h
    · exact hf q h
    · rw [List.mem_singleton.mp h]
      show G.1 ≤ xad G o
      rw [xad_lt ho]
      omega
  have hwo := xobj_lt hR hW hgw
  have hlt : i.toNatClampNeg < N := Nat.not_le.mp fun q => hin (Or.inr q)
  have h0 : ¬ i < 0 := fun q => hin (Or.inl q)
  have hcell : H[xad G o]? = some (arrV (G.2.2.2.2.1 5) N (fun j => va_rf ((f j).map (xad G)))) := hR.1 o _ ho hg
  obtain ⟨r, hr, cellV, g1, g2, g3, -⟩ := hR.1 w _ hwo hgw
  obtain ⟨kA, comp, k1, k2, k3, -⟩ := (hW.1.2 5 _ rfl).2
  have hbar := hW.1.1 0 _ rfl
  have hcomp : comp = G.2.2.2.1.1 0 := Option.some.inj (k3.symm.trans hbar.2.1)
  subst hcomp
  obtain ⟨-, kB, hkB, -⟩ := hbar.2
  have hme := hW.1.1 ci r hr
  obtain ⟨hfC, kC, hkC, -⟩ := hme.2
  have hasg : s.vm.assignable (G.2.2.2.1.1 ci) (G.2.2.2.1.1 0) = true := by
    have sub : ∀ (i0 : Nat) (C : String), lw_tbl[i0]? = some (.castable C "SkinLoads$Bar") → s.vm.findClass C = some (G.2.2.2.1.1 ci) → s.vm.assignable (G.2.2.2.1.1 ci) (G.2.2.2.1.1 0) = true := by
      intro i0 C hC hfc
      obtain ⟨c0, t0, f1, f2, f3⟩ := Cond.castable_spec (va_Nw.use (A := args) rfl (hW.2.1 _ (List.mem_of_getElem? hC) rfl))
      cases f1.symm.trans hfc
      cases f2.symm.trans hbar.2.1
      exact f3
    rcases hci with rfl | rfl | rfl
    · cases hr
      exact va_assign hme.2
    · cases hr
      exact sub 1740 _ (by decide +kernel) hfC
    · cases hr
      exact sub 1739 _ (by decide +kernel) hfC
  refine W.aast C0.1 C0.2.1 hcell (fun q h => by cases h) (fun h => by cases h) k1 k2 rfl hkB ⟨h0, by rw [arrV_size]; exact hlt⟩ g1 (fun q h => by rw [g3] at h; cases h) (by rw [g2]; exact hkC) (by rw [g2]; exact hasg) rfl rfl hd fun H1 e0 z0 oq => after H1 _ ?_ z0 oq
  show H1[xad G o]? = some (arrV (G.2.2.2.2.1 5) N (fun j => va_rf ((va_up f i.toNatClampNeg (some w) j).map (xad G))))
  rw [e0, arrV_store]
  congr 2
  funext q
  by_cases hq : q = i.toNatClampNeg
  · subst hq
    simp [updV, va_up, va_rf]
  · simp [updV, va_up, hq]
theorem xs_alen {G : xG} {own : String} {cc : ByteArray} {nL : Nat} {nm : String} {rt : Option FieldType} {R : Room} {Qf : List Frame → Array Value → State → State → Prop} {pc : Nat} {lv : xL} {st : List Value} {hp : xH} {k n : Nat} {o c0 N : Nat} {z : (Nat → Int32) ⊕ (Nat → Int64) ⊕ (Nat → UInt32) ⊕ (Nat → UInt64) ⊕ (Nat → Option Nat)} (hc : c0 ≤ 5) (hg : xget hp o = some (.inl (c0, N, z))) (hd : decode cc pc = .ok (.arraylength, 1)) (K : xPW G own cc nL nm rt R Qf (pc + 1) lv (.int (Int32.ofNat N) :: st) hp k n) : xPW G own cc nL nm rt R Qf pc lv (.ref o :: st) hp k n := by
  intro p l e s m args below meth c C0 ls H locs hl hR hf
  have hW := C0.2.2.2.2.2.2.2.2
  by_cases ho : o < 9216
  · obtain ⟨ty, ht⟩ := xtys_any G c0 hc
    have hx : (xeA G (N, z)).1 = N := by
      rcases z with f | f | f | f | f <;> rfl
    exact va_alen C0.1 C0.2.1 hW.1 (xone hR ho hg) 0 c0 rfl ht (by rw [hx]) hd (K p l e s m args below meth c C0 ls H locs hl hR hf)
  · obtain ⟨N2, f2, cell, q1, q2, q3, q4, q5, q6⟩ := xreg9 hR hW ho hg
    cases q1
    exact W.alen (n := Int32.ofNat N) C0.1 C0.2.1 q2 q3 q5.2 rfl rfl hd (K p l e s m args below meth c C0 ls H locs hl hR hf)

theorem xfr_off : ∀ t, t < 160 → xfr t < 9216 ∧ xoff (xfr t) = t := by decide +kernel
theorem xdv_ok : ∀ ci, ci < 13 → ∀ j, j < xnf ci → defaultValue (xty ci j) = xdv (xty ci j) := by decide +kernel
theorem xdv_e (G : xG) (ty : FieldType) : xeV G (xdv ty) = xdv ty := by
  unfold xdv
  split <;> rfl
theorem xs_new {G : xG} {own : String} {cc : ByteArray} {nL : Nat} {nm : String} {rt : Option FieldType} {R : Room} {Qf : List Frame → Array Value → State → State → Prop} {pc : Nat} {lv : xL} {st : List Value} {hp : xH} {k n : Nat} {i ci N : Nat} {C : String} {T : u_T}
    (hcl : vwCl[ci]? = some (C, T, N)) (h1 : Cond.classLink own i C ∈ xgw) (h2 : Cond.instantiable C N ∈ xgw) (h3 : Cond.initialized C ∈ xgw) (ht : xtot hp < 160) (hk : k + 1 ≤ R.cells) (hn : n + N ≤ R.slots) (hd : decode cc pc = .ok (.new i, 3))
    (K : xPW G own cc nL nm rt R Qf (pc + 3) lv (.ref (xfr (xtot hp)) :: st) (xpush hp (.inr (ci, xdf ci))) (k + 1) (n + N)) : xPW G own cc nL nm rt R Qf pc lv st hp k n := by
  intro p l e s m args below meth c C0 ls H locs hl hR hf
  have hW := C0.2.2.2.2.2.2.2.2
  have hts : ∀ w ∈ xgw, w.before args s = true := C0.2.2.2.2.1
  obtain ⟨hin, hnm, hty, hN⟩ := xcl ci C T N hcl
  have hci : ci < 13 := (List.getElem?_eq_some_iff.mp hcl).1
  have hKn := hW.1.1 ci _ hcl
  refine W.newcK C0.1 C0.2.1 C0.2.2.2.1 (hts _ h1) (hts _ h2) (hts _ h3) rfl hd hk hn hKn.2.1 rfl fun H1 kC hkC e1 z1 o1 => ?_
  have he : va_at G.2.2.2.1 vwCl (H.size, xeE G (.inr (ci, xdf ci))) H1 := by
    refine ⟨_, hcl, (u_born (xty ci) hts hin hKn hkC e1 hty).to (fun j hj => ?_)⟩
    have hj2 : j < xnf ci := by rw [← hN]; exact hj
    rw [xdv_ok ci hci j hj2]
    unfold vp_V
    show _ = ((xdf ci).map (xeV G)).getD j .null
    unfold xdf
    rw [List.map_map, List.getD_eq_getElem?_getD, List.getElem?_map, List.getElem?_range hj2]
    exact (xdv_e G _).symm
  obtain ⟨hR1, had⟩ := hR.push ht z1 he o1
  have := K p l e s m args below meth c C0 ls H1 locs hl hR1 hf
  rw [List.map_cons] at this
  rw [show xeV G (.ref (xfr (xtot hp))) = .ref H.size from congrArg Value.ref had] at this
  exact this
theorem xs_newa {G : xG} {own : String} {cc : ByteArray} {nL : Nat} {nm : String} {rt : Option FieldType} {R : Room} {Qf : List Frame → Array Value → State → State → Prop} {pc : Nat} {lv : xL} {st : List Value} {hp : xH} {k n : Nat} {a : Nat} {at_ : ArrayType} {x : Int32}
    (ha : (a = 0 ∧ newarray.typeOf at_ = .int ∧ Cond.arrayClass .int ∈ xgw) ∨ (a = 1 ∧ newarray.typeOf at_ = .long ∧ Cond.arrayClass .long ∈ xgw) ∨ (a = 2 ∧ newarray.typeOf at_ = .boolean ∧ Cond.arrayClass .boolean ∈ xgw)) (hx : ¬ x < 0) (hx2 : x.toNatClampNeg < 1024) (ht : xtot hp < 160) (hk : k + 1 ≤ R.cells) (hn : n + x.toNatClampNeg ≤ R.slots) (hd : decode cc pc = .ok (.newarray at_, 2))
    (K : xPW G own cc nL nm rt R Qf (pc + 2) lv (.ref (xfr (xtot hp)) :: st) (xpush hp (.inl (a, xz a x.toNatClampNeg))) (k + 1) (n + x.toNatClampNeg)) : xPW G own cc nL nm rt R Qf pc lv (.int x :: st) hp k n := by
  intro p l e s m args below meth c C0 ls H locs hl hR hf
  have hW := C0.2.2.2.2.2.2.2.2
  have hts : ∀ w ∈ xgw, w.before args s = true := C0.2.2.2.2.1
  have go : ∀ (t : FieldType), newarray.typeOf at_ = t → Cond.arrayClass t ∈ xgw → componentBytes t ≤ 8 → s.vm.findClass ("[" ++ t.toString) = some (G.2.2.2.2.1 a) → (∀ cA : ClassId, vp_cell cA (xeA G (xz a x.toNatClampNeg)) = arrV cA x.toNatClampNeg (fun _ => defaultValue t)) → W p l e R s m args below meth c H locs k n (Qf below args s) (F0 m pc ls ((Value.int x :: st).map (xeV G))) := by
    intro t hty hw hcb hcl hz
    subst hty
    refine va_newaK C0.1 C0.2.1 (hts _ hw) rfl hd rfl hx rfl (by have := Nat.mul_le_mul (Nat.le_of_lt hx2) hcb; omega) hk hn rfl fun H1 cA e1 z1 o1 hAr hNm => ?_
    have hcA : cA = G.2.2.2.2.1 a := Option.some.inj (hNm.symm.trans hcl)
    subst hcA
    have he : va_at G.2.2.2.1 vwCl (H.size, xeE G (.inl (a, xz a x.toNatClampNeg))) H1 := by
      show H1[H.size]? = some (vp_cell (G.2.2.2.2.1 a) (xeA G (xz a x.toNatClampNeg)))
      rw [hz]
      exact e1
    obtain ⟨hR1, had⟩ := hR.push ht z1 he o1
    have := K p l e s m args below meth c C0 ls H1 locs hl hR1 hf
    rw [List.map_cons] at this
    rw [show xeV G (.ref (xfr (xtot hp))) = .ref H.size from congrArg Value.ref had] at this
    exact this
  rcases ha with ⟨rfl, h1, h2⟩ | ⟨rfl, h1, h2⟩ | ⟨rfl, h1, h2⟩
  · exact go .int h1 h2 (by decide) (hW.1.2 0 _ rfl).2 (fun cA => rfl)
  · exact go .long h1 h2 (by decide) (hW.1.2 1 _ rfl).2 (fun cA => rfl)
  · exact go .boolean h1 h2 (by decide) (hW.1.2 2 _ rfl).2 (fun cA => rfl)
theorem xs_anew {G : xG} {own : String} {cc : ByteArray} {nL : Nat} {nm : String} {rt : Option FieldType} {R : Room} {Qf : List Frame → Array Value → State → State → Prop} {pc : Nat} {lv : xL} {st : List Value} {hp : xH} {k n : Nat} {i : Nat} {x : Int32}
    (h1 : Cond.classLink own i "SkinLoads$Bar" ∈ xgw) (h2 : Cond.arrayOver (.object "SkinLoads$Bar") ∈ lw_tbl) (hx : ¬ x < 0) (hx2 : x.toNatClampNeg < 1024) (ht : xtot hp < 160) (hk : k + 1 ≤ R.cells) (hn : n + x.toNatClampNeg ≤ R.slots) (hd : decode cc pc = .ok (.anewarray i, 3))
    (K : xPW G own cc nL nm rt R Qf (pc + 3) lv (.ref (xfr (xtot hp)) :: st) (xpush hp (.inl (5, x.toNatClampNeg, .inr (.inr (.inr (.inr (fun _ => none))))))) (k + 1) (n + x.toNatClampNeg)) : xPW G own cc nL nm rt R Qf pc lv (.int x :: st) hp k n := by
  intro p l e s m args below meth c C0 ls H locs hl hR hf
  have hW := C0.2.2.2.2.2.2.2.2
  have hts : ∀ w ∈ xgw, w.before args s = true := C0.2.2.2.2.1
  refine W.anew C0.1 C0.2.1 C0.2.2.2.1 (hts _ h1) (va_AO.use (hW.2.1 _ h2 rfl)) rfl hd rfl hx (by omega) hk hn fun cA kA comp f1 f2 f3 f4 => ?_
  obtain ⟨kA2, comp2, -, -, -, f5⟩ := (hW.1.2 5 _ rfl).2
  have hcA : cA = G.2.2.2.2.1 5 := Option.some.inj (f1.symm.trans f5)
  subst hcA
  generalize hH1 : H.push ({ cls := G.2.2.2.2.1 5, slots := Array.replicate x.toNatClampNeg .null, vm := .none } : Cell) = H1
  have z1 : H1.size = H.size + 1 := by rw [← hH1, Array.size_push]
  have e1 : H1[H.size]? = some (arrV (G.2.2.2.2.1 5) x.toNatClampNeg (fun _ => .null)) := by rw [← hH1, Array.getElem?_push_size, ← arrV_new]
  have o1 : ∀ q : Nat, q < H.size → H1[q]? = H[q]? := fun q hq => by rw [← hH1, Array.getElem?_push, if_neg (Nat.ne_of_lt hq)]
  obtain ⟨hR1, had⟩ := hR.push (e := .inl (5, x.toNatClampNeg, .inr (.inr (.inr (.inr (fun _ => none)))))) ht z1 e1 o1
  have := K p l e s m args below meth c C0 ls H1 locs hl hR1 hf
  rw [List.map_cons] at this
  rw [show xeV G (.ref (xfr (xtot hp))) = .ref H.size from congrArg Value.ref had] at this
  exact this
