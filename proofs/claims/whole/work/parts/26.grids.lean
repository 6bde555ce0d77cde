/-! rows of rows -/
theorem xg_rws (r0 : List va_E) (r1 : List va_E) (r2 : List va_E) (r3 : List va_E) (r4 : List va_E) (r5 : List va_E) (rws : Nat → Nat → Int32) (lan : Nat → Int32) (len : Nat → Int32) (r7 : List va_E) (r8 : List va_E) (r9 : List va_E) (k : Nat) (hk : k < 4) : xget ([r0, r1, r2, r3, r4, r5, rSheets rws lan len, r7, r8, r9]) (6146 + k) = some (.inl (0, 60, .inl (rws k))) := by
  match k, hk with
  | 0, _ => rfl
  | 1, _ => rfl
  | 2, _ => rfl
  | 3, _ => rfl
theorem xs_rws (r0 : List va_E) (r1 : List va_E) (r2 : List va_E) (r3 : List va_E) (r4 : List va_E) (r5 : List va_E) (rws : Nat → Nat → Int32) (lan : Nat → Int32) (len : Nat → Int32) (r7 : List va_E) (r8 : List va_E) (r9 : List va_E) (k : Nat) (f : Nat → Int32) (hk : k < 4) : xset ([r0, r1, r2, r3, r4, r5, rSheets rws lan len, r7, r8, r9]) (6146 + k) (.inl (0, 60, .inl f)) = [r0, r1, r2, r3, r4, r5, rSheets (updR rws k f) lan len, r7, r8, r9] := by
  match k, hk with
  | 0, _ => rfl
  | 1, _ => rfl
  | 2, _ => rfl
  | 3, _ => rfl
theorem xg_sums (r0 : List va_E) (outs : Nat → Int32) (downs : Nat → Int32) (wts : Nat → Int32) (pn : Int32) (codes : Nat → Int32) (ro : Nat → Int32) (rd : Nat → Int32) (rw : Nat → Int32) (cn : Int32) (at_ : Int32) (fw : Int32) (sums : Nat → Nat → Int32) (r2 : List va_E) (r3 : List va_E) (r4 : List va_E) (r5 : List va_E) (r6 : List va_E) (r7 : List va_E) (r8 : List va_E) (r9 : List va_E) (k : Nat) (hk : k < 8) : xget ([r0, rDome outs downs wts pn codes ro rd rw cn at_ fw sums, r2, r3, r4, r5, r6, r7, r8, r9]) (1033 + k) = some (.inl (0, 6, .inl (sums k))) := by
  match k, hk with
  | 0, _ => rfl
  | 1, _ => rfl
  | 2, _ => rfl
  | 3, _ => rfl
  | 4, _ => rfl
  | 5, _ => rfl
  | 6, _ => rfl
  | 7, _ => rfl
theorem xs_sums (r0 : List va_E) (outs : Nat → Int32) (downs : Nat → Int32) (wts : Nat → Int32) (pn : Int32) (codes : Nat → Int32) (ro : Nat → Int32) (rd : Nat → Int32) (rw : Nat → Int32) (cn : Int32) (at_ : Int32) (fw : Int32) (sums : Nat → Nat → Int32) (r2 : List va_E) (r3 : List va_E) (r4 : List va_E) (r5 : List va_E) (r6 : List va_E) (r7 : List va_E) (r8 : List va_E) (r9 : List va_E) (k : Nat) (f : Nat → Int32) (hk : k < 8) : xset ([r0, rDome outs downs wts pn codes ro rd rw cn at_ fw sums, r2, r3, r4, r5, r6, r7, r8, r9]) (1033 + k) (.inl (0, 6, .inl f)) = [r0, rDome outs downs wts pn codes ro rd rw cn at_ fw (updR sums k f), r2, r3, r4, r5, r6, r7, r8, r9] := by
  match k, hk with
  | 0, _ => rfl
  | 1, _ => rfl
  | 2, _ => rfl
  | 3, _ => rfl
  | 4, _ => rfl
  | 5, _ => rfl
  | 6, _ => rfl
  | 7, _ => rfl
theorem xg_bend (r0 : List va_E) (r1 : List va_E) (lk : Int32) (spr : Nat → Int32) (bend : Nat → Nat → Int64) (shrt : Nat → Nat → Int64) (mins : Nat → Nat → Int64) (pol : Nat → Int64) (shf : Nat → Int64) (fac : Nat → Int32) (r3 : List va_E) (r4 : List va_E) (r5 : List va_E) (r6 : List va_E) (r7 : List va_E) (r8 : List va_E) (r9 : List va_E) (k : Nat) (hk : k < 4) : xget ([r0, r1, rRib lk spr bend shrt mins pol shf fac, r3, r4, r5, r6, r7, r8, r9]) (2051 + k) = some (.inl (1, 4, .inr (.inl (bend k)))) := by
  match k, hk with
  | 0, _ => rfl
  | 1, _ => rfl
  | 2, _ => rfl
  | 3, _ => rfl
theorem xs_bend (r0 : List va_E) (r1 : List va_E) (lk : Int32) (spr : Nat → Int32) (bend : Nat → Nat → Int64) (shrt : Nat → Nat → Int64) (mins : Nat → Nat → Int64) (pol : Nat → Int64) (shf : Nat → Int64) (fac : Nat → Int32) (r3 : List va_E) (r4 : List va_E) (r5 : List va_E) (r6 : List va_E) (r7 : List va_E) (r8 : List va_E) (r9 : List va_E) (k : Nat) (f : Nat → Int64) (hk : k < 4) : xset ([r0, r1, rRib lk spr bend shrt mins pol shf fac, r3, r4, r5, r6, r7, r8, r9]) (2051 + k) (.inl (1, 4, .inr (.inl f))) = [r0, r1, rRib lk spr (updR bend k f) shrt mins pol shf fac, r3, r4, r5, r6, r7, r8, r9] := by
  match k, hk with
  | 0, _ => rfl
  | 1, _ => rfl
  | 2, _ => rfl
  | 3, _ => rfl
theorem xg_shrt (r0 : List va_E) (r1 : List va_E) (lk : Int32) (spr : Nat → Int32) (bend : Nat → Nat → Int64) (shrt : Nat → Nat → Int64) (mins : Nat → Nat → Int64) (pol : Nat → Int64) (shf : Nat → Int64) (fac : Nat → Int32) (r3 : List va_E) (r4 : List va_E) (r5 : List va_E) (r6 : List va_E) (r7 : List va_E) (r8 : List va_E) (r9 : List va_E) (k : Nat) (hk : k < 4) : xget ([r0, r1, rRib lk spr bend shrt mins pol shf fac, r3, r4, r5, r6, r7, r8, r9]) (2056 + k) = some (.inl (1, 4, .inr (.inl (shrt k)))) := by
  match k, hk with
  | 0, _ => rfl
  | 1, _ => rfl
  | 2, _ => rfl
  | 3, _ => rfl
theorem xs_shrt (r0 : List va_E) (r1 : List va_E) (lk : Int32) (spr : Nat → Int32) (bend : Nat → Nat → Int64) (shrt : Nat → Nat → Int64) (mins : Nat → Nat → Int64) (pol : Nat → Int64) (shf : Nat → Int64) (fac : Nat → Int32) (r3 : List va_E) (r4 : List va_E) (r5 : List va_E) (r6 : List va_E) (r7 : List va_E) (r8 : List va_E) (r9 : List va_E) (k : Nat) (f : Nat → Int64) (hk : k < 4) : xset ([r0, r1, rRib lk spr bend shrt mins pol shf fac, r3, r4, r5, r6, r7, r8, r9]) (2056 + k) (.inl (1, 4, .inr (.inl f))) = [r0, r1, rRib lk spr bend (updR shrt k f) mins pol shf fac, r3, r4, r5, r6, r7, r8, r9] := by
  match k, hk with
  | 0, _ => rfl
  | 1, _ => rfl
  | 2, _ => rfl
  | 3, _ => rfl
theorem xg_mins (r0 : List va_E) (r1 : List va_E) (lk : Int32) (spr : Nat → Int32) (bend : Nat → Nat → Int64) (shrt : Nat → Nat → Int64) (mins : Nat → Nat → Int64) (pol : Nat → Int64) (shf : Nat → Int64) (fac : Nat → Int32) (r3 : List va_E) (r4 : List va_E) (r5 : List va_E) (r6 : List va_E) (r7 : List va_E) (r8 : List va_E) (r9 : List va_E) (k : Nat) (hk : k < 16) : xget ([r0, r1, rRib lk spr bend shrt mins pol shf fac, r3, r4, r5, r6, r7, r8, r9]) (2061 + k) = some (.inl (1, 5, .inr (.inl (mins k)))) := by
  match k, hk with
  | 0, _ => rfl
  | 1, _ => rfl
  | 2, _ => rfl
  | 3, _ => rfl
  | 4, _ => rfl
  | 5, _ => rfl
  | 6, _ => rfl
  | 7, _ => rfl
  | 8, _ => rfl
  | 9, _ => rfl
  | 10, _ => rfl
  | 11, _ => rfl
  | 12, _ => rfl
  | 13, _ => rfl
  | 14, _ => rfl
  | 15, _ => rfl
  | k + 16, hk => exact absurd hk (by omega)
theorem xs_mins (r0 : List va_E) (r1 : List va_E) (lk : Int32) (spr : Nat → Int32) (bend : Nat → Nat → Int64) (shrt : Nat → Nat → Int64) (mins : Nat → Nat → Int64) (pol : Nat → Int64) (shf : Nat → Int64) (fac : Nat → Int32) (r3 : List va_E) (r4 : List va_E) (r5 : List va_E) (r6 : List va_E) (r7 : List va_E) (r8 : List va_E) (r9 : List va_E) (k : Nat) (f : Nat → Int64) (hk : k < 16) : xset ([r0, r1, rRib lk spr bend shrt mins pol shf fac, r3, r4, r5, r6, r7, r8, r9]) (2061 + k) (.inl (1, 5, .inr (.inl f))) = [r0, r1, rRib lk spr bend shrt (updR mins k f) pol shf fac, r3, r4, r5, r6, r7, r8, r9] := by
  match k, hk with
  | 0, _ => rfl
  | 1, _ => rfl
  | 2, _ => rfl
  | 3, _ => rfl
  | 4, _ => rfl
  | 5, _ => rfl
  | 6, _ => rfl
  | 7, _ => rfl
  | 8, _ => rfl
  | 9, _ => rfl
  | 10, _ => rfl
  | 11, _ => rfl
  | 12, _ => rfl
  | 13, _ => rfl
  | 14, _ => rfl
  | 15, _ => rfl
  | k + 16, hk => exact absurd hk (by omega)
theorem xg_lds (r0 : List va_E) (r1 : List va_E) (r2 : List va_E) (trv : Int32) (xs : Nat → Int32) (ys : Nat → Int32) (fn : Nat → Int32) (jn : Int32) (fj : Int32) (bq : Nat → Option Nat) (bc : Int32) (lds : Nat → Nat → Int32) (fR : Int32) (fC : Int32) (fk : Int32) (fs : Int64) (fq : Nat → Option Nat) (fr : Nat → Nat → Int64) (frc : Nat → Int32) (chg : Int32) (car : Int32) (gR : Int32) (gC : Int32) (gk : Int32) (gs : Int64) (gq : Nat → Option Nat) (gr : Nat → Nat → Int64) (grc : Nat → Int32) (mv : Nat → Int64) (cta : Nat → Int32) (r4 : List va_E) (r5 : List va_E) (r6 : List va_E) (r7 : List va_E) (r8 : List va_E) (r9 : List va_E) (k : Nat) (hk : k < 6) : xget ([r0, r1, r2, rNet trv xs ys fn jn fj bq bc lds fR fC fk fs fq fr frc chg car gR gC gk gs gq gr grc mv cta, r4, r5, r6, r7, r8, r9]) (3079 + k) = some (.inl (0, 8, .inl (lds k))) := by
  match k, hk with
  | 0, _ => rfl
  | 1, _ => rfl
  | 2, _ => rfl
  | 3, _ => rfl
  | 4, _ => rfl
  | 5, _ => rfl
theorem xs_lds (r0 : List va_E) (r1 : List va_E) (r2 : List va_E) (trv : Int32) (xs : Nat → Int32) (ys : Nat → Int32) (fn : Nat → Int32) (jn : Int32) (fj : Int32) (bq : Nat → Option Nat) (bc : Int32) (lds : Nat → Nat → Int32) (fR : Int32) (fC : Int32) (fk : Int32) (fs : Int64) (fq : Nat → Option Nat) (fr : Nat → Nat → Int64) (frc : Nat → Int32) (chg : Int32) (car : Int32) (gR : Int32) (gC : Int32) (gk : Int32) (gs : Int64) (gq : Nat → Option Nat) (gr : Nat → Nat → Int64) (grc : Nat → Int32) (mv : Nat → Int64) (cta : Nat → Int32) (r4 : List va_E) (r5 : List va_E) (r6 : List va_E) (r7 : List va_E) (r8 : List va_E) (r9 : List va_E) (k : Nat) (f : Nat → Int32) (hk : k < 6) : xset ([r0, r1, r2, rNet trv xs ys fn jn fj bq bc lds fR fC fk fs fq fr frc chg car gR gC gk gs gq gr grc mv cta, r4, r5, r6, r7, r8, r9]) (3079 + k) (.inl (0, 8, .inl f)) = [r0, r1, r2, rNet trv xs ys fn jn fj bq bc (updR lds k f) fR fC fk fs fq fr frc chg car gR gC gk gs gq gr grc mv cta, r4, r5, r6, r7, r8, r9] := by
  match k, hk with
  | 0, _ => rfl
  | 1, _ => rfl
  | 2, _ => rfl
  | 3, _ => rfl
  | 4, _ => rfl
  | 5, _ => rfl
