/-! ===== SCRIPTS: a pure machine reads them: (place, lines, steps, depth, lines that are open, lines, steps) ===== -/
theorem c2u_same {C : Int → Int → Int} {l k v : Int} : c2u C l k v l k = v := by unfold c2u; rw [if_pos ⟨rfl, rfl⟩]
theorem c2u_ne {C : Int → Int → Int} {l k v a b : Int} (h : a ≠ l ∨ b ≠ k) : c2u C l k v a b = C a b := by unfold c2u; rw [if_neg (by omega)]
abbrev XS : Type := PS × Int × Int × Int × (Int → Int) × (Int → Int → Int) × (Int → Int → Int)
abbrev xl (X : XS) : Int := X.2.1
abbrev xk (X : XS) : Int := X.2.2.1
abbrev xg (X : XS) : Int := X.2.2.2.1
abbrev xo (X : XS) : Int → Int := X.2.2.2.2.1
abbrev xC (X : XS) : Int → Int → Int := X.2.2.2.2.2.1
abbrev xM (X : XS) : Int → Int → Int := X.2.2.2.2.2.2
def flt (X : XS) (k q : Int) : XS := ((k, q, X.1.2.2), X.2)
noncomputable def tnE (f : Int → Int) (N : Int) (X : XS) : XS := (mst f N (zb (isS f N (tE f N X.1.2.2) 59)) (adv f N X.1), xl X + 1, xk X, xg X - 1, xo X, c2u (c2u (c2u (c2u (c2u (xC X) (xl X) 0 10) (xl X) 5 (xo X (xg X - 1))) (xo X (xg X - 1)) 5 (xl X)) (xl X + 1) 6 (xk X)) (xl X + 1) 7 (xg X - 1), c2u (xM X) (xC X (xo X (xg X - 1)) 6) 6 (xk X))
/-- behind a STEP's sign ; -/
noncomputable def tnS (f : Int → Int) (N w : Int) (X : XS) : PS := mst f N (zb (isS f N (agS f N w (adv f N X.1)).2.2 59)) (agS f N w (adv f N X.1))
noncomputable def tnC (f : Int → Int) (N w : Int) (X : XS) (g : Int) : Int → Int → Int := c2u (c2u (agC f N w (adv f N X.1) (c2u (xC X) (xl X) 0 w) (xl X)) (xl X + 1) 6 (xk X + 1)) (xl X + 1) 7 g
noncomputable def tnM (f : Int → Int) (N w : Int) (X : XS) : Int → Int → Int := agM f N w (adv f N X.1) (c2u (xM X) (xk X) 0 (w - 1)) (xk X)
noncomputable def tnB (f : Int → Int) (N w : Int) (X : XS) : XS := (tnS f N w X, xl X + 1, xk X + 1, xg X + 1, (fun i => if i = xg X then xl X else xo X i), tnC f N w X (xg X + 1), tnM f N w X)
noncomputable def tnP (f : Int → Int) (N w : Int) (X : XS) : XS := (tnS f N w X, xl X + 1, xk X + 1, xg X, xo X, tnC f N w X (xg X), c2u (tnM f N w X) (xk X) 6 (xk X + 1))
noncomputable def tn (f : Int → Int) (N : Int) (X : XS) : XS := if zb (isU f N X.1.2.2 (strI 6)) = true then (if xg X ≤ 0 then flt X (bk f N X.1.2.2 2) (tS f N X.1.2.2) else tnE f N X) else if waR f N X.1.2.2 (strI 7) = 0 then flt X (bk f N X.1.2.2 2) (tS f N X.1.2.2) else if 30 ≤ xk X then flt X 6 (tS f N X.1.2.2) else if waR f N X.1.2.2 (strI 7) = 7 ∨ waR f N X.1.2.2 (strI 7) = 8 then (if 3 ≤ xg X then flt X 7 (tS f N X.1.2.2) else tnB f N (waR f N X.1.2.2 (strI 7)) X) else tnP f N (waR f N X.1.2.2 (strI 7)) X
section TNR
variable {f : Int → Int} {N : Int} {X : XS}
theorem tn_E0 (h : isU f N X.1.2.2 (strI 6)) (hg : xg X ≤ 0) : tn f N X = flt X (bk f N X.1.2.2 2) (tS f N X.1.2.2) := by unfold tn; rw [if_pos (zb_t h), if_pos hg]
theorem tn_E (h : isU f N X.1.2.2 (strI 6)) (hg : 0 < xg X) : tn f N X = tnE f N X := by unfold tn; rw [if_pos (zb_t h), if_neg (by omega)]
theorem tn_0 (h : ¬ isU f N X.1.2.2 (strI 6)) (hw : waR f N X.1.2.2 (strI 7) = 0) : tn f N X = flt X (bk f N X.1.2.2 2) (tS f N X.1.2.2) := by unfold tn; rw [if_neg (by rw [zb_f h]; exact Bool.false_ne_true), if_pos hw]
theorem tn_6 (h : ¬ isU f N X.1.2.2 (strI 6)) (hw : waR f N X.1.2.2 (strI 7) ≠ 0) (hk : 30 ≤ xk X) : tn f N X = flt X 6 (tS f N X.1.2.2) := by unfold tn; rw [if_neg (by rw [zb_f h]; exact Bool.false_ne_true), if_neg hw, if_pos hk]
theorem tn_7 (h : ¬ isU f N X.1.2.2 (strI 6)) (hk : xk X < 30) (hb : waR f N X.1.2.2 (strI 7) = 7 ∨ waR f N X.1.2.2 (strI 7) = 8) (hg : 3 ≤ xg X) : tn f N X = flt X 7 (tS f N X.1.2.2) := by unfold tn; rw [if_neg (by rw [zb_f h]; exact Bool.false_ne_true), if_neg (by omega), if_neg (by omega), if_pos hb, if_pos hg]
theorem tn_B (h : ¬ isU f N X.1.2.2 (strI 6)) (hk : xk X < 30) (hb : waR f N X.1.2.2 (strI 7) = 7 ∨ waR f N X.1.2.2 (strI 7) = 8) (hg : xg X < 3) : tn f N X = tnB f N (waR f N X.1.2.2 (strI 7)) X := by unfold tn; rw [if_neg (by rw [zb_f h]; exact Bool.false_ne_true), if_neg (by omega), if_neg (by omega), if_pos hb, if_neg (by omega)]
theorem tn_P (h : ¬ isU f N X.1.2.2 (strI 6)) (hw : waR f N X.1.2.2 (strI 7) ≠ 0) (hk : xk X < 30) (hb : ¬ (waR f N X.1.2.2 (strI 7) = 7 ∨ waR f N X.1.2.2 (strI 7) = 8)) : tn f N X = tnP f N (waR f N X.1.2.2 (strI 7)) X := by unfold tn; rw [if_neg (by rw [zb_f h]; exact Bool.false_ne_true), if_neg hw, if_neg (by omega), if_neg hb]
end TNR
/-! words of a list: none where no WORD stands; their number -/
theorem waL_f {f : Int → Int} {s t : Int} : ∀ (u : List Int) (w a : Int), waL f s t false u w a false = 0
  | [], _, _ => rfl
  | c :: u, w, a => by
    unfold waL
    split
    · rw [if_neg (by intro h; cases h.1)]; exact waL_f u _ _
    · rw [Bool.false_and, Bool.false_and]; exact waL_f u _ _
theorem waR_k {f : Int → Int} {N e : Int} {u : List Int} (h : waR f N e u ≠ 0) : tK f N e = 1 := by
  by_cases g : tK f N e = 1
  · exact g
  · exfalso; apply h; unfold waR; rw [decide_eq_false g]; exact waL_f _ _ _
theorem waL_le {f : Int → Int} {s t : Int} {kw : Bool} : ∀ (u : List Int) (w a : Int) (al : Bool), 0 ≤ w → waL f s t kw u w a al ≤ w + (u.filter (fun c => decide (c = 32))).length - 1 ∨ waL f s t kw u w a al = 0
  | [], _, _, _, _ => Or.inr rfl
  | c :: u, w, a, al, hw => by
    unfold waL
    by_cases hc : c = 32
    · rw [if_pos hc, List.filter_cons_of_pos (by simpa using hc), List.length_cons]
      split
      · left; omega
      · rcases waL_le (f := f) (s := s) (t := t) (kw := kw) u (w + 1) s kw (by omega) with h | h
        · left; omega
        · right; exact h
    · rw [if_neg hc, List.filter_cons_of_neg (by simpa using hc)]
      exact waL_le u w _ _ hw
theorem waR_9 {f : Int → Int} {N e : Int} : waR f N e (strI 7) ≤ 9 := by
  have h := waL_le (f := f) (s := tS f N e) (t := tE f N e) (kw := decide (tK f N e = 1)) (strI 7) 1 (tS f N e) (decide (tK f N e = 1)) (by omega)
  have hl : ((strI 7).filter (fun c => decide (c = 32))).length = 9 := by decide
  rw [hl] at h
  unfold waR
  omega
theorem waR_7 {f : Int → Int} {N e : Int} : waR f N e (strI 8) ≤ 7 := by
  have h := waL_le (f := f) (s := tS f N e) (t := tE f N e) (kw := decide (tK f N e = 1)) (strI 8) 1 (tS f N e) (decide (tK f N e = 1)) (by omega)
  have hl : ((strI 8).filter (fun c => decide (c = 32))).length = 7 := by decide
  rw [hl] at h
  unfold waR
  omega
/-! the machine's road -/
def xstop (f : Int → Int) (N : Int) (X : XS) : Prop := 0 < X.1.1 ∨ (tK f N X.1.2.2 = 0 ∧ xg X = 0)
noncomputable def itr (f : Int → Int) (N : Int) : Nat → XS → XS
  | 0, X => X
  | j + 1, X => if zb (xstop f N X) = true then X else itr f N j (tn f N X)
theorem itr_stop {f : Int → Int} {N : Int} {X : XS} (h : xstop f N X) : ∀ j, itr f N j X = X
  | 0 => rfl
  | j + 1 => by unfold itr; rw [if_pos (zb_t h)]
theorem itr_go {f : Int → Int} {N : Int} {X : XS} (h : ¬ xstop f N X) (j : Nat) : itr f N (j + 1) X = itr f N j (tn f N X) := by
  show (if zb (xstop f N X) = true then X else itr f N j (tn f N X)) = _
  rw [if_neg (by rw [zb_f h]; exact Bool.false_ne_true)]
theorem itr_add {f : Int → Int} {N : Int} : ∀ (i j : Nat) (X : XS), itr f N (i + j) X = itr f N j (itr f N i X)
  | 0, j, X => by rw [Nat.zero_add]; rfl
  | i + 1, j, X => by
    by_cases h : xstop f N X
    · rw [itr_stop h, itr_stop h, itr_stop h]
    · rw [show i + 1 + j = (i + j) + 1 by omega, itr_go h, itr_go h]; exact itr_add i j _
def Rch (f : Int → Int) (N : Int) (X Y : XS) : Prop := ∃ j, itr f N j X = Y
theorem Rch.rfl' {f : Int → Int} {N : Int} {X : XS} : Rch f N X X := ⟨0, rfl⟩
theorem Rch.trans {f : Int → Int} {N : Int} {X Y Z : XS} (h : Rch f N X Y) (h2 : Rch f N Y Z) : Rch f N X Z := by
  obtain ⟨i, hi⟩ := h
  obtain ⟨j, hj⟩ := h2
  exact ⟨i + j, by rw [itr_add, hi, hj]⟩
theorem Rch.go {f : Int → Int} {N : Int} {X : XS} (h : ¬ xstop f N X) : Rch f N X (tn f N X) := ⟨1, by rw [itr_go h]; rfl⟩
theorem Rch.det {f : Int → Int} {N : Int} {X Y Z : XS} (h : Rch f N X Y) (h2 : Rch f N X Z) (hY : xstop f N Y) (hZ : xstop f N Z) : Y = Z := by
  obtain ⟨i, hi⟩ := h
  obtain ⟨j, hj⟩ := h2
  have e1 := itr_add (f := f) (N := N) i j X
  have e2 := itr_add (f := f) (N := N) j i X
  rw [hi, itr_stop hY] at e1
  rw [hj, itr_stop hZ] at e2
  rw [← e1, ← e2, Nat.add_comm]
/-! bounds, places -/
def XB (N : Int) (X : XS) : Prop := PB N X.1 ∧ 0 ≤ xg X ∧ xg X ≤ 3 ∧ 0 ≤ xk X ∧ xk X ≤ 30 ∧ xk X ≤ xl X ∧ xl X ≤ 2 * xk X - xg X
section PLS
variable {f : Int → Int} {N : Int} {s : PS}
theorem agw_pl {k : Nat} (h : PB N s) : PL N s (agw f N k s) := mst_pl h
theorem agc_pl (h : PB N s) : PL N s (agc f N s) := mst_pl h
theorem tsS_pl (h : PB N s) : PL N s (tsS f N s) := by
  have h0 : PL N s (ts0 f N s) := mst_pl h
  unfold tsS
  split
  · exact h0.trans ((cns_pl h0.1).trans ((agc_pl (cns_pl h0.1).1).trans (cns_pl (agc_pl (cns_pl h0.1).1).1)))
  · split
    · exact h0.trans ((agc_pl h0.1).trans (cns_pl (agc_pl h0.1).1))
    · split
      · exact h0.trans (cns_pl h0.1)
      · exact h0
theorem agS_pl {w : Int} (h : PB N s) : PL N s (agS f N w s) := by
  unfold agS
  split
  · exact (cns_pl h).trans (cns_pl (cns_pl h).1)
  · split
    · exact (cns_pl h).trans ((agw_pl (cns_pl h).1).trans (cns_pl (agw_pl (cns_pl h).1).1))
    · split
      · have h1 : PL N s (cns f N 0 6 s) := cns_pl h
        have h2 := h1.trans (agw_pl (f := f) (k := 5) h1.1)
        have h3 := h2.trans (cns_pl (f := f) (lo := 0) (hi := 4) h2.1)
        have h4 := h3.trans (agw_pl (f := f) (k := 10) h3.1)
        exact h4.trans (cns_pl h4.1)
      · split
        · exact tsS_pl h
        · split
          · exact cns_pl h
          · split
            · exact cns_pl h
            · exact ⟨h, Int.le_refl _⟩
end PLS
theorem tnS_pl {f : Int → Int} {N w : Int} {X : XS} (h : PB N X.1) : PL N (adv f N X.1) (tnS f N w X) := by
  have h1 := adv_pb (f := f) h
  exact (agS_pl h1).trans (mst_pl (agS_pl h1).1)
/-- a turn without a FAULT goes on in the text -/
theorem tn_on {f : Int → Int} {N : Int} {X : XS} (h : XB N X) (h2 : (tn f N X).1.1 = 0) : XB N (tn f N X) ∧ X.1.2.2 < (tn f N X).1.2.2 := by
  obtain ⟨h1, g0, g3, k0, k1, l0, l1⟩ := h
  have nb : ∀ k : Int, 0 < k → bk f N X.1.2.2 k ≠ 0 := fun k hk => by have := bk_p (f := f) (N := N) (e := X.1.2.2) hk; omega
  have lt : tK f N X.1.2.2 = 1 → X.1.2.2 < (adv f N X.1).2.2 := fun q => tE_lt h1.2.2 (by omega)
  by_cases hU : isU f N X.1.2.2 (strI 6)
  · by_cases hg : xg X ≤ 0
    · rw [tn_E0 hU hg] at h2; exact absurd h2 (nb 2 (by omega))
    · rw [tn_E hU (by omega)]
      have hp : PL N (adv f N X.1) (tnE f N X).1 := mst_pl (adv_pb h1)
      have := lt hU.1
      have := hp.2
      refine ⟨⟨hp.1, ?_⟩, by omega⟩
      show 0 ≤ xg X - 1 ∧ xg X - 1 ≤ 3 ∧ 0 ≤ xk X ∧ xk X ≤ 30 ∧ xk X ≤ xl X + 1 ∧ xl X + 1 ≤ 2 * xk X - (xg X - 1)
      omega
  · by_cases hw : waR f N X.1.2.2 (strI 7) = 0
    · rw [tn_0 hU hw] at h2; exact absurd h2 (nb 2 (by omega))
    · have hl := lt (waR_k hw)
      by_cases hk : 30 ≤ xk X
      · rw [tn_6 hU hw hk] at h2; exact absurd (show (6 : Int) = 0 from h2) (by omega)
      · by_cases hb : waR f N X.1.2.2 (strI 7) = 7 ∨ waR f N X.1.2.2 (strI 7) = 8
        · by_cases hg : 3 ≤ xg X
          · rw [tn_7 hU (by omega) hb hg] at h2; exact absurd (show (7 : Int) = 0 from h2) (by omega)
          · rw [tn_B hU (by omega) hb (by omega)]
            have hp : PL N (adv f N X.1) (tnB f N (waR f N X.1.2.2 (strI 7)) X).1 := tnS_pl h1
            have := hp.2
            refine ⟨⟨hp.1, ?_⟩, by omega⟩
            show 0 ≤ xg X + 1 ∧ xg X + 1 ≤ 3 ∧ 0 ≤ xk X + 1 ∧ xk X + 1 ≤ 30 ∧ xk X + 1 ≤ xl X + 1 ∧ xl X + 1 ≤ 2 * (xk X + 1) - (xg X + 1)
            omega
        · rw [tn_P hU hw (by omega) hb]
          have hp : PL N (adv f N X.1) (tnP f N (waR f N X.1.2.2 (strI 7)) X).1 := tnS_pl h1
          have := hp.2
          refine ⟨⟨hp.1, ?_⟩, by omega⟩
          show 0 ≤ xg X ∧ xg X ≤ 3 ∧ 0 ≤ xk X + 1 ∧ xk X + 1 ≤ 30 ∧ xk X + 1 ≤ xl X + 1 ∧ xl X + 1 ≤ 2 * (xk X + 1) - xg X
          omega
