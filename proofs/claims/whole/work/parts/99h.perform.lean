/-! ===== a SCRIPT is done: a pure machine; the class ===== -/
noncomputable def itg {S : Type} (sp : S → Prop) (fn : S → S) : Nat → S → S
  | 0, X => X
  | j + 1, X => if zb (sp X) = true then X else itg sp fn j (fn X)
section ITG
variable {S : Type} {sp : S → Prop} {fn : S → S} {X Y Z : S}
theorem itg_stop (h : sp X) : ∀ j, itg sp fn j X = X
  | 0 => rfl
  | j + 1 => by unfold itg; rw [if_pos (zb_t h)]
theorem itg_go (h : ¬ sp X) (j : Nat) : itg sp fn (j + 1) X = itg sp fn j (fn X) := by
  show (if zb (sp X) = true then X else itg sp fn j (fn X)) = _
  rw [if_neg (by rw [zb_f h]; exact Bool.false_ne_true)]
theorem itg_add : ∀ (i j : Nat) (X : S), itg sp fn (i + j) X = itg sp fn j (itg sp fn i X)
  | 0, j, X => by rw [Nat.zero_add]; rfl
  | i + 1, j, X => by
    by_cases h : sp X
    · rw [itg_stop h, itg_stop h, itg_stop h]
    · rw [show i + 1 + j = (i + j) + 1 by omega, itg_go h, itg_go h]; exact itg_add i j _
def RG (sp : S → Prop) (fn : S → S) (X Y : S) : Prop := ∃ j, itg sp fn j X = Y
theorem RG.rfl' : RG sp fn X X := ⟨0, rfl⟩
theorem RG.trans (h : RG sp fn X Y) (h2 : RG sp fn Y Z) : RG sp fn X Z := by
  obtain ⟨i, hi⟩ := h
  obtain ⟨j, hj⟩ := h2
  exact ⟨i + j, by rw [itg_add, hi, hj]⟩
theorem RG.go (h : ¬ sp X) : RG sp fn X (fn X) := ⟨1, by rw [itg_go h]; rfl⟩
theorem RG.det (h : RG sp fn X Y) (h2 : RG sp fn X Z) (hY : sp Y) (hZ : sp Z) : Y = Z := by
  obtain ⟨i, hi⟩ := h
  obtain ⟨j, hj⟩ := h2
  have e1 := itg_add (sp := sp) (fn := fn) i j X
  have e2 := itg_add (sp := sp) (fn := fn) j i X
  rw [hi, itg_stop hY] at e1
  rw [hj, itg_stop hZ] at e2
  rw [← e1, ← e2, Nat.add_comm]
end ITG
/-- the desk, the line, STEPS done, STEPS missed, is one left, is it over, turns left of each line -/
abbrev YS : Type := (Int → Int) × Int × Int × Int × Int × Int × (Int → Int)
abbrev yc (Y : YS) : Int → Int := Y.1
abbrev yb (Y : YS) : Int := Y.2.1
abbrev yk (Y : YS) : Int := Y.2.2.1
abbrev ym (Y : YS) : Int := Y.2.2.2.1
abbrev yf (Y : YS) : Int := Y.2.2.2.2.1
abbrev ys (Y : YS) : Int := Y.2.2.2.2.2.1
abbrev yt (Y : YS) : Int → Int := Y.2.2.2.2.2.2
def fup (f : Int → Int) (a v : Int) : Int → Int := fun j => if j = a then v else f j
noncomputable def rt (C : Int → Int → Int) (Y : YS) : YS :=
  if C (yb Y) 0 = 10 then (if (0 ≤ C (yb Y) 5 ∧ C (yb Y) 5 < 60) ∧ C (C (yb Y) 5) 0 = 8 ∧ 1 < yt Y (C (yb Y) 5) then (yc Y, C (yb Y) 5 + 1, yk Y, ym Y, yf Y, 0, fup (yt Y) (C (yb Y) 5) (yt Y (C (yb Y) 5) - 1)) else (yc Y, yb Y + 1, yk Y, ym Y, yf Y, 0, yt Y))
  else if 300 ≤ yk Y then (yc Y, yb Y, yk Y, ym Y, 1, 1, yt Y)
  else if C (yb Y) 0 = 9 then (yc Y, yb Y, yk Y + 1, ym Y, yf Y, 1, yt Y)
  else if C (yb Y) 0 = 8 then (yc Y, yb Y + 1, yk Y + 1, ym Y, yf Y, 0, fup (yt Y) (yb Y) (C (yb Y) 1))
  else if C (yb Y) 0 = 7 then (if zb (tstC C (yb Y) (yc Y)) = true then (yc Y, yb Y + 1, yk Y + 1, ym Y, yf Y, 0, yt Y) else (yc Y, C (yb Y) 5 + 1, yk Y + 1, ym Y, yf Y, 0, yt Y))
  else if zb (okP C (yb Y) (yc Y)) = true then (resP C (yb Y) (yc Y), yb Y + 1, yk Y + 1, ym Y, yf Y, 0, yt Y) else (yc Y, yb Y + 1, yk Y + 1, ym Y + 1, yf Y, 0, yt Y)
def rstp (l : Int) (Y : YS) : Prop := ys Y = 1 ∨ yb Y < 0 ∨ l ≤ yb Y
theorem sR_fup {f : Int → Int} {a v : Int} (a0 : 0 ≤ a) (a1 : a < 60) : sR (fup f a v) 0 60 = sR f 0 60 - f a + v := by
  have one : ∀ g : Int → Int, sR g a (a + 1) = g a := fun g => by rw [sR_succ (Int.le_refl _), sR_nil (Int.le_refl _)]; omega
  have e1 : ∀ g : Int → Int, sR g 0 60 = sR g 0 a + (g a + sR g (a + 1) 60) := fun g => by
    rw [sR_split (mid := a) a0 (by omega), sR_split (lo := a) (mid := a + 1) (by omega) (by omega), one]
  rw [e1 f, e1 (fup f a v), sR_congr (f := fup f a v) (g := f) (lo := 0) (hi := a) (fun k k0 k1 => if_neg (by omega)), sR_congr (f := fup f a v) (g := f) (lo := a + 1) (hi := 60) (fun k k0 k1 => if_neg (by omega))]
  have : fup f a v a = v := if_pos rfl
  rw [this]; omega
section PRF
variable {d : Nat} {σ : SG} {Q : Int → SG → Prop} {C M : Int → Int → Int} {o : Int → Int} {l k : Int}
/-- what the class's heap holds while a SCRIPT is done -/
def RUC (t : SG) (C : Int → Int → Int) (l : Int) (Y : YS) : Prop := (KC t 6 (yc Y) ∧ DC (yc Y)) ∧ (ST t ∧ UN t) ∧ (CRa t 11 C ∧ t 10 2 = l) ∧ (t 114 0 = 1 ∧ t 114 1 = yk Y ∧ t 114 2 = ym Y ∧ t 114 3 = yf Y) ∧ ∀ j, 0 ≤ j → j < 60 → t 115 j = yt Y j ∧ 0 ≤ yt Y j ∧ yt Y j ≤ 99
def DRun (b j : Int) : Prop := (7 ≤ b ∧ b ≤ 8) ∨ (13 ≤ b ∧ b ≤ 20) ∨ (43 ≤ b ∧ b ≤ 103) ∨ (105 ≤ b ∧ b ≤ 112) ∨ (b = 114 ∧ 0 ≤ j ∧ j ≤ 3) ∨ b = 115
noncomputable def mu (C : Int → Int → Int) (Y : YS) : Int := 5 * (101 * (300 - yk Y) + sR (yt Y) 0 60) + C (yb Y) 7
theorem Ru_behindEnd_s {b : Int} {tu : Int → Int} (hC : CRa σ 11 C) (b0 : 0 ≤ b) (b1 : b < 60) (ht : ∀ j, 0 ≤ j → j < 60 → σ 115 j = tu j ∧ 0 ≤ tu j ∧ tu j ≤ 99)
    (h1 : ((0 ≤ C b 5 ∧ C b 5 < 60) ∧ C (C b 5) 0 = 8 ∧ 1 < tu (C b 5)) → ∀ t, t = up σ 115 (C b 5) (tu (C b 5) - 1) → Q (C b 5 + 1) t) (h0 : ¬ ((0 ≤ C b 5 ∧ C b 5 < 60) ∧ C (C b 5) 0 = 8 ∧ 1 < tu (C b 5)) → Q (b + 1) σ) : Tri (d + 2) M_Ru_behindEnd [vA 114, vA 10, vI b] σ Q := by
  have no : ¬ ((0 ≤ C b 5 ∧ C b 5 < 60) ∧ C (C b 5) 0 = 8 ∧ 1 < tu (C b 5)) → L (d + 2) M_Ru_behindEnd 36 [vA 114, vU, vI b, vI (C b 5), vU] [vI 0] σ Q := fun q => s_Ru_behindEnd_36 ⟨fun _ => by rw [w32_id (by omega) (by omega)]; exact h0 q, fun z => absurd rfl z⟩
  refine t_Ru_behindEnd (fun _ => ⟨ob_10, Sc_get_s hC b0 b1 (by omega) (by omega) ⟨fun q => no (by omega), fun q => ⟨fun q2 => no (by omega), fun q2 => ⟨ob_10, Sc_get_s hC q q2 (by omega) (by omega) ⟨fun q3 => no (by omega), fun q3 => s_Ru_behindEnd_36 ⟨fun z => by omega, fun _ => ?_⟩⟩⟩⟩⟩⟩)
  have e := ht (C b 5) q q2
  rw [e.1, w32_id (x := b + 1) (by omega) (by omega), w32_id (x := tu (C b 5) - 1) (by omega) (by omega), w32_id (x := C b 5 + 1) (by omega) (by omega)]
  exact ⟨⟨q, q2⟩, fun z => h0 (by omega), fun z => ⟨⟨q, q2⟩, ⟨q, q2⟩, fun t et => h1 ⟨⟨q, q2⟩, q3, z⟩ t et⟩⟩
theorem Ru_loop (hI : SI l k 0 o C M) (hl0 : 0 ≤ l) (hl : l ≤ 60) {Z : YS} (h : ∀ Y t, RG (rstp l) (rt C) Z Y → rstp l Y → RUC t C l Y → OffN DRun σ t → Q 0 t) : ∀ (n : Nat) (Y : YS) (x7 : Int) (t : SG), RG (rstp l) (rt C) Z Y → ys Y = 0 → (0 ≤ yb Y ∧ yb Y ≤ l) → (0 ≤ yk Y ∧ yk Y ≤ 300) → (0 ≤ ym Y ∧ ym Y ≤ yk Y) → RUC t C l Y → OffN DRun σ t → 0 ≤ mu C Y → mu C Y < n → 0 ≤ x7 → x7 + mu C Y ≤ 200000 → L (d + 7) M_Ru_perform 32 [vA 114, vA 6, vA 42, vA 78, vA 104, vA 10, vI (yb Y), vI x7, vU] [] t Q := by
  obtain ⟨⟨a1, a2, a3, a4⟩, i2, i3, i4, i5, i6, i7, i8⟩ := hI
  intro n
  induction n with
  | zero => intro Y x7 t _ _ _ _ _ _ _ h0 h1; omega
  | succ n ih =>
    intro Y x7 t hR hs hb hk hm hU hO m0 mn x0 xm
    obtain ⟨⟨hK, hD⟩, ⟨hST, hUN⟩, ⟨hC, h2⟩, ⟨r0, r1, r2, r3⟩, ht⟩ := id hU
    have sb : 0 ≤ sR (yt Y) 0 60 := by
      have := sR_bound (f := yt Y) (lo := 0) (hi := 60) (A := 0) (B := 99) (by omega) (by omega) (fun j j0 j1 => (ht j j0 j1).2) (n := 60) (by omega) (by omega)
      omega
    have e7 : w32 (x7 + 1) = x7 + 1 := w32_id (by omega) (by omega)
    refine s_Ru_perform_32 ⟨fun z => by omega, fun _ => ⟨fun z => by omega, fun _ => ⟨ob_10, ?_⟩⟩⟩
    rw [h2]
    refine ⟨fun z => h Y t hR (Or.inr (Or.inr z)) hU hO, fun z => ⟨ob_10, ?_⟩⟩
    have nst : ¬ rstp l Y := fun q => by rcases q with q | q | q <;> omega
    have hgo := hR.trans (RG.go (fn := rt C) nst)
    obtain ⟨⟨w1, w10⟩, wE⟩ := i2 _ hb.1 z
    have dp := (i5 _ hb.1 hb.2).2
    refine Sc_get_s hC hb.1 (by omega) (by omega) (by omega) ⟨fun q10 => ?_, fun q10 => ?_⟩
    · obtain ⟨n1, n2, n3, n4, n5⟩ := i4 _ hb.1 z q10
      rw [r1]
      refine ⟨fun q3 t7 e => ?_, fun q3 t7 e => ?_⟩
      · rw [w32_id (x := yk Y + 1) (by omega) (by omega)] at e
        have rr : ∀ b j, (b ≠ 114 ∨ j ≠ 1) → t7 b j = t b j := fun b j q => by rw [e, up_ne q]
        have hO7 : OffN DRun σ t7 := OffN_trans hO (OffN_of (by rw [e]; exact Off_up (by unfold DRun; omega)))
        have hOs : OffN (fun b j => b = 114) t t7 := OffN_of (by rw [e]; exact Off_up rfl)
        have hK7 : KC t7 6 (yc Y) := hK.off hOs (fun b j q1 q2 => by omega)
        have hST7 : ST t7 := fun e2 he => by have := ech_list he; rw [rr _ _ (by omega)]; exact hST e2 he
        have hUN7 : UN t7 := fun j j0 j1 => by rw [rr _ _ (by omega)]; exact hUN j j0 j1
        have hC7 : CRa t7 11 C := hC.fr (fun j => rr 11 j (by omega))
        have ht7 : ∀ j, 0 ≤ j → j < 60 → t7 115 j = yt Y j ∧ 0 ≤ yt Y j ∧ yt Y j ≤ 99 := fun j j0 j1 => by rw [rr _ _ (by omega)]; exact ht j j0 j1
        have k7 : t7 114 1 = yk Y + 1 := by rw [e, up_same]
        refine ⟨fun q9 => ⟨fun q8 => ⟨fun q7 => ?_, fun q7 => ?_⟩, fun q8 => ⟨ob_10, ?_⟩⟩, fun q9 => ?_⟩
        · -- a plain STEP
          have hw6 : 1 ≤ C (yb Y) 0 ∧ C (yb Y) 0 ≤ 6 := by omega
          have ar4 := n5.2.2.2.1
          have n3' := n3 (by omega)
          refine Ru_isDone_s hK7 hD hC7 hST7 hUN7 hb.1 (by omega) hw6 (fun q => by have := ar4 (by omega); omega) (fun hok t8 hK8 hD8 hS8 hO8 => ⟨fun _ => ?_, fun y => by omega⟩) (fun hok t8 hK8 hS8 hO8 => ⟨fun y => absurd rfl y, fun _ t9 e9 => ?_⟩)
          · have eT : rt C Y = (resP C (yb Y) (yc Y), yb Y + 1, yk Y + 1, ym Y, yf Y, 0, yt Y) := by
              unfold rt; rw [if_neg q10, if_neg (by omega), if_neg q9, if_neg q8, if_neg q7, if_pos (zb_t hok)]
            have r8 : ∀ b j, ¬ DPl b j → (b ≠ 8 ∧ b ≠ 14 ∧ b ≠ 16 ∧ b ≠ 18 ∧ b ≠ 20) → t8 b j = t7 b j := fun b j q q2 => hO8 b j q (Or.inl (by omega))
            rw [w32_id (x := yb Y + 1) (by omega) (by omega), e7]
            have em : mu C (rt C Y) = 5 * (101 * (300 - (yk Y + 1)) + sR (yt Y) 0 60) + C (yb Y + 1) 7 := by rw [eT]; rfl
            unfold mu at m0 mn xm
            have dp2 := (i5 (yb Y + 1) (by omega) (by omega)).2
            have := ih (rt C Y) (x7 + 1) t8 hgo (by rw [eT]) (by rw [eT]; show 0 ≤ yb Y + 1 ∧ yb Y + 1 ≤ l; omega) (by rw [eT]; show 0 ≤ yk Y + 1 ∧ yk Y + 1 ≤ 300; omega) (by rw [eT]; show 0 ≤ ym Y ∧ ym Y ≤ yk Y + 1; omega) ?_ (OffN_trans hO7 (OffN_mono hO8 (fun b j q => by unfold DPl at q; unfold DRun; omega))) (by rw [em]; omega) (by rw [em]; omega) (by omega) (by rw [em]; omega)
            · rw [eT] at this; exact this
            · rw [eT]
              refine ⟨⟨hK8, hD8⟩, ⟨hS8, fun j j0 j1 => by rw [r8 _ _ (by unfold DPl; omega) (by omega)]; exact hUN7 j j0 j1⟩, ⟨hC7.fr (fun j => r8 11 j (by unfold DPl; omega) (by omega)), by rw [r8 10 2 (by unfold DPl; omega) (by omega), rr _ _ (by omega)]; exact h2⟩, ⟨by rw [r8 114 0 (by unfold DPl; omega) (by omega), rr _ _ (by omega)]; exact r0, by rw [r8 114 1 (by unfold DPl; omega) (by omega)]; exact k7, by rw [r8 114 2 (by unfold DPl; omega) (by omega), rr _ _ (by omega)]; exact r2, by rw [r8 114 3 (by unfold DPl; omega) (by omega), rr _ _ (by omega)]; exact r3⟩, fun j j0 j1 => by rw [r8 115 j (by unfold DPl; omega) (by omega)]; exact ht7 j j0 j1⟩
          · have eT : rt C Y = (yc Y, yb Y + 1, yk Y + 1, ym Y + 1, yf Y, 0, yt Y) := by
              unfold rt; rw [if_neg q10, if_neg (by omega), if_neg q9, if_neg q8, if_neg q7, if_neg (by rw [zb_f hok]; exact Bool.false_ne_true)]
            have r8 : ∀ b j, ¬ DPl b j → (b ≠ 8 ∧ b ≠ 14 ∧ b ≠ 16 ∧ b ≠ 18 ∧ b ≠ 20) → t8 b j = t7 b j := fun b j q q2 => hO8 b j q (Or.inl (by omega))
            rw [r8 114 2 (by unfold DPl; omega) (by omega), rr _ _ (by omega), r2, w32_id (x := ym Y + 1) (by omega) (by omega)] at e9
            have r9 : ∀ b j, (b ≠ 114 ∨ j ≠ 2) → t9 b j = t8 b j := fun b j q => by rw [e9, up_ne q]
            rw [w32_id (x := yb Y + 1) (by omega) (by omega), e7]
            have em : mu C (rt C Y) = 5 * (101 * (300 - (yk Y + 1)) + sR (yt Y) 0 60) + C (yb Y + 1) 7 := by rw [eT]; rfl
            unfold mu at m0 mn xm
            have dp2 := (i5 (yb Y + 1) (by omega) (by omega)).2
            have hO89 : OffN (fun b j => b = 114) t8 t9 := OffN_of (by rw [e9]; exact Off_up rfl)
            have := ih (rt C Y) (x7 + 1) t9 hgo (by rw [eT]) (by rw [eT]; show 0 ≤ yb Y + 1 ∧ yb Y + 1 ≤ l; omega) (by rw [eT]; show 0 ≤ yk Y + 1 ∧ yk Y + 1 ≤ 300; omega) (by rw [eT]; show 0 ≤ ym Y + 1 ∧ ym Y + 1 ≤ yk Y + 1; omega) ?_ (OffN_trans (OffN_trans hO7 (OffN_mono hO8 (fun b j q => by unfold DPl at q; unfold DRun; omega))) (OffN_of (by rw [e9]; exact Off_up (by unfold DRun; omega)))) (by rw [em]; omega) (by rw [em]; omega) (by omega) (by rw [em]; omega)
            · rw [eT] at this; exact this
            · rw [eT]
              refine ⟨⟨hK8.off hO89 (fun b j q1 q2 => by omega), hD⟩, ⟨fun e2 he => by have := ech_list he; rw [r9 _ _ (by omega)]; exact hS8 e2 he, fun j j0 j1 => by rw [r9 _ _ (by omega), r8 _ _ (by unfold DPl; omega) (by omega)]; exact hUN7 j j0 j1⟩, ⟨hC7.fr (fun j => by rw [r9 _ _ (by omega)]; exact r8 11 j (by unfold DPl; omega) (by omega)), by rw [r9 _ _ (by omega), r8 10 2 (by unfold DPl; omega) (by omega), rr _ _ (by omega)]; exact h2⟩, ⟨by rw [r9 _ _ (by omega), r8 114 0 (by unfold DPl; omega) (by omega), rr _ _ (by omega)]; exact r0, by rw [r9 _ _ (by omega), r8 114 1 (by unfold DPl; omega) (by omega)]; exact k7, by rw [e9, up_same], by rw [r9 _ _ (by omega), r8 114 3 (by unfold DPl; omega) (by omega), rr _ _ (by omega)]; exact r3⟩, fun j j0 j1 => by rw [r9 _ _ (by omega), r8 115 j (by unfold DPl; omega) (by omega)]; exact ht7 j j0 j1⟩
        · -- WHEN
          obtain ⟨v1, v2, v3, v4⟩ := n5.2.2.2.2.1 q7
          have hcl : CLS C M l (yb Y) := by
            rcases i7 _ hb.1 z (Or.inl q7) with ⟨i, i0, i1, _⟩ | hc
            · omega
            · exact hc
          obtain ⟨⟨p1, p2⟩, p3, p4, p5, p6, p7⟩ := hcl
          have n2' := n2 (Or.inl q7)
          refine Ru_isSo_s hK7 hD hC7 hST7 hb.1 (by omega) ⟨v1.2, fun q => by have := v2 q; omega, fun q => by have := v4 q; omega⟩ (fun hok t8 hS8 hO8 => ⟨fun _ => ?_, fun y => by omega⟩) (fun hok t8 hS8 hO8 => ⟨fun y => absurd rfl y, fun _ => ⟨ob_10, ?_⟩⟩)
          · have eT : rt C Y = (yc Y, yb Y + 1, yk Y + 1, ym Y, yf Y, 0, yt Y) := by
              unfold rt; rw [if_neg q10, if_neg (by omega), if_neg q9, if_neg q8, if_pos q7, if_pos (zb_t hok)]
            have r8 : ∀ b j, ¬ (43 ≤ b ∧ b ≤ 103) → (b ≠ 8 ∧ b ≠ 14 ∧ b ≠ 16 ∧ b ≠ 18 ∧ b ≠ 20) → t8 b j = t7 b j := fun b j q q2 => hO8 b j q (Or.inl (by omega))
            rw [w32_id (x := yb Y + 1) (by omega) (by omega), e7]
            have em : mu C (rt C Y) = 5 * (101 * (300 - (yk Y + 1)) + sR (yt Y) 0 60) + C (yb Y + 1) 7 := by rw [eT]; rfl
            unfold mu at m0 mn xm
            have dp2 := (i5 (yb Y + 1) (by omega) (by omega)).2
            have := ih (rt C Y) (x7 + 1) t8 hgo (by rw [eT]) (by rw [eT]; show 0 ≤ yb Y + 1 ∧ yb Y + 1 ≤ l; omega) (by rw [eT]; show 0 ≤ yk Y + 1 ∧ yk Y + 1 ≤ 300; omega) (by rw [eT]; show 0 ≤ ym Y ∧ ym Y ≤ yk Y + 1; omega) ?_ (OffN_trans hO7 (OffN_mono hO8 (fun b j q => by unfold DRun; omega))) (by rw [em]; omega) (by rw [em]; omega) (by omega) (by rw [em]; omega)
            · rw [eT] at this; exact this
            · rw [eT]
              refine ⟨⟨hK7.off hO8 (fun b j q1 q2 => by omega), hD⟩, ⟨hS8, fun j j0 j1 => by rw [r8 _ _ (by omega) (by omega)]; exact hUN7 j j0 j1⟩, ⟨hC7.fr (fun j => r8 11 j (by omega) (by omega)), by rw [r8 10 2 (by omega) (by omega), rr _ _ (by omega)]; exact h2⟩, ⟨by rw [r8 114 0 (by omega) (by omega), rr _ _ (by omega)]; exact r0, by rw [r8 114 1 (by omega) (by omega)]; exact k7, by rw [r8 114 2 (by omega) (by omega), rr _ _ (by omega)]; exact r2, by rw [r8 114 3 (by omega) (by omega), rr _ _ (by omega)]; exact r3⟩, fun j j0 j1 => by rw [r8 115 j (by omega) (by omega)]; exact ht7 j j0 j1⟩
          · have eT : rt C Y = (yc Y, C (yb Y) 5 + 1, yk Y + 1, ym Y, yf Y, 0, yt Y) := by
              unfold rt; rw [if_neg q10, if_neg (by omega), if_neg q9, if_neg q8, if_pos q7, if_neg (by rw [zb_f hok]; exact Bool.false_ne_true)]
            have r8 : ∀ b j, ¬ (43 ≤ b ∧ b ≤ 103) → (b ≠ 8 ∧ b ≠ 14 ∧ b ≠ 16 ∧ b ≠ 18 ∧ b ≠ 20) → t8 b j = t7 b j := fun b j q q2 => hO8 b j q (Or.inl (by omega))
            have hC8 : CRa t8 11 C := hC7.fr (fun j => r8 11 j (by omega) (by omega))
            refine Sc_get_s hC8 hb.1 (by omega) (by omega) (by omega) ?_
            rw [w32_id (x := C (yb Y) 5 + 1) (by omega) (by omega), e7]
            have em : mu C (rt C Y) = 5 * (101 * (300 - (yk Y + 1)) + sR (yt Y) 0 60) + C (C (yb Y) 5 + 1) 7 := by rw [eT]; rfl
            have e3 := (i3 _ (by omega) p2 p3).2
            unfold mu at m0 mn xm
            have := ih (rt C Y) (x7 + 1) t8 hgo (by rw [eT]) (by rw [eT]; show 0 ≤ C (yb Y) 5 + 1 ∧ C (yb Y) 5 + 1 ≤ l; omega) (by rw [eT]; show 0 ≤ yk Y + 1 ∧ yk Y + 1 ≤ 300; omega) (by rw [eT]; show 0 ≤ ym Y ∧ ym Y ≤ yk Y + 1; omega) ?_ (OffN_trans hO7 (OffN_mono hO8 (fun b j q => by unfold DRun; omega))) (by rw [em]; omega) (by rw [em]; omega) (by omega) (by rw [em]; omega)
            · rw [eT] at this; exact this
            · rw [eT]
              refine ⟨⟨hK7.off hO8 (fun b j q1 q2 => by omega), hD⟩, ⟨hS8, fun j j0 j1 => by rw [r8 _ _ (by omega) (by omega)]; exact hUN7 j j0 j1⟩, ⟨hC8, by rw [r8 10 2 (by omega) (by omega), rr _ _ (by omega)]; exact h2⟩, ⟨by rw [r8 114 0 (by omega) (by omega), rr _ _ (by omega)]; exact r0, by rw [r8 114 1 (by omega) (by omega)]; exact k7, by rw [r8 114 2 (by omega) (by omega), rr _ _ (by omega)]; exact r2, by rw [r8 114 3 (by omega) (by omega), rr _ _ (by omega)]; exact r3⟩, fun j j0 j1 => by rw [r8 115 j (by omega) (by omega)]; exact ht7 j j0 j1⟩
        · -- LOOP
          obtain ⟨v1, v2, v3⟩ := n5.2.2.2.2.2 q8
          have n2' := n2 (Or.inr q8)
          refine Sc_get_s hC7 hb.1 (by omega) (by omega) (by omega) ⟨⟨hb.1, by omega⟩, fun t8 e8 => ?_⟩
          have eT : rt C Y = (yc Y, yb Y + 1, yk Y + 1, ym Y, yf Y, 0, fup (yt Y) (yb Y) (C (yb Y) 1)) := by
            unfold rt; rw [if_neg q10, if_neg (by omega), if_neg q9, if_pos q8]
          have r8 : ∀ b j, (b ≠ 115 ∨ j ≠ yb Y) → t8 b j = t7 b j := fun b j q => by rw [e8, up_ne q]
          have hO8 : OffN (fun b j => b = 115) t7 t8 := OffN_of (by rw [e8]; exact Off_up rfl)
          rw [w32_id (x := yb Y + 1) (by omega) (by omega), e7]
          have em : mu C (rt C Y) = 5 * (101 * (300 - (yk Y + 1)) + (sR (yt Y) 0 60 - yt Y (yb Y) + C (yb Y) 1)) + C (yb Y + 1) 7 := by
            rw [eT, ← sR_fup hb.1 (by omega)]; rfl
          have tb := (ht (yb Y) hb.1 (by omega)).2
          have sb2 : 0 ≤ sR (yt Y) 0 60 - yt Y (yb Y) + C (yb Y) 1 := by
            rw [← sR_fup hb.1 (by omega)]
            have := sR_bound (f := fup (yt Y) (yb Y) (C (yb Y) 1)) (lo := 0) (hi := 60) (A := 0) (B := 99) (by omega) (by omega) (fun j j0 j1 => by
              unfold fup
              by_cases qj : j = yb Y
              · rw [if_pos qj]; omega
              · rw [if_neg qj]; exact (ht j j0 j1).2) (n := 60) (by omega) (by omega)
            omega
          unfold mu at m0 mn xm
          have dp2 := (i5 (yb Y + 1) (by omega) (by omega)).2
          have := ih (rt C Y) (x7 + 1) t8 hgo (by rw [eT]) (by rw [eT]; show 0 ≤ yb Y + 1 ∧ yb Y + 1 ≤ l; omega) (by rw [eT]; show 0 ≤ yk Y + 1 ∧ yk Y + 1 ≤ 300; omega) (by rw [eT]; show 0 ≤ ym Y ∧ ym Y ≤ yk Y + 1; omega) ?_ (OffN_trans hO7 (OffN_mono hO8 (fun b j q => by unfold DRun; omega))) (by rw [em]; omega) (by rw [em]; omega) (by omega) (by rw [em]; omega)
          · rw [eT] at this; exact this
          · rw [eT]
            refine ⟨⟨hK7.off hO8 (fun b j q1 q2 => by omega), hD⟩, ⟨fun e2 he => by have := ech_list he; rw [r8 _ _ (by omega)]; exact hST7 e2 he, fun j j0 j1 => by rw [r8 _ _ (by omega)]; exact hUN7 j j0 j1⟩, ⟨hC7.fr (fun j => r8 11 j (by omega)), by rw [r8 10 2 (by omega), rr _ _ (by omega)]; exact h2⟩, ⟨by rw [r8 114 0 (by omega), rr _ _ (by omega)]; exact r0, by rw [r8 114 1 (by omega)]; exact k7, by rw [r8 114 2 (by omega), rr _ _ (by omega)]; exact r2, by rw [r8 114 3 (by omega), rr _ _ (by omega)]; exact r3⟩, fun j j0 j1 => ?_⟩
            show t8 115 j = fup (yt Y) (yb Y) (C (yb Y) 1) j ∧ 0 ≤ fup (yt Y) (yb Y) (C (yb Y) 1) j ∧ fup (yt Y) (yb Y) (C (yb Y) 1) j ≤ 99
            unfold fup
            by_cases qj : j = yb Y
            · rw [if_pos qj, qj, e8, up_same]; exact ⟨rfl, by omega, by omega⟩
            · rw [if_neg qj, r8 115 j (by omega)]; exact ht7 j j0 j1
        · -- STOP
          have eT : rt C Y = (yc Y, yb Y, yk Y + 1, ym Y, yf Y, 1, yt Y) := by
            unfold rt; rw [if_neg q10, if_neg (by omega), if_pos q9]
          refine h (rt C Y) t7 hgo (by rw [eT]; exact Or.inl rfl) ?_ hO7
          rw [eT]
          exact ⟨⟨hK7, hD⟩, ⟨hST7, hUN7⟩, ⟨hC7, by rw [rr _ _ (by omega)]; exact h2⟩, ⟨by rw [rr _ _ (by omega)]; exact r0, k7, by rw [rr _ _ (by omega)]; exact r2, by rw [rr _ _ (by omega)]; exact r3⟩, ht7⟩
      · have eT : rt C Y = (yc Y, yb Y, yk Y, ym Y, 1, 1, yt Y) := by
          unfold rt; rw [if_neg q10, if_pos q3]
        have rr : ∀ b j, (b ≠ 114 ∨ j ≠ 3) → t7 b j = t b j := fun b j q => by rw [e, up_ne q]
        refine h (rt C Y) t7 hgo (by rw [eT]; exact Or.inl rfl) ?_ (OffN_trans hO (OffN_of (by rw [e]; exact Off_up (by unfold DRun; omega))))
        rw [eT]
        exact ⟨⟨hK.off (D := fun b j => b = 114) (OffN_of (by rw [e]; exact Off_up rfl)) (fun b j q1 q2 => by omega), hD⟩, ⟨fun e2 he => by have := ech_list he; rw [rr _ _ (by omega)]; exact hST e2 he, fun j j0 j1 => by rw [rr _ _ (by omega)]; exact hUN j j0 j1⟩, ⟨hC.fr (fun j => rr 11 j (by omega)), by rw [rr _ _ (by omega)]; exact h2⟩, ⟨by rw [rr _ _ (by omega)]; exact r0, by rw [rr _ _ (by omega)]; exact r1, by rw [rr _ _ (by omega)]; exact r2, by rw [e, up_same]⟩, fun j j0 j1 => by rw [rr _ _ (by omega)]; exact ht j j0 j1⟩
    · -- an END
      obtain ⟨⟨g1, g2⟩, g3, g4⟩ := wE q10
      obtain ⟨c1, c2⟩ := i3 _ hb.1 z q10
      obtain ⟨n1, n2, n3, n4, n5⟩ := i4 _ g1 (by omega : C (yb Y) 5 < l) (by omega)
      have n2' := n2 g3
      refine Ru_behindEnd_s hC hb.1 (by omega) ht (fun hc t8 e8 => ?_) (fun hc => ?_)
      · have eT : rt C Y = (yc Y, C (yb Y) 5 + 1, yk Y, ym Y, yf Y, 0, fup (yt Y) (C (yb Y) 5) (yt Y (C (yb Y) 5) - 1)) := by
          unfold rt; rw [if_pos q10, if_pos hc]
        have r8 : ∀ b j, (b ≠ 115 ∨ j ≠ C (yb Y) 5) → t8 b j = t b j := fun b j q => by rw [e8, up_ne q]
        have hO8 : OffN (fun b j => b = 115) t t8 := OffN_of (by rw [e8]; exact Off_up rfl)
        rw [e7]
        have em : mu C (rt C Y) = 5 * (101 * (300 - yk Y) + (sR (yt Y) 0 60 - yt Y (C (yb Y) 5) + (yt Y (C (yb Y) 5) - 1))) + C (C (yb Y) 5 + 1) 7 := by
          rw [eT, ← sR_fup g1 (by omega)]; rfl
        have tb := (ht (C (yb Y) 5) g1 (by omega)).2
        have sb2 : 0 ≤ sR (yt Y) 0 60 - yt Y (C (yb Y) 5) + (yt Y (C (yb Y) 5) - 1) := by
          rw [← sR_fup g1 (by omega)]
          have := sR_bound (f := fup (yt Y) (C (yb Y) 5) (yt Y (C (yb Y) 5) - 1)) (lo := 0) (hi := 60) (A := 0) (B := 99) (by omega) (by omega) (fun j j0 j1 => by
            unfold fup
            by_cases qj : j = C (yb Y) 5
            · rw [if_pos qj]; have := hc.2.2; omega
            · rw [if_neg qj]; exact (ht j j0 j1).2) (n := 60) (by omega) (by omega)
          omega
        unfold mu at m0 mn xm
        have dp2 := (i5 (C (yb Y) 5 + 1) (by omega) (by omega)).2
        have := ih (rt C Y) (x7 + 1) t8 hgo (by rw [eT]) (by rw [eT]; show 0 ≤ C (yb Y) 5 + 1 ∧ C (yb Y) 5 + 1 ≤ l; omega) (by rw [eT]; exact hk) (by rw [eT]; exact hm) ?_ (OffN_trans hO (OffN_mono hO8 (fun b j q => by unfold DRun; omega))) (by rw [em]; omega) (by rw [em]; omega) (by omega) (by rw [em]; omega)
        · rw [eT] at this; exact this
        · rw [eT]
          refine ⟨⟨hK.off hO8 (fun b j q1 q2 => by omega), hD⟩, ⟨fun e2 he => by have := ech_list he; rw [r8 _ _ (by omega)]; exact hST e2 he, fun j j0 j1 => by rw [r8 _ _ (by omega)]; exact hUN j j0 j1⟩, ⟨hC.fr (fun j => r8 11 j (by omega)), by rw [r8 10 2 (by omega)]; exact h2⟩, ⟨by rw [r8 114 0 (by omega)]; exact r0, by rw [r8 114 1 (by omega)]; exact r1, by rw [r8 114 2 (by omega)]; exact r2, by rw [r8 114 3 (by omega)]; exact r3⟩, fun j j0 j1 => ?_⟩
          show t8 115 j = fup (yt Y) (C (yb Y) 5) (yt Y (C (yb Y) 5) - 1) j ∧ 0 ≤ fup (yt Y) (C (yb Y) 5) (yt Y (C (yb Y) 5) - 1) j ∧ fup (yt Y) (C (yb Y) 5) (yt Y (C (yb Y) 5) - 1) j ≤ 99
          unfold fup
          by_cases qj : j = C (yb Y) 5
          · rw [if_pos qj, qj, e8, up_same]; have := hc.2.2; exact ⟨rfl, by omega, by omega⟩
          · rw [if_neg qj, r8 115 j (by omega)]; exact ht j j0 j1
      · have eT : rt C Y = (yc Y, yb Y + 1, yk Y, ym Y, yf Y, 0, yt Y) := by
          unfold rt; rw [if_pos q10, if_neg hc]
        rw [e7]
        have em : mu C (rt C Y) = 5 * (101 * (300 - yk Y) + sR (yt Y) 0 60) + C (yb Y + 1) 7 := by rw [eT]; rfl
        unfold mu at m0 mn xm
        have dp2 := (i5 (yb Y + 1) (by omega) (by omega)).2
        have := ih (rt C Y) (x7 + 1) t hgo (by rw [eT]) (by rw [eT]; show 0 ≤ yb Y + 1 ∧ yb Y + 1 ≤ l; omega) (by rw [eT]; exact hk) (by rw [eT]; exact hm) (by rw [eT]; exact ⟨⟨hK, hD⟩, ⟨hST, hUN⟩, ⟨hC, h2⟩, ⟨r0, r1, r2, r3⟩, ht⟩) hO (by rw [em]; omega) (by rw [em]; omega) (by omega) (by rw [em]; omega)
        rw [eT] at this; exact this
def Y0 (c tu : Int → Int) : YS := (c, 0, 0, 0, 0, 0, tu)
theorem Ru_perform_s {c : Int → Int} (hI : SI l k 0 o C M) (hl0 : 0 ≤ l) (hl : l ≤ 60) (hK : KC σ 6 c) (hD : DC c) (hST : ST σ) (hUN : UN σ) (hC : CRa σ 11 C) (h2 : σ 10 2 = l) (ht : ∀ j, 0 ≤ j → j < 60 → 0 ≤ σ 115 j ∧ σ 115 j ≤ 99)
    (h : ∀ Y t, RG (rstp l) (rt C) (Y0 c (fun j => σ 115 j)) Y → rstp l Y → RUC t C l Y → OffN DRun σ t → Q 0 t) : Tri (d + 7) M_Ru_perform [vA 114, vA 6, vA 42, vA 78, vA 104] σ Q := by
  refine t_Ru_perform ⟨ob_6, fun t1 e1 t2 e2 t3 e3 t4 e4 => ?_⟩
  have rr : ∀ b j, (b ≠ 114 ∨ ¬ (0 ≤ j ∧ j ≤ 3)) → t4 b j = σ b j := fun b j q => by rw [e4, up_ne (by omega), e3, up_ne (by omega), e2, up_ne (by omega), e1, up_ne (by omega)]
  have hO : OffN (fun b j => b = 114 ∧ 0 ≤ j ∧ j ≤ 3) σ t4 := fun b j q _ => rr b j (by omega)
  have sb := sR_bound (f := fun j => σ 115 j) (lo := 0) (hi := 60) (A := 0) (B := 99) (by omega) (by omega) (fun j j0 j1 => ht j j0 j1) (n := 60) (by omega) (by omega)
  have em : mu C (Y0 c (fun j => σ 115 j)) = 5 * (101 * (300 - 0) + sR (fun j => σ 115 j) 0 60) + C 0 7 := rfl
  have e07 := hI.1.2.2.2
  exact Ru_loop hI hl0 hl h 200001 (Y0 c (fun j => σ 115 j)) 0 t4 RG.rfl' rfl ⟨Int.le_refl _, hl0⟩ ⟨Int.le_refl _, by show (0 : Int) ≤ 300; omega⟩ ⟨Int.le_refl _, Int.le_refl _⟩ ⟨⟨hK.off hO (fun b j q1 q2 => by omega), hD⟩, ⟨fun e2 he => by have := ech_list he; rw [rr _ _ (by omega)]; exact hST e2 he, fun j j0 j1 => by rw [rr _ _ (by omega)]; exact hUN j j0 j1⟩, ⟨hC.fr (fun j => rr 11 j (by omega)), by rw [rr _ _ (by omega)]; exact h2⟩, ⟨by rw [e4, up_ne (by omega), e3, up_ne (by omega), e2, up_ne (by omega), e1, up_same], by rw [e4, up_ne (by omega), e3, up_ne (by omega), e2, up_same]; rfl, by rw [e4, up_ne (by omega), e3, up_same]; rfl, by rw [e4, up_same]; rfl⟩, fun j j0 j1 => ⟨rr 115 j (by omega), ht j j0 j1⟩⟩ (OffN_mono hO (fun b j q => by unfold DRun; omega)) (by rw [em]; omega) (by rw [em]; omega) (Int.le_refl _) (by rw [em]; omega)
end PRF
