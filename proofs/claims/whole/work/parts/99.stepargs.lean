/-! ===== SCRIPTS: tests and the rest of a STEP ===== -/
noncomputable def ts0 (f : Int → Int) (N : Int) (s : PS) : PS := mst f N (zb (waR f N s.2.2 (strI 8) ≠ 0)) s
noncomputable def tsS (f : Int → Int) (N : Int) (s : PS) : PS := if waR f N s.2.2 (strI 8) = 5 then cns f N 0 5 (agc f N (cns f N 0 5 (ts0 f N s))) else if waR f N s.2.2 (strI 8) = 6 then cns f N 0 5 (agc f N (ts0 f N s)) else if waR f N s.2.2 (strI 8) = 7 then cns f N 0 3 (ts0 f N s) else ts0 f N s
noncomputable def tsC (f : Int → Int) (N : Int) (s : PS) (C : Int → Int → Int) (l : Int) : Int → Int → Int := if waR f N s.2.2 (strI 8) = 5 then c2u (c2u (c2u (c2u C l 1 (waR f N s.2.2 (strI 8))) l 2 (cnv f N 0 5 (ts0 f N s))) l 3 (cmS (f (tS f N (cns f N 0 5 (ts0 f N s)).2.2)))) l 4 (cnv f N 0 5 (agc f N (cns f N 0 5 (ts0 f N s)))) else if waR f N s.2.2 (strI 8) = 6 then c2u (c2u (c2u C l 1 (waR f N s.2.2 (strI 8))) l 3 (cmS (f (tS f N (ts0 f N s).2.2)))) l 4 (cnv f N 0 5 (agc f N (ts0 f N s))) else if waR f N s.2.2 (strI 8) = 7 then c2u (c2u C l 1 (waR f N s.2.2 (strI 8))) l 2 (cnv f N 0 3 (ts0 f N s)) else c2u C l 1 (waR f N s.2.2 (strI 8))
noncomputable def agS (f : Int → Int) (N w : Int) (s : PS) : PS := if w = 1 then cns f N 0 4 (cns f N 0 4 s) else if w = 2 then cns f N 1 6 (agw f N 9 (cns f N 0 4 s)) else if w = 3 then cns f N 0 4 (agw f N 10 (cns f N 0 4 (agw f N 5 (cns f N 0 6 s)))) else if w = 7 then tsS f N s else if w = 8 then cns f N 1 99 s else if w = 4 ∨ w = 5 ∨ w = 6 then cns f N 0 3 s else s
noncomputable def agC (f : Int → Int) (N w : Int) (s : PS) (C : Int → Int → Int) (l : Int) : Int → Int → Int := if w = 1 then c2u (c2u C l 1 (cnv f N 0 4 s)) l 2 (cnv f N 0 4 (cns f N 0 4 s)) else if w = 2 then c2u (c2u C l 1 (cnv f N 0 4 s)) l 2 (cnv f N 1 6 (agw f N 9 (cns f N 0 4 s))) else if w = 3 then c2u (c2u (c2u C l 1 (cnv f N 0 6 s)) l 2 (cnv f N 0 4 (agw f N 5 (cns f N 0 6 s)))) l 3 (cnv f N 0 4 (agw f N 10 (cns f N 0 4 (agw f N 5 (cns f N 0 6 s))))) else if w = 7 then tsC f N s C l else if w = 8 then c2u C l 1 (cnv f N 1 99 s) else if w = 4 ∨ w = 5 ∨ w = 6 then c2u C l 1 (cnv f N 0 3 s) else C
theorem agw_bad {f : Int → Int} {N : Int} {k : Nat} {s : PS} (h : 0 < s.1) : agw f N k s = s := mst_bad h
theorem agc_bad {f : Int → Int} {N : Int} {s : PS} (h : 0 < s.1) : agc f N s = s := mst_bad h
section SCR
variable {d : Nat} {σ : SG} {Q : Int → SG → Prop} {f : Int → Int} {N l : Int} {C : Int → Int → Int} {s : PS}
theorem Sc_readTest_s (g0 : s.1 = 0) (l0 : 0 ≤ l) (l1 : l < 60) (hl : σ 28 2 = l) (hT : TC σ f N s.2.2) (hC : CR σ C)
    (h1 : (tsS f N s).1 = 0 → ∀ t, TC t f N (tsS f N s).2.2 → CR t (tsC f N s C l) → Off (fun b j => (b = 22 ∧ (j = 1 ∨ j = 2 ∨ j = 3 ∨ j = 6 ∨ j = 7 ∨ j = 8)) ∨ b = 29) σ t → Q 1 t)
    (h0 : 0 < (tsS f N s).1 → ∀ t, FT t (tsS f N s).1 (tsS f N s).2.1 → Off (fun b j => (b = 22 ∧ (j = 1 ∨ j = 2 ∨ j = 3 ∨ j = 6 ∨ j = 7 ∨ j = 8)) ∨ b = 29) σ t → Q 0 t) : Tri (d + 5) M_Sc_readTest [vA 28, vA 22] σ Q := by
  have hl2 : ∀ t, Off (fun b j => (b = 22 ∧ (j = 1 ∨ j = 2 ∨ j = 3 ∨ j = 6 ∨ j = 7 ∨ j = 8)) ∨ b = 29) σ t → t 28 2 = l := fun t hO => (hO 28 2 (by omega)).trans hl
  refine t_Sc_readTest ⟨ob_22, To_wordAmong_s (k := 8) (by omega) hT ?_⟩
  generalize hw : waR f N s.2.2 (strI 8) = w at *
  have eS : tsS f N s = if w = 5 then cns f N 0 5 (agc f N (cns f N 0 5 (ts0 f N s))) else if w = 6 then cns f N 0 5 (agc f N (ts0 f N s)) else if w = 7 then cns f N 0 3 (ts0 f N s) else ts0 f N s := by unfold tsS; rw [hw]
  have eC : tsC f N s C l = if w = 5 then c2u (c2u (c2u (c2u C l 1 w) l 2 (cnv f N 0 5 (ts0 f N s))) l 3 (cmS (f (tS f N (cns f N 0 5 (ts0 f N s)).2.2)))) l 4 (cnv f N 0 5 (agc f N (cns f N 0 5 (ts0 f N s)))) else if w = 6 then c2u (c2u (c2u C l 1 w) l 3 (cmS (f (tS f N (ts0 f N s).2.2)))) l 4 (cnv f N 0 5 (agc f N (ts0 f N s))) else if w = 7 then c2u (c2u C l 1 w) l 2 (cnv f N 0 3 (ts0 f N s)) else c2u C l 1 w := by unfold tsC; rw [hw]
  refine ⟨fun z => ⟨ob_28, ob_28, ?_⟩, fun z => ⟨ob_22, To_blame_s hT (fun t q2 q3 _ hO => ⟨Or.inl rfl, ?_⟩)⟩⟩
  · have e0 : ts0 f N s = adv f N s := by unfold ts0; rw [hw]; exact mst_go g0 (zb_t z)
    rw [hl]
    refine Sc_set_s l0 l1 (by omega) (by omega) hC (fun t3 hC3 hO3 => ⟨ob_22, To_next_s (TC.fr hT (funext fun q => hO3 23 q (by omega)) (fun q _ _ _ _ => hO3 22 q (by omega))) (fun t4 hT4 hO4 => ?_)⟩)
    have hC4 : CR t4 (c2u C l 1 w) := hC3.fr (fun q => hO4 29 q (by omega))
    have hD4 : Off (fun b j => (b = 22 ∧ (j = 1 ∨ j = 2 ∨ j = 3 ∨ j = 6 ∨ j = 7 ∨ j = 8)) ∨ b = 29) σ t4 := offST (Off_mono hO3 (fun b j q => by omega)) hO4
    have hT4' : TC t4 f N (ts0 f N s).2.2 := by rw [e0]; exact hT4
    have ge : (ts0 f N s).1 = 0 := by rw [e0]; rfl
    refine ⟨fun y => ?_, fun y => ⟨ob_28, ?_⟩, fun y => ⟨ob_28, ?_⟩, fun y => ⟨ob_28, ?_⟩⟩
    · rw [eS, if_neg (by omega), if_neg (by omega), if_neg (by omega)] at h1
      rw [eC, if_neg (by omega), if_neg (by omega), if_neg (by omega)] at h1
      exact h1 ge t4 hT4' hC4 hD4
    · rw [eS, if_pos y] at h1 h0
      rw [eC, if_pos y] at h1
      refine Sc_number_s ge l0 l1 (by omega) (by omega) (hl2 t4 hD4) hT4' hC4 (fun g5 t5 hT5 hC5 hO5 => ⟨fun q => by omega, fun _ => ⟨ob_28, ?_⟩⟩) (fun g5 t5 hF hO5 => ⟨fun _ => ?_, fun q => absurd rfl q⟩)
      · refine Sc_readCompares_s g5 l0 l1 (hl2 t5 (Off_trans hD4 hO5)) hT5 hC5 (fun g6 t6 hT6 hC6 hO6 => ⟨fun q => by omega, fun _ => ⟨ob_28, ?_⟩⟩) (fun g6 t6 hF hO6 => ⟨fun _ => ?_, fun q => absurd rfl q⟩)
        · refine Sc_number_s g6 l0 l1 (by omega) (by omega) (hl2 t6 (Off_trans (Off_trans hD4 hO5) hO6)) hT6 hC6 (fun g7 t7 hT7 hC7 hO7 => ⟨fun q => by omega, fun _ => h1 g7 t7 hT7 hC7 (Off_trans (Off_trans (Off_trans hD4 hO5) hO6) hO7)⟩) (fun g7 t7 hF hO7 => ⟨fun _ => h0 g7 t7 hF (Off_trans (Off_trans (Off_trans hD4 hO5) hO6) hO7), fun q => absurd rfl q⟩)
        · rw [cns_bad g6] at h0
          exact h0 g6 t6 hF (Off_trans (Off_trans hD4 hO5) hO6)
      · rw [agc_bad g5, cns_bad g5] at h0
        exact h0 g5 t5 hF (Off_trans hD4 hO5)
    · rw [eS, if_neg (by omega), if_pos y] at h1 h0
      rw [eC, if_neg (by omega), if_pos y] at h1
      refine Sc_readCompares_s ge l0 l1 (hl2 t4 hD4) hT4' hC4 (fun g6 t6 hT6 hC6 hO6 => ⟨fun q => by omega, fun _ => ⟨ob_28, ?_⟩⟩) (fun g6 t6 hF hO6 => ⟨fun _ => ?_, fun q => absurd rfl q⟩)
      · refine Sc_number_s g6 l0 l1 (by omega) (by omega) (hl2 t6 (Off_trans hD4 hO6)) hT6 hC6 (fun g7 t7 hT7 hC7 hO7 => ⟨fun q => by omega, fun _ => h1 g7 t7 hT7 hC7 (Off_trans (Off_trans hD4 hO6) hO7)⟩) (fun g7 t7 hF hO7 => ⟨fun _ => h0 g7 t7 hF (Off_trans (Off_trans hD4 hO6) hO7), fun q => absurd rfl q⟩)
      · rw [cns_bad g6] at h0
        exact h0 g6 t6 hF (Off_trans hD4 hO6)
    · rw [eS, if_neg (by omega), if_neg (by omega), if_pos y] at h1 h0
      rw [eC, if_neg (by omega), if_neg (by omega), if_pos y] at h1
      exact Sc_number_s ge l0 l1 (by omega) (by omega) (hl2 t4 hD4) hT4' hC4 (fun g7 t7 hT7 hC7 hO7 => ⟨Or.inr rfl, h1 g7 t7 hT7 hC7 (Off_trans hD4 hO7)⟩) (fun g7 t7 hF hO7 => ⟨Or.inl rfl, h0 g7 t7 hF (Off_trans hD4 hO7)⟩)
  · have e0 : ts0 f N s = (bk f N s.2.2 2, tS f N s.2.2, s.2.2) := by unfold ts0; rw [hw]; exact mst_no g0 (zb_f (fun y => y z))
    rw [eS, if_neg (by omega), if_neg (by omega), if_neg (by omega), e0] at h0
    exact h0 (bk_p (by omega)) t ⟨q2, q3⟩ (Off_mono hO (fun b j q => by omega))
theorem Sc_readRest_s {w : Int} (hw : w ≠ 7) (g0 : s.1 = 0) (l0 : 0 ≤ l) (l1 : l < 60) (hl : σ 28 2 = l) (hT : TC σ f N s.2.2) (hC : CR σ C)
    (h1 : (agS f N w s).1 = 0 → ∀ t, TC t f N (agS f N w s).2.2 → CR t (agC f N w s C l) → Off (fun b j => (b = 22 ∧ (j = 1 ∨ j = 2 ∨ j = 3 ∨ j = 6 ∨ j = 7 ∨ j = 8)) ∨ b = 29) σ t → Q 1 t)
    (h0 : 0 < (agS f N w s).1 → ∀ t, FT t (agS f N w s).1 (agS f N w s).2.1 → Off (fun b j => (b = 22 ∧ (j = 1 ∨ j = 2 ∨ j = 3 ∨ j = 6 ∨ j = 7 ∨ j = 8)) ∨ b = 29) σ t → Q 0 t) : Tri (d + 6) M_Sc_readRest [vA 28, vA 22, vI w] σ Q := by
  have hl2 : ∀ t, Off (fun b j => (b = 22 ∧ (j = 1 ∨ j = 2 ∨ j = 3 ∨ j = 6 ∨ j = 7 ∨ j = 8)) ∨ b = 29) σ t → t 28 2 = l := fun t hO => (hO 28 2 (by omega)).trans hl
  unfold agS at h1 h0
  unfold agC at h1
  have three : (w = 4 ∨ w = 5 ∨ w = 6) → obok 6 28 ∧ Tri (d + 5) M_Sc_number [vA 28, vA 22, vI 1, vI 0, vI 3] σ (fun r22 σ22 => (r22 = 0 ∨ r22 = 1) ∧ Q r22 σ22) := fun y => by
    rw [if_neg (by omega), if_neg (by omega), if_neg (by omega), if_neg (by omega), if_neg (by omega), if_pos y] at h1 h0
    rw [if_neg (by omega), if_neg (by omega), if_neg (by omega), if_neg (by omega), if_neg (by omega), if_pos y] at h1
    exact ⟨ob_28, Sc_number_s g0 l0 l1 (by omega) (by omega) hl hT hC (fun g7 t7 hT7 hC7 hO7 => ⟨Or.inr rfl, h1 g7 t7 hT7 hC7 hO7⟩) (fun g7 t7 hF hO7 => ⟨Or.inl rfl, h0 g7 t7 hF hO7⟩)⟩
  refine t_Sc_readRest (fun _ => ⟨fun y => ?_, fun y => ⟨ob_28, ?_⟩, fun y => ⟨ob_28, ?_⟩, fun y => ⟨ob_28, ?_⟩, fun y => three (by omega), fun y => three (by omega), fun y => three (by omega), fun y => absurd y hw, fun y => ⟨ob_28, ?_⟩⟩)
  · rw [if_neg (by omega), if_neg (by omega), if_neg (by omega), if_neg (by omega), if_neg (by omega), if_neg (by omega)] at h1
    rw [if_neg (by omega), if_neg (by omega), if_neg (by omega), if_neg (by omega), if_neg (by omega), if_neg (by omega)] at h1
    exact h1 g0 σ hT hC Off_rfl
  · rw [if_pos y] at h1 h0
    rw [if_pos y] at h1
    refine Sc_number_s g0 l0 l1 (by omega) (by omega) hl hT hC (fun g5 t5 hT5 hC5 hO5 => ⟨fun q => by omega, fun _ => ⟨ob_28, ?_⟩⟩) (fun g5 t5 hF hO5 => ⟨fun _ => ?_, fun q => absurd rfl q⟩)
    · exact Sc_number_s g5 l0 l1 (by omega) (by omega) (hl2 t5 hO5) hT5 hC5 (fun g7 t7 hT7 hC7 hO7 => ⟨fun q => by omega, fun _ => h1 g7 t7 hT7 hC7 (Off_trans hO5 hO7)⟩) (fun g7 t7 hF hO7 => ⟨fun _ => h0 g7 t7 hF (Off_trans hO5 hO7), fun q => absurd rfl q⟩)
    · rw [cns_bad g5] at h0
      exact h0 g5 t5 hF hO5
  · rw [if_neg (by omega), if_pos y] at h1 h0
    rw [if_neg (by omega), if_pos y] at h1
    refine Sc_number_s g0 l0 l1 (by omega) (by omega) hl hT hC (fun g5 t5 hT5 hC5 hO5 => ⟨fun q => by omega, fun _ => ⟨ob_22, ?_⟩⟩) (fun g5 t5 hF hO5 => ⟨fun _ => ?_, fun q => absurd rfl q⟩)
    · refine To_word_s (k := 9) (by omega) g5 hT5 (fun g6 t6 hT6 hO6 => ⟨fun q => by omega, fun _ => ⟨ob_28, ?_⟩⟩) (fun g6 t6 hF hO6 => ⟨fun _ => ?_, fun q => absurd rfl q⟩)
      · exact Sc_number_s g6 l0 l1 (by omega) (by omega) (hl2 t6 (offST hO5 hO6)) hT6 (hC5.fr (fun q => hO6 29 q (by omega))) (fun g7 t7 hT7 hC7 hO7 => ⟨fun q => by omega, fun _ => h1 g7 t7 hT7 hC7 (Off_trans (offST hO5 hO6) hO7)⟩) (fun g7 t7 hF hO7 => ⟨fun _ => h0 g7 t7 hF (Off_trans (offST hO5 hO6) hO7), fun q => absurd rfl q⟩)
      · rw [cns_bad g6] at h0
        exact h0 g6 t6 hF (offSF hO5 hO6)
    · rw [agw_bad g5, cns_bad g5] at h0
      exact h0 g5 t5 hF hO5
  · rw [if_neg (by omega), if_neg (by omega), if_pos y] at h1 h0
    rw [if_neg (by omega), if_neg (by omega), if_pos y] at h1
    refine Sc_number_s g0 l0 l1 (by omega) (by omega) hl hT hC (fun g5 t5 hT5 hC5 hO5 => ⟨fun q => by omega, fun _ => ⟨ob_22, ?_⟩⟩) (fun g5 t5 hF hO5 => ⟨fun _ => ?_, fun q => absurd rfl q⟩)
    · refine To_word_s (k := 5) (by omega) g5 hT5 (fun g6 t6 hT6 hO6 => ⟨fun q => by omega, fun _ => ⟨ob_28, ?_⟩⟩) (fun g6 t6 hF hO6 => ⟨fun _ => ?_, fun q => absurd rfl q⟩)
      · refine Sc_number_s g6 l0 l1 (by omega) (by omega) (hl2 t6 (offST hO5 hO6)) hT6 (hC5.fr (fun q => hO6 29 q (by omega))) (fun g7 t7 hT7 hC7 hO7 => ⟨fun q => by omega, fun _ => ⟨ob_22, ?_⟩⟩) (fun g7 t7 hF hO7 => ⟨fun _ => ?_, fun q => absurd rfl q⟩)
        · have hD7 := Off_trans (offST hO5 hO6) hO7
          refine To_word_s (k := 10) (by omega) g7 hT7 (fun g8 t8 hT8 hO8 => ⟨fun q => by omega, fun _ => ⟨ob_28, ?_⟩⟩) (fun g8 t8 hF hO8 => ⟨fun _ => ?_, fun q => absurd rfl q⟩)
          · exact Sc_number_s g8 l0 l1 (by omega) (by omega) (hl2 t8 (offST hD7 hO8)) hT8 (hC7.fr (fun q => hO8 29 q (by omega))) (fun g9 t9 hT9 hC9 hO9 => ⟨fun q => by omega, fun _ => h1 g9 t9 hT9 hC9 (Off_trans (offST hD7 hO8) hO9)⟩) (fun g9 t9 hF hO9 => ⟨fun _ => h0 g9 t9 hF (Off_trans (offST hD7 hO8) hO9), fun q => absurd rfl q⟩)
          · rw [cns_bad g8] at h0
            exact h0 g8 t8 hF (offSF hD7 hO8)
        · rw [agw_bad g7, cns_bad g7] at h0
          exact h0 g7 t7 hF (Off_trans (offST hO5 hO6) hO7)
      · have e6 : cns f N 0 4 (agw f N 5 (cns f N 0 6 s)) = agw f N 5 (cns f N 0 6 s) := cns_bad g6
        rw [e6, agw_bad g6, cns_bad g6] at h0
        exact h0 g6 t6 hF (offSF hO5 hO6)
    · have e6 : agw f N 5 (cns f N 0 6 s) = cns f N 0 6 s := agw_bad g5
      rw [e6, cns_bad g5, agw_bad g5, cns_bad g5] at h0
      exact h0 g5 t5 hF hO5
  · rw [if_neg (by omega), if_neg (by omega), if_neg (by omega), if_neg (by omega), if_pos y] at h1 h0
    rw [if_neg (by omega), if_neg (by omega), if_neg (by omega), if_neg (by omega), if_pos y] at h1
    exact Sc_number_s g0 l0 l1 (by omega) (by omega) hl hT hC (fun g7 t7 hT7 hC7 hO7 => ⟨Or.inr rfl, h1 g7 t7 hT7 hC7 hO7⟩) (fun g7 t7 hF hO7 => ⟨Or.inl rfl, h0 g7 t7 hF hO7⟩)
end SCR
