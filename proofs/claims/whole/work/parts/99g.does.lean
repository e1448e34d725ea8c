/-! ===== what a SCRIPT's STEPS ask and do, told purely; the class ===== -/
def cmpI (x y : Int) : Int := if x < y then -1 else if x = y then 0 else 1
def tstC (C : Int → Int → Int) (b : Int) (c : Int → Int) : Prop :=
  if C b 1 = 1 then LAWF (c 0) (c 1) (TBc c 0) else if C b 1 ≤ 4 then SO (c 0) (c 1) (TBc c 0) (C b 1 - 2) else if C b 1 = 5 then cmpI (cd (ser (c 0) (c 1) (TBc c 0) ((0 : Int) ≠ 0) EU (C b 2).toNat).1 (c 1)) (C b 4) = C b 3 else if C b 1 = 6 then cmpI (c 1) (C b 4) = C b 3 else c (127 * (C b 2 + 1)) ≠ 0 ∧ c 0 = c (127 * (C b 2 + 1)) ∧ c 1 = c (127 * (C b 2 + 1) + 1) ∧ 0 < (FND (c 0) (c 1) (TBc c 0) (TBc c (C b 2 + 1)) true).2.1
/-- a plain STEP can be done -/
def okP (C : Int → Int → Int) (b : Int) (c : Int → Int) : Prop :=
  if C b 0 = 1 then LOK (c 0) (c 1) 0 (C b 1) (C b 2) else if C b 0 = 2 then LOK (c 0) (c 1) 1 (C b 1) (C b 2) else if C b 0 = 3 then LOK (c 0) (c 1) 2 (C b 2) (C b 3) else if C b 0 = 4 then True else if C b 0 = 5 then c (127 * (C b 1 + 1)) ≠ 0 else c (127 * (C b 1 + 1)) ≠ 0 ∧ c 0 = c (127 * (C b 1 + 1)) ∧ PN (c 0) (c 1 + c (127 * (C b 1 + 1) + 1))
def resP (C : Int → Int → Int) (b : Int) (c : Int → Int) : Int → Int :=
  if C b 0 = 1 then ptW c 0 (c 0) (c 1) (MK (c 0) (c 1) (BCH (c 0) (c 1) (TBc c 0) (LBS (c 0) 0 (C b 1) (C b 2) 0))) else if C b 0 = 2 then ptW c 0 (c 0) (c 1) (MK (c 0) (c 1) (BCH (c 0) (c 1) (TBc c 0) (LBS (c 0) 1 (C b 1) (C b 2) 0))) else if C b 0 = 3 then ptW c 0 (c 0) (c 1) (MK (c 0) (c 1) (BCH (c 0) (c 1) (TBc c 0) (LBS (c 0) 2 (C b 2) (C b 3) (C b 1)))) else if C b 0 = 4 then ptW c (C b 1 + 1) (c 0) (c 1) (TBc c 0) else if C b 0 = 5 then ptW c 0 (c (127 * (C b 1 + 1))) (c (127 * (C b 1 + 1) + 1)) (TBc c (C b 1 + 1)) else ptW c 0 (c 0) (c 1 + c (127 * (C b 1 + 1) + 1)) (MK (c 0) (c 1 + c (127 * (C b 1 + 1) + 1)) (SUM2 (c 1) (c (127 * (C b 1 + 1) + 1)) (TBc c 0) (TBc c (C b 1 + 1))))
def CRa (σ : SG) (a : Int) (C : Int → Int → Int) : Prop := ∀ l k, 0 ≤ l → l < 60 → 0 ≤ k → k < 6 → σ a (6 * l + k) = C l k
theorem CRa.fr {σ σ' : SG} {a : Int} {C : Int → Int → Int} (h : CRa σ a C) (h1 : ∀ k, σ' a k = σ a k) : CRa σ' a C := fun l k l0 l1 k0 k1 => (h1 _).trans (h l k l0 l1 k0 k1)
theorem KC.off {D : Int → Int → Prop} {σ σ' : SG} {x : Int} {c : Int → Int} (h : KC σ x c) (hO : OffN D σ σ') (hD : ∀ b j, x + 1 ≤ b → b ≤ x + 14 → ¬ D b j) : KC σ' x c := by
  have r : ∀ b j, x + 1 ≤ b → b ≤ x + 14 → 0 ≤ j → j < 125 → σ' b j = σ b j := fun b j q1 q2 q3 q4 => hO b j (hD b j q1 q2) (Or.inr ⟨q3, q4⟩)
  refine ⟨⟨by rw [r _ _ (by omega) (by omega) (by omega) (by omega)]; exact h.1.1, by rw [r _ _ (by omega) (by omega) (by omega) (by omega)]; exact h.1.2.1, fun t t0 t1 => by rw [r _ _ (by omega) (by omega) t0 t1]; exact h.1.2.2 t t0 t1⟩, fun i i0 i1 => ⟨?_, fun hc => ?_⟩⟩
  · rw [r _ _ (by omega) (by omega) (by omega) (by omega)]; exact (h.2 i i0 i1).1
  · have h2 := (h.2 i i0 i1).2 hc
    exact ⟨by rw [r _ _ (by omega) (by omega) (by omega) (by omega)]; exact h2.1, by rw [r _ _ (by omega) (by omega) (by omega) (by omega)]; exact h2.2.1, fun t t0 t1 => by rw [r _ _ (by omega) (by omega) t0 t1]; exact h2.2.2 t t0 t1⟩
section DOS
variable {d : Nat} {σ : SG} {Q : Int → SG → Prop} {C : Int → Int → Int} {c : Int → Int} {b : Int}
theorem Sc_get_s {k : Int} (hC : CRa σ 11 C) (b0 : 0 ≤ b) (b1 : b < 60) (k0 : 0 ≤ k) (k1 : k < 6) (h : Q (C b k) σ) : Tri (d + 1) M_Sc_get [vA 10, vI b, vI k] σ Q := by
  refine t_Sc_get (fun _ _ => ⟨fun z => by omega, fun _ => ⟨fun z => by omega, fun _ => ⟨fun z => by omega, fun _ => ⟨fun z => by omega, fun _ => ⟨ob_10, ?_⟩⟩⟩⟩⟩)
  rw [w32_id (x := b * 6) (by omega) (by omega), w32_id (x := b * 6 + k) (by omega) (by omega), show b * 6 + k = 6 * b + k by omega]
  refine ⟨rd_of kd_11 (by omega) (by omega), ?_⟩
  have e : σ (10 + 1) (6 * b + k) = C b k := hC b k b0 b1 k0 k1
  rw [e]; exact h
theorem sh_e {s : Int} : (6 : Int) + 7 + 2 * s = 6 + 5 + 2 * (s + 1) := by omega
theorem De_holdsOn_s {s : Int} (hK : KC σ 6 c) (s0 : 0 ≤ s) (s1 : s < 4) (h1 : c (127 * (s + 1)) ≠ 0 → Q 1 σ) (h0 : c (127 * (s + 1)) = 0 → Q 0 σ) : Tri (d + 1) M_De_holdsOn [vA 6, vI s] σ Q := by
  refine t_De_holdsOn (fun _ => ⟨fun z => by omega, fun _ => ⟨fun z => by omega, fun _ => ⟨ob_6, rd_of kd_9 s0 (by omega), ?_⟩⟩⟩)
  rw [sh_e, (hK.2 (s + 1) (by omega) (by omega)).1]
  refine ⟨ob_sh (by omega) (by omega), fun z => h0 ?_, fun z => h1 ?_⟩
  · by_cases q : c (127 * (s + 1)) = 0
    · exact q
    · rw [if_neg q] at z; omega
  · intro q; rw [if_pos q] at z; exact z rfl
theorem tbl_sh {i : Int} (i0 : 1 ≤ i) (i1 : i ≤ 4) : tbl (6 + 5 + 2 * i + 1) := by unfold tbl; omega
theorem Ru_isSo_s (hK : KC σ 6 c) (hD : DC c) (hC : CRa σ 11 C) (hST : ST σ) (b0 : 0 ≤ b) (b1 : b < 60) (hA : (1 ≤ C b 1 ∧ C b 1 ≤ 7) ∧ (C b 1 = 5 → 0 ≤ C b 2 ∧ C b 2 ≤ 5) ∧ (C b 1 = 7 → 0 ≤ C b 2 ∧ C b 2 ≤ 3))
    (h1 : tstC C b c → ∀ t, ST t → OffN (fun b j => 43 ≤ b ∧ b ≤ 103) σ t → Q 1 t) (h0 : ¬ tstC C b c → ∀ t, ST t → OffN (fun b j => 43 ≤ b ∧ b ≤ 103) σ t → Q 0 t) : Tri (d + 6) M_Ru_isSo [vA 6, vI b, vA 42, vA 78] σ Q := by
  refine Tri_n ?_
  have hK' := KC_n hK rfl
  have hST' := ST_n hST
  have hC' : CRa (nrm σ) 11 C := hC.fr (fun k => nrm_ne (by omega))
  have hW := KW_WD (a := 7) (i := 0) ob_7 (Or.inl rfl) hK.1 hD.1
  have z0 : (127 : Int) * 0 = 0 := rfl
  have z1 : (127 : Int) * 0 + 1 = 1 := rfl
  rw [z1, z0] at hW
  have hT := hW.2.2.2.2
  obtain ⟨q1, q2, q3, q4⟩ := hT.1.b
  have me : ∀ _ : SG, OffN (fun b j => 43 ≤ b ∧ b ≤ 103) σ (nrm σ) := fun t => OffN_n Off_rfl
  refine t_Ru_isSo (fun _ => ⟨ob_6, ob_6, ob_10, Sc_get_s hC' b0 b1 (by omega) (by omega) ⟨ob_10, Sc_get_s hC' b0 b1 (by omega) (by omega) ⟨ob_10, Sc_get_s hC' b0 b1 (by omega) (by omega) ⟨ob_10, Sc_get_s hC' b0 b1 (by omega) (by omega) ?_⟩⟩⟩⟩)
  unfold tstC at h1 h0
  refine ⟨fun q => ⟨ob_6, ?_⟩, fun q => ⟨ob_7, ?_⟩, fun q => ⟨ob_7, ?_⟩, fun q => ⟨ob_42, ?_⟩, fun q => ⟨ob_42, ?_⟩, fun q => ⟨ob_42, ?_⟩, fun q => ⟨ob_7, ?_⟩⟩
  · obtain ⟨s0, s1⟩ := hA.2.2 (by omega)
    rw [if_neg (by omega), if_neg (by omega), if_neg (by omega), if_neg (by omega)] at h1 h0
    refine De_holdsOn_s hK' s0 (by omega) (fun y => ⟨fun z => by omega, fun _ => ⟨ob_6, rd_of kd_9 s0 (by omega), ob_78, ?_⟩⟩) (fun y => ⟨fun _ => h0 (fun z => z.1 y) _ hST' (me σ), fun z => absurd rfl z⟩)
    have hB := KW_WD (ob_sh (by omega) (by omega)) (tbl_sh (by omega) (by omega)) ((hK.2 (C b 2 + 1) (by omega) (by omega)).2 y) (hD.2 _ (by omega) (by omega) y)
    rw [sh_e]
    refine Ma_look_s hW hB (Or.inl (by omega)) (Or.inl (by omega)) hST' (fun e1 e2 t _ _ _ _ hS hO => ?_) (fun hne t _ _ _ hS hO => ⟨fun _ => h0 (fun z => hne ⟨z.2.1, z.2.2.1⟩) t hS (OffN_n (Off_mono hO (fun b j w => by unfold DL at w; omega))), fun z => absurd rfl z⟩)
    have hO' : OffN (fun b j => 43 ≤ b ∧ b ≤ 103) σ t := OffN_n (Off_mono hO (fun b j w => by unfold DL at w; omega))
    have ed : decide ((1 : Int) ≠ 0) = true := rfl
    rw [ed]
    by_cases y2 : 0 < (FND (c 0) (c 1) (TBc c 0) (TBc c (C b 2 + 1)) true).2.1
    · rw [if_pos y2]
      exact ⟨fun z => by omega, fun _ => h1 ⟨y, e1, e2, y2⟩ t hS hO'⟩
    · rw [if_neg y2]
      exact ⟨fun _ => h0 (fun z => y2 z.2.2.2) t hS hO', fun z => absurd rfl z⟩
  · rw [if_pos q] at h1 h0
    refine Wd_firstBreak_s hW.wc (fun r hr => ?_)
    have e : (nrm σ (6 + 1) 1 = c 0 ∧ nrm σ (6 + 1) 2 = c 1) ∧ nrm σ (6 + 1 + 1) = TBc c 0 := ⟨⟨hW.2.1, hW.2.2.1⟩, hW.2.2.2.1⟩
    rw [e.1.1, e.1.2, e.2] at hr
    have hl := FB_lawf hr
    exact ⟨fun z => h0 (fun w => by have := hl.mpr w; omega) _ hST' (me σ), fun z => h1 (hl.mp z) _ hST' (me σ)⟩
  · rw [if_neg (by omega), if_pos (by omega), q] at h1 h0
    refine Wd_countCells_s hW.1 (by have e : nrm σ (6 + 1) 2 = c 1 := hW.2.2.1; rw [e]; omega) ?_
    have e : nrm σ (6 + 1) 2 = c 1 ∧ nrm σ (6 + 1 + 1) = TBc c 0 := ⟨hW.2.2.1, hW.2.2.2.1⟩
    rw [e.1, e.2]
    have hz := cnt_zero hT
    have es : SO (c 0) (c 1) (TBc c 0) (2 - 2) ↔ cd (brk (c 0) (c 1) (TBc c 0) EU EU).1 (c 1) = 0 := by unfold SO; rw [if_pos (by omega)]
    exact ⟨fun z => h0 (fun w => z (hz.mpr (es.mp w))) _ hST' (me σ), fun z => h1 (es.mpr (hz.mp z)) _ hST' (me σ)⟩
  · rw [if_neg (by omega), if_pos (by omega), q] at h1 h0
    refine An_wholeSeries_s hW (by omega) hST' (by omega) (fun t hS hO => ?_)
    have hO' : OffN (fun b j => 43 ≤ b ∧ b ≤ 103) σ t := OffN_n (Off_mono hO (fun b j w => by omega))
    have es : SO (c 0) (c 1) (TBc c 0) (3 - 2) ↔ cd (ser (c 0) (c 1) (TBc c 0) ((1 : Int) ≠ 0) EU (5 : Int).toNat).1 (c 1) = 0 := by
      unfold SO
      rw [if_neg (by omega), if_pos (by omega), ← ser_five hT, ser_cgp (a := ((1 : Int) ≠ 0)) (b := True) (by simp)]
      exact Iff.rfl
    exact ⟨fun z => h0 (fun w => z (es.mp w)) t hS hO', fun z => h1 (es.mpr z) t hS hO'⟩
  · rw [if_neg (by omega), if_pos (by omega), q] at h1 h0
    refine An_wholeSeries_s hW (by omega) hST' (by omega) (fun t hS hO => ?_)
    have hO' : OffN (fun b j => 43 ≤ b ∧ b ≤ 103) σ t := OffN_n (Off_mono hO (fun b j w => by omega))
    have es : SO (c 0) (c 1) (TBc c 0) (4 - 2) ↔ cd (ser (c 0) (c 1) (TBc c 0) ((0 : Int) ≠ 0) EU (5 : Int).toNat).1 (c 1) = 0 := by
      unfold SO
      rw [if_neg (by omega), if_neg (by omega), if_pos (by omega), ← ser_five hT, ser_cgp (a := ((0 : Int) ≠ 0)) (b := False) (by simp)]
      exact Iff.rfl
    exact ⟨fun z => h0 (fun w => z (es.mp w)) t hS hO', fun z => h1 (es.mpr z) t hS hO'⟩
  · rw [if_neg (by omega), if_neg (by omega), if_pos q] at h1 h0
    obtain ⟨s0, s1⟩ := hA.2.1 q
    refine An_wholeSeries_s hW (by omega) hST' ⟨s0, by omega⟩ (fun t hS hO => JI_compare_s ?_)
    have hO' : OffN (fun b j => 43 ≤ b ∧ b ≤ 103) σ t := OffN_n (Off_mono hO (fun b j w => by omega))
    exact ⟨fun z => h0 (fun w => z w) t hS hO', fun z => h1 z t hS hO'⟩
  · rw [if_neg (by omega), if_neg (by omega), if_neg (by omega), if_pos q] at h1 h0
    refine JI_compare_s ?_
    have e : nrm σ (6 + 1) 2 = c 1 := hW.2.2.1
    rw [e]
    exact ⟨fun z => h0 (fun w => z w) _ hST' (me σ), fun z => h1 z _ hST' (me σ)⟩
/-- what a plain STEP may change of the class -/
def DPl (b j : Int) : Prop := (7 ≤ b ∧ b ≤ 8) ∨ (13 ≤ b ∧ b ≤ 20) ∨ (105 ≤ b ∧ b ≤ 112)
theorem KC_w0 {σ' : SG} {p n : Int} {T : Int → Int} (hK : KC σ 6 c) (h1 : σ' 7 1 = p) (h2 : σ' 7 2 = n) (h3 : ∀ t, 0 ≤ t → t < 125 → σ' (7 + 1) t = T t) (hO : OffN (fun b j => (7 ≤ b ∧ b ≤ 8) ∨ 105 ≤ b) σ σ') : KC σ' 6 (ptW c 0 p n T) := by
  refine ⟨KW_pt h1 h2 h3, fun i i0 i1 => ?_⟩
  have e : ∀ j, 0 ≤ j → j < 125 → σ' (6 + 5 + 2 * i) j = σ (6 + 5 + 2 * i) j := fun j j0 j1 => hO _ _ (by omega) (Or.inr ⟨j0, j1⟩)
  rw [ptW_ne (by omega), e 3 (by omega) (by omega)]
  refine ⟨(hK.2 i i0 i1).1, fun hc => ?_⟩
  have h := (hK.2 i i0 i1).2 hc
  refine ⟨by rw [ptW_ne (by omega), e 1 (by omega) (by omega)]; exact h.1, by rw [ptW_ne (by omega), e 2 (by omega) (by omega)]; exact h.2.1, fun t t0 t1 => ?_⟩
  rw [ptW_ne (by omega), hO _ _ (by omega) (Or.inr ⟨t0, t1⟩)]; exact h.2.2 t t0 t1
theorem Wo_chg {a : Int} {B : Int → Int → Int} (hK : KC σ 6 c) (hD : DC c) (hST : ST σ) (hn : nrm σ = σ) (ha : a = 7) (hB : ∀ i k, 0 ≤ i → i < c 1 → 0 ≤ k → k < c 1 → σ 110 (i * 5 + k) = B i k ∧ 0 ≤ B i k ∧ B i k < c 0) (hok : BOK (c 0) (c 1) B)
    (h : ∀ t, KC t 6 (ptW c 0 (c 0) (c 1) (MK (c 0) (c 1) (BCH (c 0) (c 1) (TBc c 0) B))) → ST t → OffN DPl σ t → Q 1 t) : Tri (d + 4) M_Wo_changeBase [vA 104, vA a] σ Q := by
  subst ha
  have hW := KW_WD (a := 7) (i := 0) ob_7 (Or.inl rfl) hK.1 hD.1
  have z0 : (127 : Int) * 0 = 0 := rfl
  have z1 : (127 : Int) * 0 + 1 = 1 := rfl
  rw [z1, z0, hn] at hW
  refine Wo_changeBase_s hW (by omega) (by rw [hST 107 ob_107]; rfl) hB (fun _ t hWN hO => ?_) (fun hno => absurd hok hno)
  have hO' : OffN (fun b j => (7 ≤ b ∧ b ≤ 8) ∨ 105 ≤ b) σ t := OffN_of (Off_mono hO (fun b j w => by omega))
  exact h t (KC_w0 hK hWN.1 hWN.2.1 hWN.2.2 hO') (hST.off hO (fun e he => by have := ech_list he; omega)) (OffN_of (Off_mono hO (fun b j w => by unfold DPl; omega)))
theorem nrm_nrm : nrm (nrm σ) = nrm σ := by
  funext a j
  by_cases h : tbl a ∧ ¬ (0 ≤ j ∧ j < 125)
  · rw [nrm_out h.1 h.2, nrm_out h.1 h.2]
  · unfold nrm; rw [if_neg h]
theorem nrm_off {σ' : SG} {D : Int → Int → Prop} (hn : nrm σ = σ) (hO : Off D σ σ') (hD : ∀ b j, tbl b → ¬ D b j) : nrm σ' = σ' := by
  funext a j
  by_cases h : tbl a ∧ ¬ (0 ≤ j ∧ j < 125)
  · rw [nrm_out h.1 h.2, hO a j (hD a j h.1), ← hn, nrm_out h.1 h.2]
  · unfold nrm; rw [if_neg h]
theorem Ru_isDone_s (hK : KC σ 6 c) (hD : DC c) (hC : CRa σ 11 C) (hST : ST σ) (hU : UN σ) (b0 : 0 ≤ b) (b1 : b < 60) (hw : 1 ≤ C b 0 ∧ C b 0 ≤ 6) (hA : (4 ≤ C b 0 → 0 ≤ C b 1 ∧ C b 1 ≤ 3))
    (h1 : okP C b c → ∀ t, KC t 6 (resP C b c) → DC (resP C b c) → ST t → OffN DPl σ t → Q 1 t) (h0 : ¬ okP C b c → ∀ t, KC t 6 c → ST t → OffN DPl σ t → Q 0 t) : Tri (d + 6) M_Ru_isDone [vA 6, vI b, vA 104] σ Q := by
  refine Tri_n ?_
  have hK' := KC_n hK rfl
  have hST' := ST_n hST
  have hU' := UN_n hU
  have hC' : CRa (nrm σ) 11 C := hC.fr (fun k => nrm_ne (by omega))
  have hW := KW_WD (a := 7) (i := 0) ob_7 (Or.inl rfl) hK.1 hD.1
  have z0 : (127 : Int) * 0 = 0 := rfl
  have z1 : (127 : Int) * 0 + 1 = 1 := rfl
  rw [z1, z0] at hW
  have hT := hW.2.2.2.2
  have me : OffN DPl σ (nrm σ) := OffN_n Off_rfl
  have lin : ∀ (op x y w : Int) (t : SG), LOK (c 0) (c 1) op x y → (∀ i k, 0 ≤ i → i < c 1 → 0 ≤ k → k < c 1 → t 110 (i * 5 + k) = LBS (c 0) op x y w i k) → Off (fun b j => b = 110) (nrm σ) t → (okP C b c) → resP C b c = ptW c 0 (c 0) (c 1) (MK (c 0) (c 1) (BCH (c 0) (c 1) (TBc c 0) (LBS (c 0) op x y w))) → Tri (d + 5) M_Wo_changeBase [vA 104, vA 7] t (fun r11 σ11 => (r11 = 0 → Q 0 σ11) ∧ (r11 ≠ 0 → Q 1 σ11)) := fun op x y w t hl hB hO hok hr => by
    obtain ⟨hbo, hbb⟩ := LBS_ok (c := w) hT.1 hl
    refine Wo_chg (hK'.off (OffN_of hO) (fun b j w1 w2 => by omega)) hD (hST'.off hO (fun e he => by have := ech_list he; omega)) (nrm_off nrm_nrm hO (fun b j w => by unfold tbl at w; omega)) rfl (fun i k i0 i1 k0 k1 => ⟨hB i k i0 i1 k0 k1, hbb i k⟩) hbo (fun t2 hK2 hS2 hO2 => ⟨fun z => by omega, fun _ => h1 hok t2 (by rw [hr]; exact hK2) ?_ hS2 ?_⟩)
    · rw [hr]; exact DC_pt hD (TW_MK hT.1) (by omega) (by omega)
    · exact OffN_nn (OffN_trans (OffN_of (Off_mono hO (fun b j w => by unfold DPl; omega))) hO2)
  refine t_Ru_isDone (fun _ => ⟨ob_6, ob_6, ob_10, Sc_get_s hC' b0 b1 (by omega) (by omega) ⟨ob_6, ob_10, Sc_get_s hC' b0 b1 (by omega) (by omega) ⟨ob_6, ob_10, Sc_get_s hC' b0 b1 (by omega) (by omega) ?_⟩⟩⟩)
  refine ⟨fun q => ⟨ob_6, ?_⟩, fun q => ⟨ob_104, ?_⟩, fun q => ⟨ob_104, ?_⟩, fun q => ⟨ob_6, ob_10, ?_⟩, fun q => ⟨ob_6, ?_⟩, fun q => ⟨ob_6, ?_⟩⟩
  · obtain ⟨s0, s1⟩ := hA (by omega)
    unfold okP resP at h1
    unfold okP at h0
    rw [if_neg (by omega), if_neg (by omega), if_neg (by omega), if_neg (by omega), if_neg (by omega)] at h1 h0
    rw [if_neg (by omega), if_neg (by omega), if_neg (by omega), if_neg (by omega), if_neg (by omega)] at h1
    refine De_holdsOn_s hK' s0 (by omega) (fun y => ⟨fun z => by omega, fun _ => ⟨ob_6, rd_of kd_9 s0 (by omega), ob_104, ?_⟩⟩) (fun y => ⟨fun _ => h0 (fun z => z.1 y) _ hK' hST' me, fun z => absurd rfl z⟩)
    have hB := KW_WD (ob_sh (by omega) (by omega)) (tbl_sh (by omega) (by omega)) ((hK.2 (C b 1 + 1) (by omega) (by omega)).2 y) (hD.2 _ (by omega) (by omega) y)
    rw [sh_e]
    refine Wo_join_s hW (by omega) hB (by omega) (by omega) (fun hp => ⟨fun _ => h0 (fun z => hp z.2.1) _ hK' hST' me, fun z => by omega⟩) (fun hp hn => ⟨fun _ => h0 (fun z => hn z.2.2) _ hK' hST' me, fun z => by omega⟩) (fun hp hn t hWN hO => ⟨fun z => absurd rfl z, fun _ => ?_⟩)
    have hO' : OffN (fun b j => (7 ≤ b ∧ b ≤ 8) ∨ 105 ≤ b) (nrm σ) t := OffN_of (Off_mono hO (fun b j w => by omega))
    exact h1 ⟨y, hp, hn⟩ t (KC_w0 hK' hWN.1 hWN.2.1 hWN.2.2 hO') (DC_pt hD (TW_MK hn) (by omega) (by omega)) (hST'.off hO (fun e he => by have := ech_list he; omega)) (OffN_n (Off_mono hO (fun b j w => by unfold DPl; omega)))
  · have eo : okP C b c = LOK (c 0) (c 1) 0 (C b 1) (C b 2) := by unfold okP; rw [if_pos q]
    refine Wo_laySwap_s hU' hW (fun hl t hB hO => ⟨fun z => by omega, fun _ => ⟨ob_104, lin 0 _ _ _ t hl hB hO (by rw [eo]; exact hl) (by unfold resP; rw [if_pos q])⟩⟩) (fun hl => ⟨fun _ => h0 (by rw [eo]; exact hl) _ hK' hST' me, fun z => absurd rfl z⟩)
  · have eo : okP C b c = LOK (c 0) (c 1) 1 (C b 1) (C b 2) := by unfold okP; rw [if_neg (by omega), if_pos q]
    refine Wo_layScale_s hU' hW (fun hl t hB hO => ⟨fun z => by omega, fun _ => ⟨ob_104, lin 1 _ _ _ t hl hB hO (by rw [eo]; exact hl) (by unfold resP; rw [if_neg (by omega), if_pos q])⟩⟩) (fun hl => ⟨fun _ => h0 (by rw [eo]; exact hl) _ hK' hST' me, fun z => absurd rfl z⟩)
  · have eo : okP C b c = LOK (c 0) (c 1) 2 (C b 2) (C b 3) := by unfold okP; rw [if_neg (by omega), if_neg (by omega), if_pos q]
    refine Sc_get_s hC' b0 b1 (by omega) (by omega) ⟨ob_104, ?_⟩
    refine Wo_layAdd_s hU' hW (by omega) (fun hl t hB hO => ⟨fun z => by omega, fun _ => ⟨ob_104, lin 2 _ _ _ t hl hB hO (by rw [eo]; exact hl) (by unfold resP; rw [if_neg (by omega), if_neg (by omega), if_pos q])⟩⟩) (fun hl => ⟨fun _ => h0 (by rw [eo]; exact hl) _ hK' hST' me, fun z => absurd rfl z⟩)
  · obtain ⟨s0, s1⟩ := hA (by omega)
    unfold okP resP at h1
    rw [if_neg (by omega), if_neg (by omega), if_neg (by omega), if_pos q] at h1
    rw [if_neg (by omega), if_neg (by omega), if_neg (by omega), if_pos q] at h1
    refine t_De_putOn (fun _ => ⟨fun z => by omega, fun _ => ⟨fun _ => ⟨ob_6, rd_of kd_9 s0 (by omega), ob_6, ?_⟩, fun z => by omega⟩⟩)
    rw [sh_e]
    refine ⟨ob_sh (by omega) (by omega), Wd_copyFrom_s (ob_sh (by omega) (by omega)) ob_7 ⟨ob_6, rd_of kd_9 s0 (by omega), ob_sh (by omega) (by omega), fun t e => ⟨Or.inr rfl, ?_⟩⟩⟩
    have rr : ∀ x j, (x ≠ 6 + 5 + 2 * (C b 1 + 1)) → (x ≠ 6 + 5 + 2 * (C b 1 + 1) + 1) → t x j = nrm σ x j := fun x j w1 w2 => by
      rw [e, up_ne (by omega)]
      show (if x = 6 + 5 + 2 * (C b 1 + 1) + 1 ∧ _ then _ else up (up (nrm σ) _ 1 _) _ 2 _ x j) = _
      rw [if_neg (by omega), up_ne (by omega), up_ne (by omega)]
    have fl : ∀ j, j ≠ 3 → t (6 + 5 + 2 * (C b 1 + 1)) j = up (up (nrm σ) (6 + 5 + 2 * (C b 1 + 1)) 1 (nrm σ 7 1)) (6 + 5 + 2 * (C b 1 + 1)) 2 (nrm σ 7 2) (6 + 5 + 2 * (C b 1 + 1)) j := fun j w => by
      rw [e, up_ne (by omega)]
      show (if 6 + 5 + 2 * (C b 1 + 1) = 6 + 5 + 2 * (C b 1 + 1) + 1 ∧ _ then _ else up (up (nrm σ) _ 1 _) _ 2 _ _ j) = _
      rw [if_neg (by omega)]; rfl
    have tb : ∀ j, 0 ≤ j → j < 125 → t (6 + 5 + 2 * (C b 1 + 1) + 1) j = nrm σ 8 j := fun j j0 j1 => by
      rw [e, up_ne (by omega)]
      show (if 6 + 5 + 2 * (C b 1 + 1) + 1 = 6 + 5 + 2 * (C b 1 + 1) + 1 ∧ 0 ≤ j ∧ j < 0 + 125 then up (up (nrm σ) _ 1 _) _ 2 _ (6 + 1 + 1) (0 + (j - 0)) else _) = _
      rw [if_pos ⟨rfl, j0, by omega⟩, up_ne (by omega), up_ne (by omega), show (0 : Int) + (j - 0) = j by omega]; rfl
    refine h1 trivial t ⟨⟨?_, ?_, fun q0 t0 t1 => ?_⟩, fun i i0 i1 => ?_⟩ (DC_pt hD hT (by omega) (by omega)) (fun e he => ?_) (fun x j w1 w2 => ?_)
    · rw [rr _ _ (by omega) (by omega), ptW_ne (by omega)]; exact hK'.1.1
    · rw [rr _ _ (by omega) (by omega), ptW_ne (by omega)]; exact hK'.1.2.1
    · rw [rr _ _ (by omega) (by omega), ptW_ne (by omega)]; exact hK'.1.2.2 q0 t0 t1
    · by_cases qi : i = C b 1 + 1
      · rw [qi, ptW_0]
        have hp0 : c 0 ≠ 0 := by have := hT.1.b; omega
        refine ⟨by rw [if_neg hp0, e, up_same], fun _ => KW_pt ?_ ?_ (fun q0 t0 t1 => ?_)⟩
        · rw [fl 1 (by omega), up_ne (by omega), up_same]; exact hW.2.1
        · rw [fl 2 (by omega), up_same]; exact hW.2.2.1
        · rw [tb q0 t0 t1]; exact congrFun hW.2.2.2.1 q0
      · have hi := hK'.2 i i0 i1
        rw [ptW_ne (by omega), rr _ _ (by omega) (by omega)]
        exact ⟨hi.1, fun hc => KW_ne (hi.2 hc) qi (fun j _ _ => rr _ _ (by omega) (by omega)) (fun j => rr _ _ (by omega) (by omega))⟩
    · have := ech_list he
      rw [rr _ _ (by omega) (by omega)]; exact hST' e he
    · have h8 : nrm σ x j = σ x j := by
        rcases w2 with w2 | w2
        · exact nrm_ne w2
        · exact nrm_in w2.1 w2.2
      rw [← h8]
      refine rr x j (fun z => w1 ?_) (fun z => w1 ?_)
      · unfold DPl; omega
      · unfold DPl; omega
  · obtain ⟨s0, s1⟩ := hA (by omega)
    unfold okP resP at h1
    unfold okP at h0
    rw [if_neg (by omega), if_neg (by omega), if_neg (by omega), if_neg (by omega), if_pos q] at h1 h0
    rw [if_neg (by omega), if_neg (by omega), if_neg (by omega), if_neg (by omega), if_pos q] at h1
    refine De_holdsOn_s hK' s0 (by omega) (fun y => ⟨fun z => by omega, fun _ => ⟨ob_6, rd_of kd_9 s0 (by omega), ob_7, ?_⟩⟩) (fun y => ⟨fun _ => h0 (fun z => z y) _ hK' hST' me, fun z => absurd rfl z⟩)
    have hB := KW_WD (ob_sh (by omega) (by omega)) (tbl_sh (by omega) (by omega)) ((hK.2 (C b 1 + 1) (by omega) (by omega)).2 y) (hD.2 _ (by omega) (by omega) y)
    rw [sh_e]
    refine Wd_copyFrom_s ob_7 (ob_sh (by omega) (by omega)) ?_
    have hO : Off (fun b j => (b = 7 ∧ (j = 1 ∨ j = 2)) ∨ b = 8) (nrm σ) (cpy (up (up (nrm σ) (6 + 1) 1 (nrm σ (6 + 5 + 2 * (C b 1 + 1)) 1)) (6 + 1) 2 (nrm σ (6 + 5 + 2 * (C b 1 + 1)) 2)) (6 + 5 + 2 * (C b 1 + 1) + 1) 0 (6 + 1 + 1) 0 125) := fun x j w => by
      unfold cpy
      rw [if_neg (by omega), up_ne (by omega), up_ne (by omega)]
    refine h1 y _ (KC_w0 hK' ?_ ?_ (fun q0 t0 t1 => ?_) (OffN_of (Off_mono hO (fun b j w => by omega)))) (DC_pt hD hB.2.2.2.2 (by omega) (by omega)) (hST'.off hO (fun e he => by have := ech_list he; omega)) (OffN_n (Off_mono hO (fun b j w => by unfold DPl; omega)))
    · unfold cpy
      rw [if_neg (by omega), up_ne (by omega)]
      exact up_same.trans hB.2.1
    · unfold cpy
      rw [if_neg (by omega)]
      exact up_same.trans hB.2.2.1
    · unfold cpy
      rw [if_pos ⟨rfl, t0, by omega⟩, up_ne (by omega), up_ne (by omega), show (0 : Int) + (q0 - 0) = q0 by omega]
      exact congrFun hB.2.2.2.1 q0
end DOS
