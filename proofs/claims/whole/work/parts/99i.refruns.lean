/-! ===== a SCRIPT is done: the model ===== -/
section RDO
variable {d : Nat} {σ : SG} {Q : Int → SG → Prop} {C M : Int → Int → Int} {c : Int → Int} {b q : Int}
def DSm (b j : Int) : Prop := (b = 161 ∧ ((24 ≤ j ∧ j ≤ 27) ∨ j = 43 ∨ j = 45 ∨ j = 46 ∨ j = 47 ∨ j = 64 ∨ j = 65)) ∨ b = 171 ∨ b = 178 ∨ b = 181 ∨ b = 182 ∨ b = 183 ∨ b = 185
def DNm (b j : Int) : Prop := (b = 161 ∧ ((24 ≤ j ∧ j ≤ 27) ∨ j = 39 ∨ j = 43 ∨ j = 45 ∨ j = 46 ∨ j = 47 ∨ j = 59 ∨ j = 60 ∨ j = 64 ∨ j = 65)) ∨ (b = 166 ∧ 0 ≤ j ∧ j < 635) ∨ b = 168 ∨ (170 ≤ b ∧ b ≤ 194 ∧ b ≠ 184)
theorem KM.fr {σ' : SG} {f : Int} (h : KM σ f c) (h1 : ∀ j, σ' 166 j = σ 166 j) : KM σ' f c := fun j j0 j1 => (h1 _).trans (h j j0 j1)
theorem KM_W0 (h : KM σ 0 c) (hD : DC c) : WM σ 0 (c 0) (c 1) (TBc c 0) := KM_WM (i := 0) h (by omega) (by omega) hD.1
theorem KM_Ws {s : Int} (h : KM σ 0 c) (hD : DC c) (s0 : 0 ≤ s) (s1 : s < 4) (hc : c (127 * (s + 1)) ≠ 0) : WM σ (127 * (s + 1)) (c (127 * (s + 1))) (c (127 * (s + 1) + 1)) (TBc c (s + 1)) := by
  have := KM_WM (i := s + 1) h (by omega) (by omega) (hD.2 _ (by omega) (by omega) hc)
  rw [Int.zero_add] at this
  exact this
theorem KM_at {j : Int} (h : KM σ 0 c) (j0 : 0 ≤ j) (j1 : j < 635) : σ 166 j = c j := by
  have := h j j0 j1
  rw [Int.zero_add] at this
  exact this
theorem R_same_s {s : Int} (hK : KM σ 0 c) (hD : DC c) (s0 : 0 ≤ s) (s1 : s < 4) (hc : c (127 * (s + 1)) ≠ 0)
    (h0 : ¬ (c 0 = c (127 * (s + 1)) ∧ c 1 = c (127 * (s + 1) + 1)) → ∀ t, t 161 43 = 0 → Off DSm σ t → Q 0 t)
    (h1 : c 0 = c (127 * (s + 1)) → c 1 = c (127 * (s + 1) + 1) → ∀ t, t 161 43 = (FND (c 0) (c 1) (TBc c 0) (TBc c (s + 1)) true).1 → Off DSm σ t → Q (if 0 < (FND (c 0) (c 1) (TBc c 0) (TBc c (s + 1)) true).2.1 then 1 else if (FND (c 0) (c 1) (TBc c 0) (TBc c (s + 1)) true).2.2 = true then 9 else 0) t) : Tri (d + 12) M_R_same [vA 161, vI s] σ Q := by
  refine t_R_same (fun _ t1 e1 => ?_)
  rw [w32_id (x := s + 1) (by omega) (by omega), w32_id (x := 127 * (s + 1)) (by omega) (by omega)]
  have hK1 : KM t1 0 c := hK.fr (fun j => by rw [e1, up_ne (by omega)])
  have hO1 : Off DSm σ t1 := by rw [e1]; exact Off_up (Or.inl ⟨rfl, by omega⟩)
  have a1 := KM_at hK1 (j := 127 * (s + 1)) (by omega) (by omega)
  have a2 := KM_at hK1 (j := 127 * (s + 1) + 1) (by omega) (by omega)
  have a3 := KM_at hK1 (j := 0) (by omega) (by omega)
  have a4 := KM_at hK1 (j := 1) (by omega) (by omega)
  have no : ¬ (c 0 = c (127 * (s + 1)) ∧ c 1 = c (127 * (s + 1) + 1)) → ∀ X : Prop, ((1 : Int) = 0 → X) ∧ ((1 : Int) ≠ 0 → Q 0 t1) := fun z X => ⟨fun y => by omega, fun _ => h0 z t1 (by rw [e1, up_same]) hO1⟩
  refine t_R_isUnlike (fun _ => ⟨rd_of kd_166 (by omega) (by omega), ?_⟩)
  rw [w32_id (x := 127 * (s + 1) + 1) (by omega) (by omega), a1, a2, a3, a4]
  refine ⟨fun z => no (by omega) _, fun z => ⟨rd_of kd_166 (by omega) (by omega), fun z2 => ⟨fun _ => ?_, fun y => absurd rfl y⟩, fun z2 => no (by omega) _⟩⟩
  have hWs := KM_Ws hK1 hD s0 s1 hc
  refine R_ask_s hWs (by omega) (by omega) (fun t2 hR2 hO2 => ?_)
  have hK2 : KM t2 0 c := hK1.fr (fun j => hO2 166 j (by omega))
  have hW0 := KM_W0 hK2 hD
  rw [z, z2] at hR2
  refine R_findMaps_s hR2 hD.1 (by omega) (by omega) (Or.inr rfl) hW0.2.2.1 (fun t3 f43 f45 f46 hO3 => ?_)
  have ed : decide ((1 : Int) ≠ 0) = true := rfl
  rw [ed] at f43 f45 f46
  have f43' : t3 161 43 = (FND (c 0) (c 1) (TBc c 0) (TBc c (s + 1)) true).1 := f43
  have f45' : t3 161 45 = (FND (c 0) (c 1) (TBc c 0) (TBc c (s + 1)) true).2.1 := f45
  have f46' : t3 161 46 = b2i (FND (c 0) (c 1) (TBc c 0) (TBc c (s + 1)) true).2.2 := f46
  have hO3' : Off DSm t2 t3 := Off_mono hO3 (fun b j w => by unfold DG at w; unfold DSm; omega)
  have hK3 : KM t3 0 c := hK2.fr (fun j => hO3' 166 j (by unfold DSm; omega))
  refine R_askNow_s (KM_W0 hK3 hD) (fun t4 hR4 hO4 => ?_)
  have g := h1 z.symm z2.symm t4 ((hO4 161 43 (by omega)).trans f43') (Off_trans hO1 (Off_trans (Off_mono hO2 (fun b j w => Or.inl ⟨w.1, Or.inl w.2⟩)) (Off_trans hO3' (Off_mono hO4 (fun b j w => Or.inl ⟨w.1, Or.inl w.2⟩)))))
  rw [hO4 161 45 (by omega), hO4 161 46 (by omega), f45', f46']
  refine ⟨fun y => ⟨fun y2 => ?_, fun y2 => ?_⟩, fun y => ?_⟩
  · rw [if_neg (by omega), if_neg (fun w => by rw [w] at y2; exact absurd y2 (by decide))] at g; exact g
  · have w : (FND (c 0) (c 1) (TBc c 0) (TBc c (s + 1)) true).2.2 = true := by
      cases hb : (FND (c 0) (c 1) (TBc c 0) (TBc c (s + 1)) true).2.2
      · rw [hb] at y2; exact absurd rfl y2
      · rfl
    rw [if_neg (by omega), if_pos w] at g; exact g
  · rw [if_pos y] at g; exact g
theorem R_isEmpty_s {s : Int} (hK : KM σ 0 c) (s0 : 0 ≤ s) (s1 : s < 4) (h1 : c (127 * (s + 1)) = 0 → Q 1 σ) (h0 : c (127 * (s + 1)) ≠ 0 → Q 0 σ) : Tri (d + 1) M_R_isEmpty [vA 161, vI s] σ Q := by
  refine t_R_isEmpty (fun _ => ?_)
  rw [w32_id (x := s + 1) (by omega) (by omega), w32_id (x := 127 * (s + 1)) (by omega) (by omega), KM_at hK (j := 127 * (s + 1)) (by omega) (by omega)]
  exact ⟨⟨by omega, by omega⟩, h0, h1⟩
theorem R_compares_s {v : Int} (q0 : 0 ≤ q) (q1 : q < 30) (h4 : σ 166 (637 + 7 * q + 4) = M q 4) (h5 : σ 166 (637 + 7 * q + 5) = M q 5) (hs : M q 4 = 60 ∨ M q 4 = 62 ∨ M q 4 = 61) (h1 : cmpI v (M q 5) = cmS (M q 4) → Q 1 σ) (h0 : ¬ cmpI v (M q 5) = cmS (M q 4) → Q 0 σ) : Tri (d + 1) M_R_compares [vA 161, vI v, vI (637 + 7 * q)] σ Q := by
  refine t_R_compares (fun _ _ => ?_)
  rw [w32_id (x := 637 + 7 * q + 4) (by omega) (by omega), w32_id (x := 637 + 7 * q + 5) (by omega) (by omega), h4, h5]
  unfold cmpI cmS at h1 h0
  have y : ∀ P : Prop, (P → Q 1 σ) → P → Q 1 σ := fun _ h p => h p
  refine ⟨⟨by omega, by omega⟩, fun z => ⟨⟨by omega, by omega⟩, fun z2 => ⟨⟨by omega, by omega⟩, fun w => h0 ?_, fun w => h1 ?_⟩, fun z2 => ⟨⟨by omega, by omega⟩, fun w => h0 ?_, fun w => h1 ?_⟩⟩, fun z => ⟨⟨by omega, by omega⟩, fun w => h0 ?_, fun w => h1 ?_⟩⟩
  · rw [if_neg z, if_neg z2]
    by_cases g : v < M q 5
    · rw [if_pos g]; omega
    · rw [if_neg g, if_neg w]; omega
  · rw [if_neg z, if_neg z2, if_neg (by omega), if_pos w]
  · rw [if_neg z, if_pos z2]
    by_cases g : v < M q 5
    · rw [if_pos g]; omega
    · rw [if_neg g, if_pos (by omega)]; omega
  · rw [if_neg z, if_pos z2, if_neg (by omega), if_neg (by omega)]
  · rw [if_pos z, if_neg (by omega)]
    by_cases g : v = M q 5
    · rw [if_pos g]; omega
    · rw [if_neg g]; omega
  · rw [if_pos z, if_pos w]
def MSc (σ : SG) (M : Int → Int → Int) (k : Int) : Prop := ∀ q c, 0 ≤ q → q < k → 0 ≤ c → c < 7 → σ 166 (637 + 7 * q + c) = M q c
theorem MSc.fr {σ' : SG} {k : Int} (h : MSc σ M k) (h1 : ∀ j, 635 ≤ j → σ' 166 j = σ 166 j) : MSc σ' M k := fun q c q0 q1 c0 c1 => (h1 _ (by omega)).trans (h q c q0 q1 c0 c1)
theorem R_isSoNow_s {k : Int} (hK : KM σ 0 c) (hD : DC c) (hR : RW σ (c 0) (c 1) (TBc c 0)) (hM : MSc σ M k) (hk : k ≤ 30) (q0 : 0 ≤ q) (q1 : q < k) (hA : ARG C b M q) (hw : C b 0 = 7)
    (h1 : tstC C b c → ∀ t, Off DNm σ t → KM t 0 c → Q 1 t) (h0 : ¬ tstC C b c → ∀ t, Off DNm σ t → KM t 0 c → Q 0 t) : Tri (d + 13) M_R_isSoNow [vA 161, vI (637 + 7 * q)] σ Q := by
  obtain ⟨v1, v2, v3, v4⟩ := hA.2.2.2.2.1 hw
  have m1 := hM q 1 q0 q1 (by omega) (by omega)
  have m2 := hM q 2 q0 q1 (by omega) (by omega)
  have m4 := hM q 4 q0 q1 (by omega) (by omega)
  have m5 := hM q 5 q0 q1 (by omega) (by omega)
  have km : ∀ t, Off DNm σ t → (∀ j, t 166 j = σ 166 j) → KM t 0 c := fun t _ h => hK.fr h
  have dm : ∀ {t}, Off DM σ t → Off DNm σ t ∧ KM t 0 c := fun {t} hO => ⟨Off_mono hO (fun b j w => by unfold DM at w; unfold DNm; omega), hK.fr (fun j => hO 166 j (by unfold DM; omega))⟩
  refine t_R_isSoNow (fun _ => ?_)
  rw [w32_id (x := 637 + 7 * q + 1) (by omega) (by omega), w32_id (x := 637 + 7 * q + 2) (by omega) (by omega), m1, m2]
  unfold tstC at h1 h0
  refine ⟨⟨by omega, by omega⟩, fun z0 => ⟨fun z4 => ⟨fun z5 => ⟨fun z6 => ⟨⟨by omega, by omega⟩, ?_⟩, fun z6 => ?_⟩, fun z5 => ⟨⟨by omega, by omega⟩, ?_⟩⟩, fun z4 => ?_⟩, fun z0 => ?_⟩
  · obtain ⟨a1, a2, a3⟩ := v4 (by omega)
    rw [if_neg (by omega), if_neg (by omega), if_neg (by omega), if_neg (by omega)] at h1 h0
    rw [a1] at h1 h0
    refine R_isEmpty_s hK (by omega) (by omega) (fun w => ⟨fun _ => h0 (fun y => y.1 w) σ Off_rfl hK, fun y => by omega⟩) (fun w => ⟨fun y => absurd rfl y, fun _ => ⟨⟨by omega, by omega⟩, ?_⟩⟩)
    rw [m2]
    have of : ∀ {t}, Off DSm σ t → Off DNm σ t ∧ KM t 0 c := fun {t} hO => ⟨Off_mono hO (fun b j w => by unfold DSm at w; unfold DNm; omega), hK.fr (fun j => hO 166 j (by unfold DSm; omega))⟩
    refine R_same_s hK hD (by omega) (by omega) w (fun hne t _ hO => ⟨fun _ => h0 (fun y => hne ⟨y.2.1, y.2.2.1⟩) t (of hO).1 (of hO).2, fun y => by omega⟩) (fun e1 e2 t _ hO => ?_)
    by_cases g : 0 < (FND (c 0) (c 1) (TBc c 0) (TBc c (M q 2 + 1)) true).2.1
    · rw [if_pos g]; exact ⟨fun y => absurd rfl y, fun _ => h1 ⟨w, e1, e2, g⟩ t (of hO).1 (of hO).2⟩
    · rw [if_neg g]
      have nn : ¬ (c (127 * (M q 2 + 1)) ≠ 0 ∧ c 0 = c (127 * (M q 2 + 1)) ∧ c 1 = c (127 * (M q 2 + 1) + 1) ∧ 0 < (FND (c 0) (c 1) (TBc c 0) (TBc c (M q 2 + 1)) true).2.1) := fun y => g y.2.2.2
      by_cases g2 : (FND (c 0) (c 1) (TBc c 0) (TBc c (M q 2 + 1)) true).2.2 = true
      · rw [if_pos g2]; exact ⟨fun _ => h0 nn t (of hO).1 (of hO).2, fun y => by omega⟩
      · rw [if_neg g2]; exact ⟨fun _ => h0 nn t (of hO).1 (of hO).2, fun y => by omega⟩
  · obtain ⟨a1, a2, a3, a4⟩ := v3 (by omega)
    rw [if_neg (by omega), if_neg (by omega), if_neg (by omega), if_pos (by omega), a1, a3] at h1 h0
    rw [hR.2.2.1]
    exact R_compares_s q0 (by omega) m4 m5 a2 (fun y => ⟨Or.inr rfl, h1 y σ Off_rfl hK⟩) (fun y => ⟨Or.inl rfl, h0 y σ Off_rfl hK⟩)
  · obtain ⟨a1, a2, a3, a4⟩ := v3 (by omega)
    obtain ⟨c1, c2, c3⟩ := v2 (by omega)
    rw [if_neg (by omega), if_neg (by omega), if_pos (by omega), a1, a3, c1] at h1 h0
    refine R_seriesOf_s hR (by omega) (fun t hO => ?_)
    have e4 : t 166 (637 + 7 * q + 4) = M q 4 := (hO 166 _ (by unfold DM; omega)).trans m4
    have e5 : t 166 (637 + 7 * q + 5) = M q 5 := (hO 166 _ (by unfold DM; omega)).trans m5
    exact R_compares_s q0 (by omega) e4 e5 a2 (fun y => ⟨Or.inr rfl, h1 y t (dm hO).1 (dm hO).2⟩) (fun y => ⟨Or.inl rfl, h0 y t (dm hO).1 (dm hO).2⟩)
  · rw [if_neg (by omega), if_pos (by omega), show C b 1 - 2 = M q 1 - 1 by omega] at h1 h0
    rw [w32_id (x := M q 1 - 1) (by omega) (by omega)]
    exact R_isSo_s hR (by omega) (fun t hs hO => ⟨Or.inr rfl, h1 hs t (dm hO).1 (dm hO).2⟩) (fun t hs hO => ⟨Or.inl rfl, h0 hs t (dm hO).1 (dm hO).2⟩)
  · rw [if_pos (by omega)] at h1 h0
    have lw : ∀ {t}, Off (fun b j => (175 ≤ b ∧ b ≤ 178) ∨ b = 186) σ t → Off DNm σ t ∧ KM t 0 c := fun {t} hO => ⟨Off_mono hO (fun b j w => by unfold DNm; omega), hK.fr (fun j => hO 166 j (by omega))⟩
    exact R_isLawful_s hR (fun hl t hO => ⟨Or.inr rfl, h1 hl t (lw hO).1 (lw hO).2⟩) (fun hl t hO => ⟨Or.inl rfl, h0 hl t (lw hO).1 (lw hO).2⟩)
theorem KM_pt0 {σ' : SG} {p n : Int} {T : Int → Int} (h : KM σ 0 c) (hW : WM σ' 0 p n T) (h4 : ∀ j, 127 ≤ j → σ' 166 j = σ 166 j) : KM σ' 0 (ptW c 0 p n T) := by
  intro j j0 j1
  rw [Int.zero_add]
  by_cases g : 127 ≤ j
  · rw [ptW_ne (by omega), h4 j g]; exact KM_at h j0 j1
  · by_cases g0 : j = 0
    · rw [g0]; exact hW.1.trans ptW_0.symm
    · by_cases g1 : j = 1
      · rw [g1]; exact hW.2.1.trans ptW_1.symm
      · have e := hW.2.2.1 (j - 2) (by omega) (by omega)
        have e2 : ptW c 0 p n T (127 * 0 + 2 + (j - 2)) = T (j - 2) := ptW_t (by omega) (by omega)
        rw [show (127 : Int) * 0 + 2 + (j - 2) = j by omega] at e2
        rw [show (0 : Int) + 2 + (j - 2) = j by omega] at e
        rw [e, e2]
theorem LBS_c {p op a b c c' : Int} (h : op ≠ 2) (h0 : 0 ≤ op) (h2 : op ≤ 2) : LBS p op a b c = LBS p op a b c' := by
  unfold LBS
  by_cases g : op = 0
  · rw [if_pos g, if_pos g]
  · rw [if_neg g, if_neg g, if_pos (by omega), if_pos (by omega)]
theorem R_doPlain_s {k : Int} (hK : KM σ 0 c) (hD : DC c) (hR : RW σ (c 0) (c 1) (TBc c 0)) (hM : MSc σ M k) (hk : k ≤ 30) (q0 : 0 ≤ q) (q1 : q < k) (hA : ARG C b M q) (hm0 : M q 0 = C b 0 - 1) (hw : 1 ≤ C b 0 ∧ C b 0 ≤ 6)
    (h1 : okP C b c → ∀ t, Off DNm σ t → KM t 0 (resP C b c) → DC (resP C b c) → (∀ j, 635 ≤ j → t 166 j = σ 166 j) → Q 1 t) (h0 : ¬ okP C b c → ∀ t, Off DNm σ t → KM t 0 c → (∀ j, 635 ≤ j → t 166 j = σ 166 j) → Q 0 t) : Tri (d + 6) M_R_doPlain [vA 161, vI (637 + 7 * q)] σ Q := by
  have m0 := hM q 0 q0 q1 (by omega) (by omega)
  have m1 := hM q 1 q0 q1 (by omega) (by omega)
  have m2 := hM q 2 q0 q1 (by omega) (by omega)
  have m3 := hM q 3 q0 q1 (by omega) (by omega)
  rw [Int.add_zero] at m0
  have hT := hR.1
  have hW0 := KM_W0 hK hD
  have lin : ∀ (op x y w w' : Int), M q 0 = op → (0 ≤ op ∧ op ≤ 2) → M q 1 = x → M q 2 = y → 0 ≤ y → (op = 2 → M q 3 = w ∧ 0 ≤ w) → okP C b c = LOK (c 0) (c 1) op x y → resP C b c = ptW c 0 (c 0) (c 1) (MK (c 0) (c 1) (BCH (c 0) (c 1) (TBc c 0) (LBS (c 0) op x y w))) → Tri (d + 5) M_R_linear [vA 161, vI (637 + 7 * q)] σ (fun r10 σ10 => (r10 = 0 ∨ r10 = 1) ∧ Q r10 σ10) := by
    intro op x y w w' e0 hop e1 e2 hy hw2 eo er
    refine R_linear_s (c := M q 3) hR (by omega) (by omega) (m0.trans e0) (m1.trans e1) (m2.trans e2) m3 hop hy (fun z => by have := hw2 z; omega) (fun hl t hWt hO => ⟨Or.inr rfl, h1 (by rw [eo]; exact hl) t (Off_mono hO (fun b j w => by unfold DNm; omega)) ?_ ?_ (fun j jj => hO 166 j (by omega))⟩) (fun hl => ⟨Or.inl rfl, h0 (by rw [eo]; exact hl) σ Off_rfl hK (fun _ _ => rfl)⟩)
    · have el : LBS (c 0) op x y (M q 3) = LBS (c 0) op x y w := by
        by_cases g : op = 2
        · rw [(hw2 g).1]
        · exact LBS_c g hop.1 hop.2
      rw [el] at hWt
      rw [er]
      exact KM_pt0 hK hWt (fun j jj => hO 166 j (by omega))
    · rw [er]; exact DC_pt hD (TW_MK hT.1) (by omega) (by omega)
  refine t_R_doPlain (fun _ => ?_)
  rw [w32_id (x := 637 + 7 * q + 1) (by omega) (by omega), m0, m1]
  refine ⟨⟨by omega, by omega⟩, fun z3 => ⟨⟨by omega, by omega⟩, fun z4 => ?_, fun z4 => ?_⟩, fun z3 => ?_⟩
  · obtain ⟨a1, a2, a3⟩ := hA.2.2.2.1 (by omega)
    have em0 : okP C b c → c (127 * (M q 1 + 1)) ≠ 0 := fun y => by
      rw [← a1]
      unfold okP at y
      rw [if_neg (by omega), if_neg (by omega), if_neg (by omega), if_neg (by omega)] at y
      by_cases g : C b 0 = 5
      · rw [if_pos g] at y; exact y
      · rw [if_neg g] at y; exact y.1
    refine R_isEmpty_s hK (by omega) (by omega) (fun w => ⟨fun y => by omega, fun _ => h0 (fun y => em0 y w) σ Off_rfl hK (fun _ _ => rfl)⟩) (fun w => ⟨fun _ => ⟨fun z5 => ?_, fun z5 => ?_⟩, fun y => absurd rfl y⟩)
    · rw [w32_id (x := M q 1 + 1) (by omega) (by omega), w32_id (x := 127 * (M q 1 + 1)) (by omega) (by omega)]
      have e5 : C b 0 = 5 := by omega
      unfold okP resP at h1
      rw [if_neg (by omega), if_neg (by omega), if_neg (by omega), if_neg (by omega), if_pos e5] at h1
      rw [if_neg (by omega), if_neg (by omega), if_neg (by omega), if_neg (by omega), if_pos e5, a1] at h1
      have hWs := KM_Ws hK hD (by omega) (by omega) w
      refine R_move_s kd_166 (by omega) kd_166 (by omega) (by omega) (by omega) (by omega) (by omega) (by omega) (by omega) (fun t hcp hO => h1 w t (Off_mono hO (fun b j w => by unfold DNm; omega)) (KM_pt0 hK ⟨?_, ?_, fun u u0 u1 => ?_, hWs.2.2.2⟩ (fun j jj => hO 166 j (by omega))) (DC_pt hD hWs.2.2.2 (by omega) (by omega)) (fun j jj => hO 166 j (by omega)))
      · have := hcp 0 (by omega) (by omega)
        rw [Int.add_zero, Int.add_zero] at this
        exact this.trans hWs.1
      · exact (hcp 1 (by omega) (by omega)).trans hWs.2.1
      · have := hcp (2 + u) (by omega) (by omega)
        rw [show (0 : Int) + (2 + u) = 0 + 2 + u by omega, show 127 * (M q 1 + 1) + (2 + u) = 127 * (M q 1 + 1) + 2 + u by omega] at this
        exact this.trans (hWs.2.2.1 u u0 u1)
    · have e6 : C b 0 = 6 := by omega
      unfold okP resP at h1
      unfold okP at h0
      rw [if_neg (by omega), if_neg (by omega), if_neg (by omega), if_neg (by omega), if_neg (by omega), a1] at h1 h0
      rw [if_neg (by omega), if_neg (by omega), if_neg (by omega), if_neg (by omega), if_neg (by omega)] at h1
      have hWs := KM_Ws hK hD (by omega) (by omega) w
      refine R_sumWith_s (by omega) hW0 hR.2.1 hR.2.2.1 hWs (fun hp => ⟨fun _ => h0 (fun y => hp y.2.1) σ Off_rfl hK (fun _ _ => rfl), fun y => by omega⟩) (fun hp hn => ⟨fun _ => h0 (fun y => hn y.2.2) σ Off_rfl hK (fun _ _ => rfl), fun y => by omega⟩) (fun hp hn t hWt hO => ⟨fun y => absurd rfl y, fun _ => h1 ⟨w, hp, hn⟩ t (Off_mono hO (fun b j w => by unfold DNm; omega)) (KM_pt0 hK hWt (fun j jj => hO 166 j (by omega))) (DC_pt hD (TW_MK hn) (by omega) (by omega)) (fun j jj => hO 166 j (by omega))⟩)
  · obtain ⟨a1, a2, a3⟩ := hA.2.2.2.1 (by omega)
    rw [w32_id (x := M q 1 + 1) (by omega) (by omega), w32_id (x := 127 * (M q 1 + 1)) (by omega) (by omega)]
    have e4 : C b 0 = 4 := by omega
    unfold okP resP at h1
    rw [if_neg (by omega), if_neg (by omega), if_neg (by omega), if_pos e4] at h1
    rw [if_neg (by omega), if_neg (by omega), if_neg (by omega), if_pos e4, a1] at h1
    refine R_move_s kd_166 (by omega) kd_166 (by omega) (by omega) (by omega) (by omega) (by omega) (by omega) (by omega) (fun t hcp hO => h1 trivial t (Off_mono hO (fun b j w => by unfold DNm; omega)) (KM_pt (f := 0) hK (by omega) ?_ ?_ (fun u u0 u1 => ?_) (fun j jj => hO 166 j (by omega))) (DC_pt hD hT (by omega) (by omega)) (fun j jj => hO 166 j (by omega)))
    · have := hcp 0 (by omega) (by omega)
      rw [Int.add_zero, Int.add_zero] at this
      rw [Int.zero_add]
      exact this.trans hW0.1
    · rw [Int.zero_add]
      exact (hcp 1 (by omega) (by omega)).trans hW0.2.1
    · have := hcp (2 + u) (by omega) (by omega)
      rw [show 127 * (M q 1 + 1) + (2 + u) = 0 + 127 * (M q 1 + 1) + 2 + u by omega, show (0 : Int) + (2 + u) = 0 + 2 + u by omega] at this
      exact this.trans (hW0.2.2.1 u u0 u1)
  · have cs : C b 0 = 1 ∨ C b 0 = 2 ∨ C b 0 = 3 := by omega
    rcases cs with e | e | e
    · obtain ⟨⟨a1, a2, a3⟩, b1, b2, b3⟩ := hA.1 e
      exact lin 0 (C b 1) (C b 2) 0 0 (by omega) (by omega) a1.symm b1.symm b2 (fun y => by omega) (by unfold okP; rw [if_pos e]) (by unfold resP; rw [if_pos e])
    · obtain ⟨⟨a1, a2, a3⟩, b1, b2, b3⟩ := hA.2.1 e
      exact lin 1 (C b 1) (C b 2) 0 0 (by omega) (by omega) a1.symm b1.symm (by omega) (fun y => by omega) (by unfold okP; rw [if_neg (by omega), if_pos e]) (by unfold resP; rw [if_neg (by omega), if_pos e])
    · obtain ⟨⟨a1, a2, a3⟩, ⟨b1, b2, b3⟩, d1, d2, d3⟩ := hA.2.2.1 e
      exact lin 2 (C b 2) (C b 3) (C b 1) 0 (by omega) (by omega) b1.symm d1.symm d2 (fun y => ⟨a1.symm, a2⟩) (by unfold okP; rw [if_neg (by omega), if_neg (by omega), if_pos e]) (by unfold resP; rw [if_neg (by omega), if_neg (by omega), if_pos e])
end RDO
