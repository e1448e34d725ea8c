/-! ===== the class reads a SCRIPT ===== -/
theorem CR.gh {σ : SG} {C : Int → Int → Int} {l k v : Int} (h : CR σ C) (hk : 6 ≤ k) : CR σ (c2u C l k v) := fun a b a0 a1 b0 b1 => by rw [c2u_ne (by omega)]; exact h a b a0 a1 b0 b1
/-- the class's heap holds the machine's state -/
def SCX (σ : SG) (f : Int → Int) (N : Int) (X : XS) : Prop := TC σ f N X.1.2.2 ∧ CR σ (xC X) ∧ σ 28 0 = 1 ∧ σ 28 1 = xk X ∧ σ 28 2 = xl X ∧ σ 28 5 = xg X ∧ ∀ i, 0 ≤ i → i < xg X → σ 30 i = xo X i
def DSc (b j : Int) : Prop := (b = 22 ∧ (j = 1 ∨ j = 2 ∨ j = 3 ∨ j = 6 ∨ j = 7 ∨ j = 8)) ∨ (b = 28 ∧ (j = 0 ∨ j = 1 ∨ j = 2 ∨ j = 5)) ∨ b = 29 ∨ b = 30
section RSC
variable {d : Nat} {σ : SG} {Q : Int → SG → Prop} {f : Int → Int} {N : Int} {X : XS}
theorem Sc_readEnd_s (hX : SCX σ f N X) (hB : XB N X) (hI : XI X) (g0 : X.1.1 = 0) (hU : isU f N X.1.2.2 (strI 6))
    (h1 : (tn f N X).1.1 = 0 → ∀ t, SCX t f N (tn f N X) → Off DSc σ t → Q 1 t) (h0 : 0 < (tn f N X).1.1 → ∀ t, FT t (tn f N X).1.1 (tn f N X).1.2.1 → Off DSc σ t → Q 0 t) : Tri (d + 5) M_Sc_readEnd [vA 28, vA 22] σ Q := by
  obtain ⟨hT, hC, s0, s1, s2, s5, so⟩ := hX
  obtain ⟨hpb, gg0, g3, k0, k1, l0, l1⟩ := id hB
  have e30 : (28 : Int) + 2 = 30 := rfl
  refine t_Sc_readEnd ?_
  rw [e30, s5]
  refine ⟨ob_28, fun z => ⟨ob_28, ob_28, fun σ2 e2 => ⟨ob_28, ob_28, ?_⟩⟩, fun z => ⟨ob_22, To_blame_s hT (fun t q2 q3 _ hO => ⟨Or.inl rfl, ?_⟩)⟩⟩
  · rw [w32_id (x := xg X - 1) (by omega) (by omega)] at e2
    obtain ⟨⟨a0, a1⟩, _⟩ := hI.2.2.2.2.2.2.2 (xg X - 1) (by omega) (by omega)
    have t5q : σ2 28 5 = xg X - 1 := by rw [e2, up_same]
    have t2 : σ2 28 2 = xl X := by rw [e2, up_ne (by omega)]; exact s2
    have hO2 : Off DSc σ σ2 := by rw [e2]; exact Off_up (Or.inr (Or.inl ⟨rfl, by omega⟩))
    have hC2 : CR σ2 (xC X) := hC.fr (fun k => by rw [e2, up_ne (by omega)])
    rw [t2]
    refine Sc_set_s (by omega) (by omega) (by omega) (by omega) hC2 (fun t3 hC3 hO3 => ?_)
    have u5 : t3 28 5 = xg X - 1 := (hO3 28 5 (by omega)).trans t5q
    have u2 : t3 28 2 = xl X := (hO3 28 2 (by omega)).trans t2
    have u30 : t3 30 (xg X - 1) = xo X (xg X - 1) := by rw [hO3 30 _ (by omega), e2, up_ne (by omega)]; exact so _ (by omega) (by omega)
    rw [u5, u2, u30]
    refine ⟨ob_28, ob_28, ob_28, rd_of kd_30 (by omega) (by omega), ob_28, Sc_set_s (by omega) (by omega) (by omega) (by omega) hC3 (fun t4 hC4 hO4 => ?_)⟩
    have v5 : t4 28 5 = xg X - 1 := (hO4 28 5 (by omega)).trans u5
    have v2 : t4 28 2 = xl X := (hO4 28 2 (by omega)).trans u2
    have v30 : t4 30 (xg X - 1) = xo X (xg X - 1) := (hO4 30 _ (by omega)).trans u30
    rw [v5, v2, v30]
    refine ⟨ob_28, ob_28, rd_of kd_30 (by omega) (by omega), ob_28, ob_28, Sc_set_s a0 (by omega) (by omega) (by omega) hC4 (fun t5 hC5 hO5 => ⟨ob_28, ob_28, fun t6 e6 => ⟨ob_22, ?_⟩⟩)⟩
    have hO35 : Off (fun b j => b = 29) σ2 t5 := Off_trans (Off_trans hO3 hO4) hO5
    rw [hO35 28 2 (by omega), t2, w32_id (x := xl X + 1) (by omega) (by omega)] at e6
    have hO6 : Off DSc σ t6 := Off_trans hO2 (Off_trans (Off_mono hO35 (fun b j q => Or.inr (Or.inr (Or.inl q)))) (by rw [e6]; exact Off_up (Or.inr (Or.inl ⟨rfl, by omega⟩))))
    have hT6 : TC t6 f N X.1.2.2 := TC.fr hT (funext fun q => by rw [e6, up_ne (by omega), hO35 23 q (by omega), e2, up_ne (by omega)]) (fun q _ _ _ _ => by rw [e6, up_ne (by omega), hO35 22 q (by omega), e2, up_ne (by omega)])
    rw [tn_E hU (by omega)] at h1 h0
    refine To_next_s hT6 (fun t7 hT7 hO7 => ⟨ob_22, To_takeSign_s hT7 (fun y t8 hT8 hO8 => ⟨Or.inr rfl, ?_⟩) (fun y t8 hF hO8 => ⟨Or.inl rfl, ?_⟩)⟩)
    · have e : (tnE f N X).1 = adv f N (adv f N X.1) := mst_go (f := f) (N := N) (s := adv f N X.1) rfl (zb_t y)
      have hO78 : Off (fun b j => b = 22 ∧ (j = 1 ∨ j = 6 ∨ j = 7 ∨ j = 8)) t6 t8 := Off_trans hO7 hO8
      refine h1 (by rw [e]; rfl) t8 ⟨by rw [e]; exact hT8, ?_, ?_, ?_, ?_, ?_, ?_⟩ (Off_trans hO6 (Off_mono hO78 (fun b j q => Or.inl ⟨q.1, by omega⟩)))
      · have hC8 : CR t8 _ := hC5.fr (fun k => by rw [hO78 29 k (by omega), e6, up_ne (by omega)])
        exact (hC8.gh (by omega)).gh (by omega)
      · rw [hO78 28 0 (by omega), e6, up_ne (by omega), hO35 28 0 (by omega), e2, up_ne (by omega)]; exact s0
      · rw [hO78 28 1 (by omega), e6, up_ne (by omega), hO35 28 1 (by omega), e2, up_ne (by omega)]; exact s1
      · rw [hO78 28 2 (by omega), e6, up_same]; rfl
      · rw [hO78 28 5 (by omega), e6, up_ne (by omega), hO35 28 5 (by omega), t5q]; rfl
      · intro i i0 i1
        have i1' : i < xg X - 1 := i1
        rw [hO78 30 i (by omega), e6, up_ne (by omega), hO35 30 i (by omega), e2, up_ne (by omega)]; exact so i i0 (by omega)
    · have e : (tnE f N X).1 = (bk f N (tE f N X.1.2.2) 2, tS f N (tE f N X.1.2.2), tE f N X.1.2.2) := mst_no (f := f) (N := N) (s := adv f N X.1) rfl (zb_f y)
      rw [e] at h0
      exact h0 (bk_p (by omega)) t8 hF (Off_trans hO6 (Off_trans (Off_mono hO7 (fun b j q => Or.inl ⟨q.1, by omega⟩)) (Off_mono hO8 (fun b j q => Or.inl ⟨q.1, by omega⟩))))
  · rw [tn_E0 hU (by omega)] at h0
    exact h0 (bk_p (by omega)) t ⟨q2, q3⟩ (Off_mono hO (fun b j q => Or.inl ⟨q.1, by omega⟩))
theorem Sc_readStep_s (hX : SCX σ f N X) (hB : XB N X) (g0 : X.1.1 = 0) (hU : ¬ isU f N X.1.2.2 (strI 6))
    (h1 : (tn f N X).1.1 = 0 → ∀ t, SCX t f N (tn f N X) → Off DSc σ t → Q 1 t) (h0 : 0 < (tn f N X).1.1 → ∀ t, FT t (tn f N X).1.1 (tn f N X).1.2.1 → Off DSc σ t → Q 0 t) : Tri (d + 7) M_Sc_readStep [vA 28, vA 22] σ Q := by
  obtain ⟨hT, hC, s0, s1, s2, s5, so⟩ := hX
  obtain ⟨hpb, gg0, g3, k0, k1, l0, l1⟩ := id hB
  have e30 : (28 : Int) + 2 = 30 := rfl
  have w9 := waR_9 (f := f) (N := N) (e := X.1.2.2)
  have w0 := waR_nn (f := f) (N := N) (e := X.1.2.2) (u := strI 7)
  refine t_Sc_readStep ⟨ob_22, To_wordAmong_s (k := 7) (by omega) hT ?_⟩
  have hk1 := fun (h : waR f N X.1.2.2 (strI 7) ≠ 0) => waR_k h
  generalize hw : waR f N X.1.2.2 (strI 7) = w at *
  have at70 : ∀ x3, w ≠ 0 → xk X < 30 → ((x3 = 1 ∧ (w = 7 ∨ w = 8) ∧ xg X < 3) ∨ (x3 = 0 ∧ ¬ (w = 7 ∨ w = 8))) → L (d + 7) M_Sc_readStep 70 [vA 28, vA 22, vI w, vI x3, vU] [] σ Q := by
    intro x3 hw0 hk hx3
    have hS : (tn f N X).1 = tnS f N w X := by
      rcases hx3 with q | q
      · rw [tn_B hU hk (by rw [hw]; exact q.2.1) q.2.2, hw]; rfl
      · rw [tn_P hU (by rw [hw]; exact hw0) hk (by rw [hw]; exact q.2), hw]; rfl
    rw [hS] at h0
    have at104 : ∀ t, (agS f N w (adv f N X.1)).1 = 0 → TC t f N (agS f N w (adv f N X.1)).2.2 → CR t (agC f N w (adv f N X.1) (c2u (xC X) (xl X) 0 w) (xl X)) → Off (fun b j => (b = 22 ∧ (j = 1 ∨ j = 2 ∨ j = 3 ∨ j = 6 ∨ j = 7 ∨ j = 8)) ∨ b = 29) σ t → L (d + 7) M_Sc_readStep 104 [vA 28, vA 22, vU, vI x3, vU] [vI 1] t Q := by
      intro t gS hTt hCt hOt
      have hOt' : Off DSc σ t := Off_mono hOt (fun b j q => by rcases q with q | q; exact Or.inl q; exact Or.inr (Or.inr (Or.inl q)))
      refine s_Sc_readStep_104 ⟨fun q => by omega, fun _ => ⟨ob_22, To_takeSign_s hTt (fun y t2 hT2 hO2 => ⟨fun _ => ?_, fun q => by omega⟩) (fun y t2 hF hO2 => ⟨fun q => absurd rfl q, fun _ => ?_⟩)⟩⟩
      · have eS : tnS f N w X = adv f N (agS f N w (adv f N X.1)) := mst_go gS (zb_t y)
        have hO2' : Off (fun b j => (b = 22 ∧ (j = 1 ∨ j = 2 ∨ j = 3 ∨ j = 6 ∨ j = 7 ∨ j = 8)) ∨ b = 29) σ t2 := offST hOt hO2
        have hO2'' : Off DSc σ t2 := Off_trans hOt' (Off_mono hO2 (fun b j q => Or.inl ⟨q.1, by omega⟩))
        have c0 : t2 28 0 = 1 := (hO2' 28 0 (by omega)).trans s0
        have c1 : t2 28 1 = xk X := (hO2' 28 1 (by omega)).trans s1
        have c2 : t2 28 2 = xl X := (hO2' 28 2 (by omega)).trans s2
        have c5 : t2 28 5 = xg X := (hO2' 28 5 (by omega)).trans s5
        have co : ∀ i, 0 ≤ i → i < xg X → t2 30 i = xo X i := fun i i0 i1 => (hO2' 30 i (by omega)).trans (so i i0 i1)
        have hC2 : CR t2 (agC f N w (adv f N X.1) (c2u (xC X) (xl X) 0 w) (xl X)) := hCt.fr (fun q => hO2 29 q (by omega))
        rw [e30, c1, c2, c5]
        refine ⟨fun z => ⟨ob_28, ob_28, fun t5 e5 => ⟨ob_28, ob_28, fun t6 e6 => ?_⟩⟩, fun z => ⟨ob_28, ob_28, ob_28, wr_of (by omega) kd_30 (by omega) (by omega), fun t7 e7 => ⟨ob_28, ob_28, fun t8 e8 => ⟨ob_28, ob_28, fun t9 e9 => ⟨ob_28, ob_28, fun t10 e10 => ?_⟩⟩⟩⟩⟩
        · have hnb : ¬ (w = 7 ∨ w = 8) := by rcases hx3 with q | q; omega; exact q.2
          have eT : tn f N X = tnP f N w X := by rw [tn_P hU (by rw [hw]; exact hw0) hk (by rw [hw]; exact hnb), hw]
          rw [w32_id (x := xk X + 1) (by omega) (by omega)] at e5
          have q2 : t5 28 2 = xl X := by rw [e5, up_ne (by omega)]; exact c2
          rw [q2, w32_id (x := xl X + 1) (by omega) (by omega)] at e6
          have rr : ∀ b j, (b ≠ 28 ∨ (j ≠ 1 ∧ j ≠ 2)) → t6 b j = t2 b j := fun b j q => by rw [e6, up_ne (by omega), e5, up_ne (by omega)]
          rw [eT] at h1
          refine h1 (by show (tnS f N w X).1 = 0; rw [eS]; rfl) t6 ⟨?_, ?_, ?_, ?_, ?_, ?_, ?_⟩ (Off_trans hO2'' (by rw [e6, e5]; exact Off_trans (Off_up (Or.inr (Or.inl ⟨rfl, by omega⟩))) (Off_up (Or.inr (Or.inl ⟨rfl, by omega⟩)))))
          · show TC t6 f N (tnS f N w X).2.2
            rw [eS]
            exact TC.fr hT2 (funext fun q => rr 23 q (by omega)) (fun q _ _ _ _ => rr 22 q (by omega))
          · show CR t6 (tnC f N w X (xg X))
            exact (((hC2.fr (fun q => rr 29 q (by omega))).gh (by omega)).gh (by omega))
          · rw [rr 28 0 (by omega)]; exact c0
          · rw [e6, up_ne (by omega), e5, up_same]; rfl
          · rw [e6, up_same]; rfl
          · rw [rr 28 5 (by omega)]; exact c5
          · intro i i0 i1
            rw [rr 30 i (by omega)]; exact co i i0 i1
        · have hb : (w = 7 ∨ w = 8) ∧ xg X < 3 := by rcases hx3 with q | q; exact q.2; omega
          have eT : tn f N X = tnB f N w X := by rw [tn_B hU hk (by rw [hw]; exact hb.1) hb.2, hw]
          have a5 : t7 28 5 = xg X := by rw [e7, up_ne (by omega)]; exact c5
          rw [a5, w32_id (x := xg X + 1) (by omega) (by omega)] at e8
          have a1 : t8 28 1 = xk X := by rw [e8, up_ne (by omega), e7, up_ne (by omega)]; exact c1
          rw [a1, w32_id (x := xk X + 1) (by omega) (by omega)] at e9
          have a2 : t9 28 2 = xl X := by rw [e9, up_ne (by omega), e8, up_ne (by omega), e7, up_ne (by omega)]; exact c2
          rw [a2, w32_id (x := xl X + 1) (by omega) (by omega)] at e10
          have rr : ∀ b j, (b ≠ 28 ∨ (j ≠ 1 ∧ j ≠ 2 ∧ j ≠ 5)) → (b ≠ 30 ∨ j ≠ xg X) → t10 b j = t2 b j := fun b j q q2 => by rw [e10, up_ne (by omega), e9, up_ne (by omega), e8, up_ne (by omega), e7, up_ne (by omega)]
          rw [eT] at h1
          refine h1 (by show (tnS f N w X).1 = 0; rw [eS]; rfl) t10 ⟨?_, ?_, ?_, ?_, ?_, ?_, ?_⟩ (Off_trans hO2'' (by rw [e10, e9, e8, e7]; exact Off_trans (Off_up (Or.inr (Or.inr (Or.inr rfl)))) (Off_trans (Off_up (Or.inr (Or.inl ⟨rfl, by omega⟩))) (Off_trans (Off_up (Or.inr (Or.inl ⟨rfl, by omega⟩))) (Off_up (Or.inr (Or.inl ⟨rfl, by omega⟩)))))))
          · show TC t10 f N (tnS f N w X).2.2
            rw [eS]
            exact TC.fr hT2 (funext fun q => rr 23 q (by omega) (by omega)) (fun q _ _ _ _ => rr 22 q (by omega) (by omega))
          · show CR t10 (tnC f N w X (xg X + 1))
            exact (((hC2.fr (fun q => rr 29 q (by omega) (by omega))).gh (by omega)).gh (by omega))
          · rw [rr 28 0 (by omega) (by omega)]; exact c0
          · rw [e10, up_ne (by omega), e9, up_same]; rfl
          · rw [e10, up_same]; rfl
          · rw [e10, up_ne (by omega), e9, up_ne (by omega), e8, up_same]; rfl
          · intro i i0 i1
            have i1' : i < xg X + 1 := i1
            show t10 30 i = if i = xg X then xl X else xo X i
            by_cases q : i = xg X
            · rw [if_pos q, q, e10, up_ne (by omega), e9, up_ne (by omega), e8, up_ne (by omega), e7, up_same]
            · rw [if_neg q, rr 30 i (by omega) (by omega)]; exact co i i0 (by omega)
      · have eS : tnS f N w X = (bk f N (agS f N w (adv f N X.1)).2.2 2, tS f N (agS f N w (adv f N X.1)).2.2, (agS f N w (adv f N X.1)).2.2) := mst_no gS (zb_f y)
        rw [eS] at h0
        exact h0 (bk_p (by omega)) t2 hF (Off_trans hOt' (Off_mono hO2 (fun b j q => Or.inl ⟨q.1, by omega⟩)))
    have bad : ∀ t, 0 < (agS f N w (adv f N X.1)).1 → FT t (agS f N w (adv f N X.1)).1 (agS f N w (adv f N X.1)).2.1 → Off (fun b j => (b = 22 ∧ (j = 1 ∨ j = 2 ∨ j = 3 ∨ j = 6 ∨ j = 7 ∨ j = 8)) ∨ b = 29) σ t → L (d + 7) M_Sc_readStep 104 [vA 28, vA 22, vU, vI x3, vU] [vI 0] t Q := by
      intro t gS hF hOt
      have eS : tnS f N w X = agS f N w (adv f N X.1) := mst_bad gS
      rw [eS] at h0
      exact s_Sc_readStep_104 ⟨fun _ => h0 gS t hF (Off_mono hOt (fun b j q => by rcases q with q | q; exact Or.inl q; exact Or.inr (Or.inr (Or.inl q)))), fun q => absurd rfl q⟩
    refine s_Sc_readStep_70 ⟨ob_22, To_next_s hT (fun t1 hT1 hO1 => ⟨ob_28, ob_28, ?_⟩)⟩
    rw [hO1 28 2 (by omega), s2]
    refine Sc_set_s (by omega) (by omega) (by omega) (by omega) (hC.fr (fun q => hO1 29 q (by omega))) (fun t2 hC2 hO2 => ?_)
    have hT2 : TC t2 f N (adv f N X.1).2.2 := TC.fr hT1 (funext fun q => hO2 23 q (by omega)) (fun q _ _ _ _ => hO2 22 q (by omega))
    have hD2 : Off (fun b j => (b = 22 ∧ (j = 1 ∨ j = 2 ∨ j = 3 ∨ j = 6 ∨ j = 7 ∨ j = 8)) ∨ b = 29) σ t2 := Off_trans (Off_mono hO1 (fun b j q => by omega)) (Off_mono hO2 (fun b j q => Or.inr q))
    have hl2 : t2 28 2 = xl X := (hD2 28 2 (by omega)).trans s2
    refine ⟨fun q => ⟨ob_28, Sc_readRest_s q rfl (by omega) (by omega) hl2 hT2 hC2 (fun gS t hTt hCt hOt => at104 t gS hTt hCt (Off_trans hD2 hOt)) (fun gS t hF hOt => bad t gS hF (Off_trans hD2 hOt))⟩, fun q => ⟨ob_28, ?_⟩⟩
    have eA : agS f N w (adv f N X.1) = tsS f N (adv f N X.1) := by unfold agS; rw [if_neg (by omega), if_neg (by omega), if_neg (by omega), if_pos q]
    have eC : agC f N w (adv f N X.1) (c2u (xC X) (xl X) 0 w) (xl X) = tsC f N (adv f N X.1) (c2u (xC X) (xl X) 0 w) (xl X) := by unfold agC; rw [if_neg (by omega), if_neg (by omega), if_neg (by omega), if_pos q]
    rw [eA, eC] at at104
    rw [eA] at bad
    exact Sc_readTest_s rfl (by omega) (by omega) hl2 hT2 hC2 (fun gS t hTt hCt hOt => at104 t gS hTt hCt (Off_trans hD2 hOt)) (fun gS t hF hOt => bad t gS hF (Off_trans hD2 hOt))
  have blm : ∀ t, Off (fun b j => b = 22 ∧ (j = 2 ∨ j = 3)) σ t → Off DSc σ t := fun t hO => Off_mono hO (fun b j q => Or.inl ⟨q.1, by omega⟩)
  have at45 : w ≠ 0 → xk X < 30 → (w = 7 ∨ w = 8) → L (d + 7) M_Sc_readStep 45 [vA 28, vA 22, vI w, vU, vU] [] σ Q := by
    intro hw0 hk hb
    refine s_Sc_readStep_45 ⟨fun q => by omega, fun _ => ⟨ob_28, ?_⟩⟩
    rw [s5]
    refine ⟨fun q => at70 1 hw0 hk (Or.inl ⟨rfl, hb, q⟩), fun q => ⟨ob_22, To_blame_s hT (fun t q2 q3 _ hO => ⟨Or.inl rfl, ?_⟩)⟩⟩
    rw [tn_7 hU hk (by rw [hw]; exact hb) q] at h0
    rw [bk_4 (by rw [hk1 hw0]; omega)] at q2
    exact h0 (by show (0 : Int) < 7; omega) t ⟨q2, q3⟩ (blm t hO)
  rw [s1]
  refine ⟨fun hw0 => ⟨ob_28, fun hk => ⟨fun q => at45 hw0 hk (Or.inl q), fun q => ⟨fun q8 => ⟨fun _ => at70 0 hw0 hk (Or.inr ⟨rfl, by omega⟩), fun z => absurd rfl z⟩, fun q8 => at45 hw0 hk (Or.inr q8)⟩⟩, fun hk => ⟨ob_22, To_blame_s hT (fun t q2 q3 _ hO => ⟨Or.inl rfl, ?_⟩)⟩⟩, fun hw0 => ⟨ob_22, To_blame_s hT (fun t q2 q3 _ hO => ⟨Or.inl rfl, ?_⟩)⟩⟩
  · rw [tn_6 hU (by rw [hw]; exact hw0) hk] at h0
    rw [bk_4 (by rw [hk1 hw0]; omega)] at q2
    exact h0 (by show (0 : Int) < 6; omega) t ⟨q2, q3⟩ (blm t hO)
  · rw [tn_0 hU (by rw [hw]; exact hw0)] at h0
    exact h0 (bk_p (by omega)) t ⟨q2, q3⟩ (blm t hO)
theorem Sc_loop {Z : XS} (h300 : N ≤ 300) (h1 : ∀ Y t, Rch f N Z Y → Y.1.1 = 0 → tK f N Y.1.2.2 = 0 → xg Y = 0 → XB N Y → XI Y → SCX t f N Y → FT t 0 (-1) → Off DSc σ t → Q 1 t) (h0 : ∀ Y t, Rch f N Z Y → 0 < Y.1.1 → FT t Y.1.1 Y.1.2.1 → Off DSc σ t → Q 0 t) : ∀ (n : Nat) (X : XS) (x2 : Int) (t : SG), Rch f N Z X → X.1.1 = 0 → XB N X → XI X → N - X.1.2.2 < n → (0 ≤ x2 ∧ x2 ≤ X.1.2.2) → SCX t f N X → Off DSc σ t → L (d + 8) M_Sc_readFrom 30 [vA 28, vA 22, vI x2, vU] [] t Q := by
  intro n
  induction n with
  | zero => intro X x2 t _ _ hB _ hn; have := hB.1.2.2; omega
  | succ n ih =>
    intro X x2 t hR g0 hB hI hn hx2 hX hO
    have hT := hX.1
    have s5 : t 28 5 = xg X := hX.2.2.2.2.2.1
    have hpb := hB.1
    have fin : tK f N X.1.2.2 = 0 → obok 6 28 ∧ (t 28 5 ≤ 0 → obok 8 22 ∧ Tri (d + 7) M_To_praise [vA 22] t (fun r3 σ3 => (r3 = 0 ∨ r3 = 1) ∧ Q r3 σ3)) ∧ (0 < t 28 5 → obok 8 22 ∧ Tri (d + 7) M_To_blame [vA 22, vI 2] t (fun r4 σ4 => (r4 = 0 ∨ r4 = 1) ∧ Q r4 σ4)) := by
      intro hK
      rw [s5]
      refine ⟨ob_28, fun q => ⟨ob_22, t_To_praise (fun s1 e1 s2 e2 => ⟨Or.inr rfl, ?_⟩)⟩, fun q => ⟨ob_22, To_blame_s hT (fun t2 q2 q3 _ hO2 => ⟨Or.inl rfl, ?_⟩)⟩⟩
      · have rr : ∀ b j, (b ≠ 22 ∨ (j ≠ 2 ∧ j ≠ 3)) → s2 b j = t b j := fun b j q => by rw [e2, up_ne (by omega), e1, up_ne (by omega)]
        refine h1 X s2 hR g0 hK (by have := hB.2.1; omega) hB hI ⟨TC.fr hT (funext fun q => rr 23 q (by omega)) (fun q _ _ _ _ => rr 22 q (by omega)), hX.2.1.fr (fun q => rr 29 q (by omega)), ?_, ?_, ?_, ?_, ?_⟩ ⟨by rw [e2, up_ne (by omega), e1, up_same], by rw [e2, up_same]⟩ (Off_trans hO (by rw [e2, e1]; exact Off_trans (Off_up (Or.inl ⟨rfl, by omega⟩)) (Off_up (Or.inl ⟨rfl, by omega⟩))))
        · rw [rr 28 0 (by omega)]; exact hX.2.2.1
        · rw [rr 28 1 (by omega)]; exact hX.2.2.2.1
        · rw [rr 28 2 (by omega)]; exact hX.2.2.2.2.1
        · rw [rr 28 5 (by omega)]; exact s5
        · intro i i0 i1; rw [rr 30 i (by omega)]; exact hX.2.2.2.2.2.2 i i0 i1
      · have nU : ¬ isU f N X.1.2.2 (strI 6) := fun z => by have := z.1; omega
        have nW : waR f N X.1.2.2 (strI 7) = 0 := by
          by_cases z : waR f N X.1.2.2 (strI 7) = 0
          · exact z
          · have := waR_k z; omega
        have eT := tn_0 nU nW
        have hs : ¬ xstop f N X := fun z => by rcases z with z | z; omega; have := z.2; omega
        refine h0 (tn f N X) t2 (hR.trans (Rch.go hs)) (by rw [eT]; exact bk_p (by omega)) (by rw [eT]; exact ⟨q2, q3⟩) (Off_trans hO (Off_mono hO2 (fun b j q => Or.inl ⟨q.1, by omega⟩)))
    refine s_Sc_readFrom_30 ⟨fun z => fin (tK_0.mpr (by have := tS_b (f := f) hpb.2.2; omega)), fun z => ⟨ob_22, t_To_atEnd ?_⟩⟩
    rw [hT.2.2.2.2.2.2.1]
    refine ⟨fun hK => ⟨fun y => absurd rfl y, fun _ => ⟨ob_22, ?_⟩⟩, fun hK => ⟨fun _ => fin hK, fun y => by omega⟩⟩
    have hs : ¬ xstop f N X := fun z => by rcases z with z | z; omega; exact hK z.1
    have hgo := hR.trans (Rch.go hs)
    have next : ∀ t2, (tn f N X).1.1 = 0 → SCX t2 f N (tn f N X) → Off DSc t t2 → L (d + 8) M_Sc_readFrom 30 [vA 28, vA 22, vI (w32 (x2 + 1)), vU] [] t2 Q := fun t2 g2 hX2 hO2 => by
      obtain ⟨hB2, lt2⟩ := tn_on hB g2
      rw [w32_id (by omega) (by omega)]
      exact ih (tn f N X) (x2 + 1) t2 hgo g2 hB2 (SI_tn hB hI g2) (by omega) ⟨by omega, by omega⟩ hX2 (Off_trans hO hO2)
    refine To_isWord_s (k := 6) (by omega) hT (fun hU => ⟨fun y => by omega, fun _ => ⟨ob_28, ?_⟩⟩) (fun hU => ⟨fun _ => ⟨ob_28, ?_⟩, fun y => absurd rfl y⟩)
    · exact Sc_readEnd_s hX hB hI g0 hU (fun g2 t2 hX2 hO2 => ⟨fun _ => next t2 g2 hX2 hO2, fun y => by omega⟩) (fun g2 t2 hF hO2 => ⟨fun y => absurd rfl y, fun _ => h0 _ t2 hgo g2 hF (Off_trans hO hO2)⟩)
    · exact Sc_readStep_s hX hB g0 hU (fun g2 t2 hX2 hO2 => ⟨fun _ => next t2 g2 hX2 hO2, fun y => by omega⟩) (fun g2 t2 hF hO2 => ⟨fun y => absurd rfl y, fun _ => h0 _ t2 hgo g2 hF (Off_trans hO hO2)⟩)
theorem Sc_readFrom_s {M : Int → Int → Int} (h300 : N ≤ 300) (hT : TC σ f N 0) (h1 : ∀ Y t, Rch f N (X0 (fun _ _ => 0) M) Y → Y.1.1 = 0 → tK f N Y.1.2.2 = 0 → xg Y = 0 → XB N Y → XI Y → SCX t f N Y → FT t 0 (-1) → Off DSc σ t → Q 1 t) (h0 : ∀ Y t, Rch f N (X0 (fun _ _ => 0) M) Y → 0 < Y.1.1 → FT t Y.1.1 Y.1.2.1 → Off DSc σ t → Q 0 t) : Tri (d + 8) M_Sc_readFrom [vA 28, vA 22] σ Q := by
  refine t_Sc_readFrom ⟨ob_28, fun t1 e1 => ⟨ob_28, fun t2 e2 => ⟨ob_28, fun t3 e3 => ⟨ob_28, fun t4 e4 => ⟨ob_28, ?_⟩⟩⟩⟩⟩
  refine JA_fill_s (n := 360) (by omega) kd_29 (by omega) ?_
  have e29 : (28 : Int) + 1 = 29 := rfl
  rw [e29]
  have rr : ∀ b j, (b ≠ 28 ∨ (j ≠ 0 ∧ j ≠ 1 ∧ j ≠ 2 ∧ j ≠ 5)) → t4 b j = σ b j := fun b j q => by rw [e4, up_ne (by omega), e3, up_ne (by omega), e2, up_ne (by omega), e1, up_ne (by omega)]
  have ff : ∀ b j, b ≠ 29 → fil t4 29 0 (360 : Nat) 0 b j = t4 b j := fun b j q => fil_ne (Or.inl q)
  have hO4 : Off DSc σ t4 := by rw [e4, e3, e2, e1]; exact Off_trans (Off_up (Or.inr (Or.inl ⟨rfl, by omega⟩))) (Off_trans (Off_up (Or.inr (Or.inl ⟨rfl, by omega⟩))) (Off_trans (Off_up (Or.inr (Or.inl ⟨rfl, by omega⟩))) (Off_up (Or.inr (Or.inl ⟨rfl, by omega⟩)))))
  have hN := hT.2.2.1
  refine Sc_loop h300 h1 h0 (N.toNat + 1) (X0 (fun _ _ => 0) M) 0 _ Rch.rfl' rfl (XB_0 hN.1) XI_0 (by show N - 0 < _; omega) ⟨Int.le_refl _, Int.le_refl _⟩ ⟨?_, ?_, ?_, ?_, ?_, ?_, ?_⟩ (Off_trans hO4 (fun b j q => ff b j (fun z => q (Or.inr (Or.inr (Or.inl z))))))
  · exact TC.fr hT (funext fun q => by rw [ff 23 q (by omega)]; exact rr 23 q (by omega)) (fun q _ _ _ _ => by rw [ff 22 q (by omega)]; exact rr 22 q (by omega))
  · refine CR.gh (CR.gh ?_ (by omega)) (by omega)
    intro l k l0 l1 k0 k1
    exact fil_in (by omega) (by show 6 * l + k < (360 : Int); omega)
  · rw [ff 28 0 (by omega), e4, up_ne (by omega), e3, up_ne (by omega), e2, up_ne (by omega), e1, up_same]
  · rw [ff 28 1 (by omega), e4, up_ne (by omega), e3, up_ne (by omega), e2, up_same]; rfl
  · rw [ff 28 2 (by omega), e4, up_ne (by omega), e3, up_same]; rfl
  · rw [ff 28 5 (by omega), e4, up_same]; rfl
  · intro i i0 i1
    exact absurd (show i < 0 from i1) (by omega)
end RSC
