/-! ===== the class reads a WORLD, whole ===== -/
section WDB
variable {f : Int → Int} {N : Int}
theorem wdR_bad (h : 0 < (wd7 f N).1) : wdR f N = (wd7 f N, fun _ _ _ => 0) := cps_bad h
theorem wd7_6 (h : 0 < (wd6 f N).1) : wd7 f N = wd6 f N := mst_bad h
theorem wd7_5 (h : 0 < (wd5 f N).1) : wd7 f N = wd5 f N := by
  have e : wd6 f N = wd5 f N := cns_bad h
  rw [wd7_6 (by rw [e]; exact h), e]
theorem wd7_4 (h : 0 < (wd4 f N).1) : wd7 f N = wd4 f N := by
  have e : wd5 f N = wd4 f N := mst_bad h
  rw [wd7_5 (by rw [e]; exact h), e]
theorem wd7_3 (h : 0 < (wd3 f N).1) : wd7 f N = wd3 f N := by
  have e : wd4 f N = wd3 f N := mst_bad h
  rw [wd7_4 (by rw [e]; exact h), e]
theorem wd7_2 (h : 0 < (wd2 f N).1) : wd7 f N = wd2 f N := by
  have e : wd3 f N = wd2 f N := cns_bad h
  rw [wd7_3 (by rw [e]; exact h), e]
theorem wd7_1 (h : 0 < (wd1 f N).1) : wd7 f N = wd1 f N := by
  have e : wd2 f N = wd1 f N := by unfold wd2; rw [if_pos h]
  rw [wd7_2 (by rw [e]; exact h), e]
end WDB
section CRW
variable {d : Nat} {σ : SG} {Q : Int → SG → Prop} {f : Int → Int} {N : Int}
theorem Wd_readFrom_s (hT : TC σ f N 0)
    (h1 : (wdR f N).1.1 = 0 → PN (wdp f N) (wdn f N) → ∀ t, WN t 25 (wdp f N) (wdn f N) (wdR f N).2 → FT t 0 (-1) → Off (fun b j => (b = 22 ∧ (j = 1 ∨ j = 2 ∨ j = 3 ∨ j = 6 ∨ j = 7 ∨ j = 8)) ∨ (b = 25 ∧ (j = 1 ∨ j = 2)) ∨ b = 26) σ t → Q 1 t)
    (h0 : 0 < (wdR f N).1.1 → ∀ t, FT t (wdR f N).1.1 (wdR f N).1.2.1 → Off (fun b j => (b = 22 ∧ (j = 1 ∨ j = 2 ∨ j = 3 ∨ j = 6 ∨ j = 7 ∨ j = 8)) ∨ (b = 25 ∧ (j = 1 ∨ j = 2)) ∨ b = 26) σ t → Q 0 t) : Tri (d + 7) M_Wd_readFrom [vA 25, vA 22] σ Q := by
  have hN := hT.2.2.1
  have bad : ∀ (s : PS) (t : SG), 0 < s.1 → wd7 f N = s → FT t s.1 s.2.1 → Off (fun b j => (b = 22 ∧ (j = 1 ∨ j = 2 ∨ j = 3 ∨ j = 6 ∨ j = 7 ∨ j = 8)) ∨ (b = 25 ∧ (j = 1 ∨ j = 2)) ∨ b = 26) σ t → Q 0 t := fun s t hs e hF hO => by
    have hb : 0 < (wd7 f N).1 := by rw [e]; exact hs
    have := h0 (by rw [wdR_bad hb]; exact hb) t
    rw [wdR_bad hb] at this
    rw [← e] at hF
    exact this hF hO
  have pb0 : PB N (0, 0, 0) := ⟨Int.le_refl _, Int.le_refl _, hN.1⟩
  refine t_Wd_readFrom ⟨ob_22, To_takeWord_s (k := 0) (by omega) hT (fun w0 t1 hT1 hO1 => ⟨fun y => by omega, fun _ => ⟨ob_22, ?_⟩⟩) (fun w0 t1 hF hO1 => ⟨fun _ => ?_, fun y => absurd rfl y⟩)⟩
  · have e1 : wd1 f N = adv f N (0, 0, 0) := mst_go rfl (zb_t w0)
    have pb1 : PB N (adv f N (0, 0, 0)) := adv_pb pb0
    have hD1 : Off (fun b j => (b = 22 ∧ (j = 1 ∨ j = 2 ∨ j = 3 ∨ j = 6 ∨ j = 7 ∨ j = 8)) ∨ (b = 25 ∧ (j = 1 ∨ j = 2)) ∨ b = 26) σ t1 := offT Off_rfl hO1
    refine To_seesNumber_s (e := (adv f N (0, 0, 0)).2.2) hT1 (fun k2 l1 l2 hv1 => ⟨fun _ => ⟨ob_22, ?_⟩, fun y => by omega⟩) (fun k2 t2 hF hO2 => ⟨fun y => absurd rfl y, fun _ => ?_⟩) (fun k2 l1 t2 hF hO2 => ⟨fun y => absurd rfl y, fun _ => ?_⟩)
    · have hv : t1 22 1 = tV f N (adv f N (0, 0, 0)).2.2 := hv1
      rw [hv]
      by_cases hpr : isPr (tV f N (adv f N (0, 0, 0)).2.2)
      · have e2 : wd2 f N = adv f N (0, 0, 0) := by
          unfold wd2
          rw [e1, if_neg (by show ¬ (0 : Int) < 0; omega), if_neg (by rw [zb_f (fun y => y.2 hpr)]; exact Bool.false_ne_true)]
        have e3 : wd3 f N = adv f N (adv f N (0, 0, 0)) := by unfold wd3; rw [e2]; exact cns_go rfl k2 l1 l2
        have ep : wdp f N = tV f N (adv f N (0, 0, 0)).2.2 := by unfold wdp; rw [e2]; exact cnv_go rfl k2 l1 l2
        have hpr2 : isPr (wdp f N) := by rw [ep]; exact hpr
        have lim : ∀ (d9 : Nat) (t : SG) (Q9 : Int → SG → Prop), Q9 (grt (wdp f N)) t → Tri (d9 + 1) M_X_sizeLimit [vI (wdp f N)] t Q9 := fun d9 t Q9 hq => by
          unfold isPr at hpr2
          unfold grt at hq
          refine X_sizeLimit_s (fun z => ?_) (fun z => ?_) (fun z => ?_) (fun z => ?_) (fun z => by omega)
          · rw [if_neg (by omega), if_neg (by omega)] at hq; exact hq
          · rw [if_neg (by omega), if_neg (by omega)] at hq; exact hq
          · rw [if_pos z] at hq; exact hq
          · rw [if_neg (by omega), if_pos z] at hq; exact hq
        have hg : 3 ≤ grt (wdp f N) := by unfold grt; split; omega; split <;> omega
        have pb2 : PB N (adv f N (adv f N (0, 0, 0))) := adv_pb pb1
        rw [← ep]
        refine lim _ _ _ ⟨fun _ => ⟨ob_22, To_next_s hT1 (fun t3 hT3 hO3 => ⟨ob_22, ?_⟩)⟩, fun y => by omega⟩
        have hD3 : Off (fun b j => (b = 22 ∧ (j = 1 ∨ j = 2 ∨ j = 3 ∨ j = 6 ∨ j = 7 ∨ j = 8)) ∨ (b = 25 ∧ (j = 1 ∨ j = 2)) ∨ b = 26) σ t3 := offT hD1 hO3
        refine To_takeSign_s (e := (adv f N (adv f N (0, 0, 0))).2.2) hT3 (fun w4 t4 hT4 hO4 => ⟨fun y => by omega, fun _ => ⟨ob_22, ?_⟩⟩) (fun w4 t4 hF hO4 => ⟨fun _ => ?_, fun y => absurd rfl y⟩)
        · have e4 : wd4 f N = adv f N (adv f N (adv f N (0, 0, 0))) := by unfold wd4; rw [e3]; exact mst_go rfl (zb_t w4)
          have pb3 : PB N (adv f N (adv f N (adv f N (0, 0, 0)))) := adv_pb pb2
          have hD4 : Off (fun b j => (b = 22 ∧ (j = 1 ∨ j = 2 ∨ j = 3 ∨ j = 6 ∨ j = 7 ∨ j = 8)) ∨ (b = 25 ∧ (j = 1 ∨ j = 2)) ∨ b = 26) σ t4 := offT hD3 hO4
          refine To_takeWord_s (k := 1) (e := (adv f N (adv f N (adv f N (0, 0, 0)))).2.2) (by omega) hT4 (fun w5 t5 hT5 hO5 => ⟨fun y => by omega, fun _ => ?_⟩) (fun w5 t5 hF hO5 => ⟨fun _ => ?_, fun y => absurd rfl y⟩)
          · have e5 : wd5 f N = adv f N (adv f N (adv f N (adv f N (0, 0, 0)))) := by unfold wd5; rw [e4]; exact mst_go rfl (zb_t w5)
            have pb4 : PB N (adv f N (adv f N (adv f N (adv f N (0, 0, 0))))) := adv_pb pb3
            have hD5 : Off (fun b j => (b = 22 ∧ (j = 1 ∨ j = 2 ∨ j = 3 ∨ j = 6 ∨ j = 7 ∨ j = 8)) ∨ (b = 25 ∧ (j = 1 ∨ j = 2)) ∨ b = 26) σ t5 := offT hD4 hO5
            refine lim _ _ _ ⟨ob_22, ?_⟩
            refine To_seesNumber_s (e := (adv f N (adv f N (adv f N (adv f N (0, 0, 0))))).2.2) hT5 (fun k6 m1 m2 hv6 => ⟨fun _ => ⟨ob_22, ob_25, ?_⟩, fun y => by omega⟩) (fun k6 t6 hF hO6 => ⟨fun y => absurd rfl y, fun _ => ?_⟩) (fun k6 m1 t6 hF hO6 => ⟨fun y => absurd rfl y, fun _ => ?_⟩)
            · have e6 : wd6 f N = adv f N (adv f N (adv f N (adv f N (adv f N (0, 0, 0))))) := by unfold wd6; rw [e5]; exact cns_go rfl k6 m1 m2
              have en : wdn f N = tV f N (adv f N (adv f N (adv f N (adv f N (0, 0, 0))))).2.2 := by unfold wdn; rw [e5]; exact cnv_go rfl k6 m1 m2
              have hpn : PN (wdp f N) (wdn f N) := by
                rw [← en] at m1 m2
                unfold grt at m2
                unfold isPr at hpr2
                unfold PN
                by_cases g5 : wdp f N = 5
                · rw [if_pos g5] at m2; omega
                · rw [if_neg g5] at m2
                  by_cases g7 : wdp f N = 7
                  · rw [if_pos g7] at m2; omega
                  · rw [if_neg g7] at m2; omega
              have hvn : t5 22 1 = wdn f N := by rw [en]; exact hv6
              rw [hvn]
              refine Wd_makeEmpty_s ob_25 hpn ⟨ob_22, ?_⟩
              generalize ht6 : fil (up (up t5 25 1 (wdp f N)) 25 2 (wdn f N)) (25 + 1) 0 125 0 = t6
              have hO6 : Off (fun b j => (b = 25 ∧ (j = 1 ∨ j = 2)) ∨ b = 26) t5 t6 := fun b j hb => by rw [← ht6, fil_ne (by omega), up_ne (by omega), up_ne (by omega)]
              have hW6 : WN t6 25 (wdp f N) (wdn f N) (fun _ _ _ => 0) := ⟨by rw [← ht6, fil_ne (by omega), up_ne (by omega), up_same], by rw [← ht6, fil_ne (by omega), up_same], fun q q0 q1 => by rw [← ht6, fil_in q0 q1, MK_0]⟩
              have hD6 : Off (fun b j => (b = 22 ∧ (j = 1 ∨ j = 2 ∨ j = 3 ∨ j = 6 ∨ j = 7 ∨ j = 8)) ∨ (b = 25 ∧ (j = 1 ∨ j = 2)) ∨ b = 26) σ t6 := Off_trans hD5 (Off_mono hO6 (fun b j q => by omega))
              have hT6 : TC t6 f N (adv f N (adv f N (adv f N (adv f N (0, 0, 0))))).2.2 := TC.fr hT5 (funext fun q => hO6 23 q (by omega)) (fun q _ _ _ _ => hO6 22 q (by omega))
              have pb5 : PB N (adv f N (adv f N (adv f N (adv f N (adv f N (0, 0, 0)))))) := adv_pb pb4
              refine To_next_s hT6 (fun t7 hT7 hO7 => ⟨ob_22, ?_⟩)
              have hD7 : Off (fun b j => (b = 22 ∧ (j = 1 ∨ j = 2 ∨ j = 3 ∨ j = 6 ∨ j = 7 ∨ j = 8)) ∨ (b = 25 ∧ (j = 1 ∨ j = 2)) ∨ b = 26) σ t7 := offT hD6 hO7
              have hW7 := wnT hW6 hO7
              refine To_takeSign_s (e := (adv f N (adv f N (adv f N (adv f N (adv f N (0, 0, 0)))))).2.2) hT7 (fun w8 t8 hT8 hO8 => ⟨fun _ => ?_, fun y => by omega⟩) (fun w8 t8 hF hO8 => ⟨fun y => absurd rfl y, fun _ => ?_⟩)
              · have e7 : wd7 f N = adv f N (adv f N (adv f N (adv f N (adv f N (adv f N (0, 0, 0)))))) := by unfold wd7; rw [e6]; exact mst_go rfl (zb_t w8)
                have pb6 : PB N (adv f N (adv f N (adv f N (adv f N (adv f N (adv f N (0, 0, 0))))))) := adv_pb pb5
                have hR : wdR f N = cps f N (wdp f N) (wdn f N) 601 (adv f N (adv f N (adv f N (adv f N (adv f N (adv f N (0, 0, 0))))))) 0 (fun _ _ _ => 0) := by unfold wdR; rw [e7]
                rw [hR] at h1 h0
                exact Wd_couples hpn 601 _ 0 0 _ t8 rfl pb6 (by have := pb6.2.1; omega) ⟨by omega, by omega⟩ ⟨by omega, by have := pb6.2.1; omega⟩ hT8 (wnT hW7 hO8) (offT hD7 hO8) (fun g => h1 g hpn) h0
              · have e7 : wd7 f N = (bk f N (adv f N (adv f N (adv f N (adv f N (adv f N (0, 0, 0)))))).2.2 2, tS f N (adv f N (adv f N (adv f N (adv f N (adv f N (0, 0, 0)))))).2.2, (adv f N (adv f N (adv f N (adv f N (adv f N (0, 0, 0)))))).2.2) := by unfold wd7; rw [e6]; exact mst_no rfl (zb_f w8)
                exact bad _ t8 (bk_p (by omega)) e7 hF (offF hD7 hO8)
            · have e6 : wd6 f N = (bk f N (adv f N (adv f N (adv f N (adv f N (0, 0, 0))))).2.2 2, tS f N (adv f N (adv f N (adv f N (adv f N (0, 0, 0))))).2.2, (adv f N (adv f N (adv f N (adv f N (0, 0, 0))))).2.2) := by unfold wd6; rw [e5]; exact cns_no rfl k6
              have hb : 0 < (wd6 f N).1 := by rw [e6]; exact bk_p (by omega)
              exact bad _ t6 hb (wd7_6 hb) (by rw [e6]; exact hF) (offF hD5 hO6)
            · have e6 : wd6 f N = (4, tS f N (adv f N (adv f N (adv f N (adv f N (0, 0, 0))))).2.2, (adv f N (adv f N (adv f N (adv f N (0, 0, 0))))).2.2) := by unfold wd6; rw [e5]; exact cns_4 rfl k6 m1
              have hb : 0 < (wd6 f N).1 := by rw [e6]; show (0 : Int) < 4; omega
              exact bad _ t6 hb (wd7_6 hb) (by rw [e6]; exact hF) (offF hD5 hO6)
          · have e5 : wd5 f N = (bk f N (adv f N (adv f N (adv f N (0, 0, 0)))).2.2 2, tS f N (adv f N (adv f N (adv f N (0, 0, 0)))).2.2, (adv f N (adv f N (adv f N (0, 0, 0)))).2.2) := by unfold wd5; rw [e4]; exact mst_no rfl (zb_f w5)
            have hb : 0 < (wd5 f N).1 := by rw [e5]; exact bk_p (by omega)
            exact bad _ t5 hb (wd7_5 hb) (by rw [e5]; exact hF) (offF hD4 hO5)
        · have e4 : wd4 f N = (bk f N (adv f N (adv f N (0, 0, 0))).2.2 2, tS f N (adv f N (adv f N (0, 0, 0))).2.2, (adv f N (adv f N (0, 0, 0))).2.2) := by unfold wd4; rw [e3]; exact mst_no rfl (zb_f w4)
          have hb : 0 < (wd4 f N).1 := by rw [e4]; exact bk_p (by omega)
          exact bad _ t4 hb (wd7_4 hb) (by rw [e4]; exact hF) (offF hD3 hO4)
      · have e2 : wd2 f N = (4, tS f N (adv f N (0, 0, 0)).2.2, (adv f N (0, 0, 0)).2.2) := by
          unfold wd2
          rw [e1, if_neg (by show ¬ (0 : Int) < 0; omega), if_pos (zb_t ⟨k2, hpr⟩)]
        have hb : 0 < (wd2 f N).1 := by rw [e2]; show (0 : Int) < 4; omega
        have h4 : bk f N (adv f N (0, 0, 0)).2.2 4 = 4 := bk_4 (by omega)
        unfold isPr at hpr
        refine X_sizeLimit_s (fun z => by omega) (fun z => by omega) (fun z => by omega) (fun z => by omega) (fun _ => ⟨fun y => absurd rfl y, fun _ => ⟨ob_22, To_blame_s (e := (adv f N (0, 0, 0)).2.2) hT1 (fun t5 q2 q3 _ hO5 => ⟨Or.inl rfl, bad _ t5 hb (wd7_2 hb) ?_ (offF hD1 hO5)⟩)⟩⟩)
        rw [e2]
        exact ⟨q2.trans h4, q3⟩
    · have e2 : wd2 f N = adv f N (0, 0, 0) := by
        unfold wd2
        rw [e1, if_neg (by show ¬ (0 : Int) < 0; omega), if_neg (by rw [zb_f (fun y => k2 y.1)]; exact Bool.false_ne_true)]
      have e3 : wd3 f N = (bk f N (adv f N (0, 0, 0)).2.2 2, tS f N (adv f N (0, 0, 0)).2.2, (adv f N (0, 0, 0)).2.2) := by unfold wd3; rw [e2]; exact cns_no rfl k2
      have hb : 0 < (wd3 f N).1 := by rw [e3]; exact bk_p (by omega)
      exact bad _ t2 hb (wd7_3 hb) (by rw [e3]; exact hF) (offF hD1 hO2)
    · have e2 : wd2 f N = (4, tS f N (adv f N (0, 0, 0)).2.2, (adv f N (0, 0, 0)).2.2) := by
        unfold wd2
        rw [e1, if_neg (by show ¬ (0 : Int) < 0; omega), if_pos (zb_t ⟨k2, fun y => l1 (by unfold isPr at y; omega)⟩)]
      have hb : 0 < (wd2 f N).1 := by rw [e2]; show (0 : Int) < 4; omega
      exact bad _ t2 hb (wd7_2 hb) (by rw [e2]; exact hF) (offF hD1 hO2)
  · have e1 : wd1 f N = (bk f N 0 2, tS f N 0, 0) := mst_no (s := (0, 0, 0)) rfl (zb_f w0)
    have hb : 0 < (wd1 f N).1 := by rw [e1]; exact bk_p (by omega)
    exact bad _ t1 hb (wd7_1 hb) (by rw [e1]; exact hF) (offF Off_rfl hO1)
end CRW
