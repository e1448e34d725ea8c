/-! ===== calls: run, world, script ===== -/
section CRN
variable {d : Nat} {σ : SG} {Q : Int → SG → Prop}
theorem c_run (hI : IVT σ) : CAL d M_X_run M_R_run [] σ := by
  obtain ⟨c, hK, hM, hD, hS⟩ := hI.2.2.1
  have hS' := hS
  rcases hS with ⟨p, q⟩ | ⟨p, q, C, M, o, l, k, j1, j2, j3, j4, j5, j6, j7⟩
  · refine t_X_run ⟨fun y => absurd p y, fun _ => t_X_fail (fun _ t e => t_R_run (fun t1 e1 t2 e2 => ⟨fun y => ?_, fun _ => R_ref (fun t3 h3 hO => ⟨rfl, no_no hI (QX0 hI e) e1 e2 h3 hO⟩)⟩))⟩
    exact absurd (by rw [e2, e1, up_ne (by omega), up_ne (by omega), e, up_ne (by omega)]; exact q) y
  · have p' : σ 10 0 = 1 := p
    have q' : σ 166 635 = 1 := q
    have k' : σ 166 636 = k := j6
    refine t_X_run ⟨fun _ => ?_, fun y => by omega⟩
    refine Ru_perform_s j1 j2.1 j2.2.1 hK hD hI.2.2.2 hI.2.1.2.2.2.2.2.2.2.2.2 j5 j4 hI.2.1.2.2.2.2.2.2.2.2.1.2.2 (fun Y t rg st hU hO => t_X_answer (fun _ t1 e1 => ?_))
    have x166 : ∀ j, t 166 j = σ 166 j := fun j => hO 166 j (by unfold DRun; omega) (by omega)
    refine t_R_run (fun t2 e2 t3 e3 => ?_)
    have h635 : t3 166 635 = 1 := by rw [e3, up_ne (by omega), e2, up_ne (by omega), e1, up_ne (by omega), x166]; exact q'
    refine ⟨fun _ => fun t4 e4 t5 e5 t6 e6 t7 e7 => ?_, fun y => by omega⟩
    have h7 : Off (fun b j => (b = 0 ∧ j = 0) ∨ (b = 161 ∧ (j = 0 ∨ j = 1 ∨ (50 ≤ j ∧ j ≤ 53)))) t t7 := by
      rw [e7, e6, e5, e4, e3, e2, e1]
      exact Off_trans (Off_up (Or.inl ⟨rfl, rfl⟩)) (Off_trans (Off_up (Or.inr ⟨rfl, by omega⟩)) (Off_trans (Off_up (Or.inr ⟨rfl, by omega⟩)) (Off_trans (Off_up (Or.inr ⟨rfl, by omega⟩)) (Off_trans (Off_up (Or.inr ⟨rfl, by omega⟩)) (Off_trans (Off_up (Or.inr ⟨rfl, by omega⟩)) (Off_up (Or.inr ⟨rfl, by omega⟩)))))))
    have y166 : ∀ j, t7 166 j = σ 166 j := fun j => (h7 166 j (by omega)).trans (x166 j)
    have hUM : RUM t7 M k (Y0 c (fun j => σ 115 j)) := by
      refine ⟨⟨hM.fr y166, hD⟩, ⟨?_, ?_, ?_, ?_⟩, fun q c q0 q1 c0 c1 => ?_⟩
      · rw [e7, up_ne (by omega), e6, up_ne (by omega), e5, up_ne (by omega), e4, up_same]; rfl
      · rw [e7, up_ne (by omega), e6, up_ne (by omega), e5, up_same]; rfl
      · rw [e7, up_ne (by omega), e6, up_same]; rfl
      · rw [e7, up_same]; rfl
      · have := j7 q c q0 q1 c0 c1
        rw [show (0 : Int) + 637 + 7 * q + c = 637 + 7 * q + c by omega] at this
        rw [y166]; exact this
    have key := R_doAll_s j1 j2.2.2.2 j2.2.1 3 (d + 8) 0 l (Y0 c (fun j => σ 115 j)) t7 (fun r8 σ8 => (∀ σ9, σ9 = up σ8 184 0 (σ8 161 52) → (∀ σ10, σ10 = up σ9 184 1 (σ9 161 53) → (∀ σ11, σ11 = up σ10 161 49 1 → (t 114 1 = σ11 161 51 ∧ IVT σ11))))) (Int.le_refl _) (Int.le_refl _) j2.1 (Int.le_refl _) j1.1.2.1 j1.1.2.2.2 (fun y y0 y1 => (j1.2.2.2.2.1 y y0 y1).2.1) rfl ⟨⟨Int.le_refl _, by show (0 : Int) ≤ 300; omega⟩, Int.le_refl _, Int.le_refl _⟩ hUM (fun Y' t8 rg' hU8 hs' _ _ hO8 t9 e9 t10 e10 t11 e11 => ?_)
    · have e0 : C (yb (Y0 c (fun j => σ 115 j))) 6 = 0 := j1.1.2.2.1
      rw [e0, j1.1.1] at key
      rw [y166, k']
      exact key
    · have st' : rstp l Y' := by unfold rstp; omega
      have eY := rg'.det rg st' st
      rw [eY] at hU8
      have n11 : Off (fun b j => (b = 184 ∧ (j = 0 ∨ j = 1)) ∨ (b = 161 ∧ j = 49)) t8 t11 := by
        rw [e11, e10, e9]
        exact Off_trans (Off_up (Or.inl ⟨rfl, Or.inl rfl⟩)) (Off_trans (Off_up (Or.inl ⟨rfl, Or.inr rfl⟩)) (Off_up (Or.inr ⟨rfl, rfl⟩)))
      have z52 : t8 161 52 = ym Y := hU8.2.1.2.1
      have z53 : t9 161 53 = yf Y := by rw [e9, up_ne (by omega)]; exact hU8.2.1.2.2.1
      have hOt : Off (fun b j => (b = 0 ∧ j = 0) ∨ (b = 161 ∧ (j = 0 ∨ j = 1 ∨ (24 ≤ j ∧ j ≤ 27) ∨ j = 39 ∨ j = 43 ∨ (45 ≤ j ∧ j ≤ 47) ∨ (49 ≤ j ∧ j ≤ 65))) ∨ (b = 166 ∧ 0 ≤ j ∧ j < 635) ∨ b = 168 ∨ (170 ≤ b ∧ b ≤ 194)) t t11 := Off_trans (Off_mono h7 (fun b j q => by omega)) (Off_trans (Off_mono hO8 (fun b j q => by unfold DRm DNm at q; omega)) (Off_mono n11 (fun b j q => by omega)))
      have e : ∀ b j, ¬ ((b = 0 ∧ j = 0) ∨ (b = 161 ∧ (j = 0 ∨ j = 1 ∨ (24 ≤ j ∧ j ≤ 27) ∨ j = 39 ∨ j = 43 ∨ (45 ≤ j ∧ j ≤ 47) ∨ (49 ≤ j ∧ j ≤ 65))) ∨ (b = 166 ∧ 0 ≤ j ∧ j < 635) ∨ b = 168 ∨ (170 ≤ b ∧ b ≤ 194)) → ¬ DRun b j → (¬ (b = 8 ∨ b = 14 ∨ b = 16 ∨ b = 18 ∨ b = 20) ∨ (0 ≤ j ∧ j < 125)) → t11 b j = σ b j := fun b j q1 q2 q3 => (hOt b j q1).trans (hO b j q2 q3)
      have f : ∀ b j, DRun b j → t11 b j = t b j := fun b j q => hOt b j (by unfold DRun at q; omega)
      refine ⟨?_, ?_, ?_, ?_, ?_⟩
      · rw [n11 161 51 (by omega), hU8.2.1.1]; exact hU.2.2.2.1.2.1
      · have a1 : t11 0 0 = 0 := by rw [n11 0 0 (by omega), hO8 0 0 (by unfold DRm DNm; omega), e7, up_ne (by omega), e6, up_ne (by omega), e5, up_ne (by omega), e4, up_ne (by omega), e3, up_ne (by omega), e2, up_ne (by omega), e1, up_same]
        have a2 : t11 161 0 = 0 := by rw [n11 161 0 (by omega), hO8 161 0 (by unfold DRm DNm; omega), e7, up_ne (by omega), e6, up_ne (by omega), e5, up_ne (by omega), e4, up_ne (by omega), e3, up_same]
        rw [a1, a2]
      · refine hI.2.1.gen (fun b j => b = 114 ∨ b = 115 ∨ (b = 161 ∧ j = 49) ∨ b = 184) (fun b j q1 q2 => e b j (by unfold PR0 at q1; omega) (by unfold PR0 at q1; unfold DRun; omega) (by unfold PR0 at q1; omega)) (Or.inr (fun b j q => by omega)) (Or.inr (fun b j q => by omega)) (Or.inr (fun b j q => by omega)) (Or.inr (fun b j q => by omega)) (Or.inr (fun b j q => by omega)) (Or.inr (fun b j q => by omega)) (Or.inr (fun b j q => by omega)) (Or.inr (fun b j q => by omega)) (Or.inl ⟨?_, fun _ => ⟨?_, ?_⟩, fun j j0 j1 => ?_⟩) (fun j => by omega)
        · rw [f 114 0 (by unfold DRun; omega), e11, up_same]; exact hU.2.2.2.1.1
        · rw [f 114 2 (by unfold DRun; omega), e11, up_ne (by omega), e10, up_ne (by omega), e9, up_same, z52]; exact hU.2.2.2.1.2.2.1
        · rw [f 114 3 (by unfold DRun; omega), e11, up_ne (by omega), e10, up_same, z53]; exact hU.2.2.2.1.2.2.2
        · rw [f 115 j (by unfold DRun; omega), (hU.2.2.2.2 j j0 j1).1]; exact (hU.2.2.2.2 j j0 j1).2
      · refine ⟨yc Y, hU.1.1.off (OffN_of hOt) (fun b j q1 q2 => by omega), hU8.1.1.fr (fun j => n11 166 j (by omega)), hU.1.2, hS'.fr (fun j _ _ => e 10 j (by omega) (by unfold DRun; omega) (by omega)) (fun j _ _ => e 11 j (by omega) (by unfold DRun; omega) (by omega)) (fun j _ _ => e 166 j (by omega) (by unfold DRun; omega) (by omega))⟩
      · exact hU.2.1.1.off hOt (fun y hy => by have := ech_list hy; omega)
theorem c_world {x : Int} (hI : IVT σ) : CAL d M_X_world M_R_world [vI x] σ := by
  obtain ⟨c, hK, hM, hD, hS⟩ := hI.2.2.1
  have pf := hI.2.1.2.2.2.2.2.1
  have hB : BYT (σ 23) := fun q q0 q1 => (pf.1 q q0 q1).2
  have r5 : ∀ t, t = up σ 0 0 5 → (x < 0 ∨ σ 22 0 < x) → Tri (d + 30) M_R_world [vA 161, vI x] t (fun r2 u2 => -1 = r2 ∧ IVT u2) := fun t e hx => by
    have e8 : t 161 8 = σ 22 0 := by rw [e, up_ne (by omega)]; exact pf.2.1.symm
    exact R_world_s (f := σ 23) hB (fun q q0 q1 => by rw [e, up_ne (by omega)]; exact ((pf.1 q q0 q1).1).symm) (by rw [e8]; exact pf.2.2) (fun _ t2 h2 hO => ⟨rfl, IVT_q hI (QX0 hI e) (Off_mono hO (fun b j q => by unfold DR; omega)) h2⟩) (fun a b => by rw [e8] at b; omega) (fun a b => by rw [e8] at b; omega)
  refine t_X_world (fun _ => ⟨fun z => t_X_fail (fun _ t e => r5 t e (Or.inl z)), fun z => ⟨fun z2 => ?_, fun z2 => t_X_fail (fun _ t e => r5 t e (Or.inr z2))⟩⟩)
  have pf2 := pf.2.2
  refine To_begin_s (f := σ 23) rfl ⟨z, by omega⟩ (fun t1 hT hO1 => Wd_readFrom_s hT (fun g1 g2 t2 hWN hF hO2 => ?_) (fun g1 t2 hF hO2 => ?_))
  · intro t3 e3
    refine ⟨fun _ => Wd_copyFrom_s ob_7 ob_25 (t_X_answer (fun _ t e => ?_)), fun y => by omega⟩
    have hO3 : Off (fun b j => b = 22 ∨ b = 25 ∨ b = 26) σ t3 := Off_trans (Off_mono hO1 (fun b j q => Or.inl q.1)) (Off_trans (Off_mono hO2 (fun b j q => by omega)) (by rw [e3]; exact Off_up (Or.inl rfl)))
    have v25 : ∀ j, t3 25 j = t2 25 j := fun j => by rw [e3, up_ne (by omega)]
    have v26 : ∀ j, t3 26 j = t2 26 j := fun j => by rw [e3, up_ne (by omega)]
    have hO4 : Off (fun b j => (b = 0 ∧ j = 0) ∨ (7 ≤ b ∧ b ≤ 8)) t3 t := fun b j q => by rw [e, up_ne (by omega), cpy_ne (by omega), up_ne (by omega), up_ne (by omega)]
    have u1 : t 7 1 = wdp (σ 23) x := by rw [e, up_ne (by omega), cpy_ne (by omega), up_ne (by omega), up_same, v25]; exact hWN.1
    have u2 : t 7 2 = wdn (σ 23) x := by rw [e, up_ne (by omega), cpy_ne (by omega), up_same, v25]; exact hWN.2.1
    have u3 : ∀ q, 0 ≤ q → q < 125 → t (7 + 1) q = MK (wdp (σ 23) x) (wdn (σ 23) x) (wdR (σ 23) x).2 q := fun q q0 q1 => by
      rw [e, up_ne (by omega), cpy_in (by omega) (by omega), up_ne (by omega), up_ne (by omega), show (25 : Int) + 1 = 26 from rfl, show (0 : Int) + (q - 0) = q by omega, v26]; exact hWN.2.2 q q0 q1
    have hOt : Off (fun b j => (b = 0 ∧ j = 0) ∨ (7 ≤ b ∧ b ≤ 8) ∨ b = 22 ∨ b = 25 ∨ b = 26) σ t := Off_trans (Off_mono hO3 (fun b j q => by omega)) (Off_mono hO4 (fun b j q => by omega))
    have e8 : t 161 8 = σ 22 0 := by rw [hOt 161 8 (by omega)]; exact pf.2.1.symm
    have w22 : t 22 0 = 0 := by rw [hO4 22 0 (by omega), e3, up_same]
    have w2 : t 22 2 = 0 := by rw [hO4 22 2 (by omega), e3, up_ne (by omega)]; exact hF.1
    have w3 : t 22 3 = -1 := by rw [hO4 22 3 (by omega), e3, up_ne (by omega)]; exact hF.2
    have hK3 : KC t 6 (ptW c 0 (wdp (σ 23) x) (wdn (σ 23) x) (MK (wdp (σ 23) x) (wdn (σ 23) x) (wdR (σ 23) x).2)) := by
      have k3 : KC (up t3 0 0 0) 6 c := hK.off (OffN_of (Off_trans (Off_mono hO3 (fun b j q => (Or.inr q : b = 0 ∨ b = 22 ∨ b = 25 ∨ b = 26))) (Off_up (Or.inl rfl)))) (fun b j q1 q2 => by omega)
      refine KC_w0 k3 u1 u2 u3 (OffN_of (fun b j q => ?_))
      by_cases y : b = 0 ∧ j = 0
      · rw [y.1, y.2, up_same, e, up_same]
      · rw [up_ne (by omega)]; exact hO4 b j (by omega)
    have ev : (up (cpy (up (up t3 7 1 (t3 25 1)) 7 2 (t3 25 2)) (25 + 1) 0 (7 + 1) 0 125) 0 0 0) 7 2 = wdn (σ 23) x := by rw [← e]; exact u2
    rw [up_ne (by omega)] at ev
    rw [ev]
    refine R_world_s (f := σ 23) hB (fun q q0 q1 => by rw [hOt 165 q (by omega)]; exact ((pf.1 q q0 q1).1).symm) (by rw [e8]; exact pf.2.2) (fun a => by rw [e8] at a; omega) (fun _ _ _ _ t5 a0 a8 a10 a11 m0 m1 m2 hO5 => ⟨rfl, ?_⟩) (fun _ _ y => by omega)
    have hO05 : Off (fun b j => (b = 0 ∧ j = 0) ∨ (7 ≤ b ∧ b ≤ 8) ∨ b = 22 ∨ b = 25 ∨ b = 26 ∨ (b = 161 ∧ (j = 0 ∨ j = 1 ∨ (8 ≤ j ∧ j ≤ 18))) ∨ b = 167 ∨ (b = 166 ∧ 0 ≤ j ∧ j < 127)) σ t5 := Off_trans (Off_mono hOt (fun b j q => by omega)) (Off_mono hO5 (fun b j q => by omega))
    refine ⟨?_, ?_, ?_, ?_⟩
    · rw [hO5 0 0 (by omega), e, up_same, a0]
    · refine hI.2.1.gen (fun b j => (b = 22 ∧ (j = 0 ∨ j = 2 ∨ j = 3)) ∨ (b = 161 ∧ (j = 8 ∨ j = 10 ∨ j = 11))) (fun b j q1 q2 => hO05 b j (by unfold PR0 at q1; omega)) (Or.inr (fun b j q => by omega)) (Or.inr (fun b j q => by omega)) (Or.inr (fun b j q => by omega)) (Or.inr (fun b j q => by omega)) (Or.inr (fun b j q => by omega)) (Or.inl ⟨fun q q0 q1 => ?_, ?_⟩) (Or.inl ⟨?_, ?_⟩) (Or.inr (fun b j q => by omega)) (Or.inr (fun b j q => by omega)) (fun j => by omega)
      · rw [hO05 23 q (by omega), hO05 165 q (by omega)]; exact pf.1 q q0 q1
      · rw [hO5 22 0 (by omega), w22, a8]; omega
      · rw [hO5 22 2 (by omega), w2, a10]
      · rw [hO5 22 3 (by omega), w3, a11]
    · have hMt : KM t 0 c := hM.fr (fun j => hOt 166 j (by omega))
      exact ⟨_, hK3.off (OffN_of hO5) (fun b j q1 q2 => by omega), KM_pt0 hMt ⟨m0, m1, m2, TW_MK g2⟩ (fun j jj => hO5 166 j (by omega)), DC_pt hD (TW_MK g2) (by omega) (by omega), hS.fr (fun j _ _ => hO05 10 j (by omega)) (fun j _ _ => hO05 11 j (by omega)) (fun j _ _ => hO05 166 j (by omega))⟩
    · exact hI.2.2.2.off hO05 (fun y hy => by have := ech_list hy; omega)
  · intro t3 e3
    refine ⟨fun y => absurd rfl y, fun _ => t_X_fail (fun _ t e => ?_)⟩
    have hOt : Off (fun b j => (b = 0 ∧ j = 0) ∨ b = 22 ∨ b = 25 ∨ b = 26) σ t := Off_trans (Off_mono hO1 (fun b j q => Or.inr (Or.inl q.1))) (Off_trans (Off_mono hO2 (fun b j q => by omega)) (by rw [e, e3]; exact Off_trans (Off_up (Or.inr (Or.inl rfl))) (Off_up (Or.inl ⟨rfl, rfl⟩))))
    have e8 : t 161 8 = σ 22 0 := by rw [hOt 161 8 (by omega)]; exact pf.2.1.symm
    have w22 : t 22 0 = 0 := by rw [e, up_ne (by omega), e3, up_same]
    have w2 : t 22 2 = (wdR (σ 23) x).1.1 := by rw [e, up_ne (by omega), e3, up_ne (by omega)]; exact hF.1
    have w3 : t 22 3 = (wdR (σ 23) x).1.2.1 := by rw [e, up_ne (by omega), e3, up_ne (by omega)]; exact hF.2
    refine R_world_s (f := σ 23) hB (fun q q0 q1 => by rw [hOt 165 q (by omega)]; exact ((pf.1 q q0 q1).1).symm) (by rw [e8]; exact pf.2.2) (fun a => by rw [e8] at a; omega) (fun _ _ y => by omega) (fun _ _ _ t5 a0 a8 a10 a11 hO5 => ⟨rfl, ?_⟩)
    have hO05 : Off (fun b j => (b = 0 ∧ j = 0) ∨ b = 22 ∨ b = 25 ∨ b = 26 ∨ (b = 161 ∧ (j = 0 ∨ j = 1 ∨ (8 ≤ j ∧ j ≤ 18))) ∨ b = 167) σ t5 := Off_trans (Off_mono hOt (fun b j q => by omega)) (Off_mono hO5 (fun b j q => by omega))
    refine IVT_g hI ?_ (fun b j q1 q2 _ => hO05 b j (by omega)) (fun j _ => hO05 166 j (by omega)) (fun y j q1 q2 => hO05 y j (by omega)) (by rw [hO5 0 0 (by omega), e, up_same, a0])
    refine hI.2.1.gen (fun b j => (b = 22 ∧ (j = 0 ∨ j = 2 ∨ j = 3)) ∨ (b = 161 ∧ (j = 8 ∨ j = 10 ∨ j = 11))) (fun b j q1 q2 => hO05 b j (by unfold PR0 at q1; omega)) (Or.inr (fun b j q => by omega)) (Or.inr (fun b j q => by omega)) (Or.inr (fun b j q => by omega)) (Or.inr (fun b j q => by omega)) (Or.inr (fun b j q => by omega)) (Or.inl ⟨fun q q0 q1 => ?_, ?_⟩) (Or.inl ⟨?_, ?_⟩) (Or.inr (fun b j q => by omega)) (Or.inr (fun b j q => by omega)) (fun j => by omega)
    · rw [hO05 23 q (by omega), hO05 165 q (by omega)]; exact pf.1 q q0 q1
    · rw [hO5 22 0 (by omega), w22, a8]; omega
    · rw [hO5 22 2 (by omega), w2, a10]
    · rw [hO5 22 3 (by omega), w3, a11]
end CRN
