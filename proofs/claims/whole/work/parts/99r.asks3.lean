/-! ===== calls: failing, power, keep, take ===== -/
section CA3
variable {d : Nat} {σ : SG} {Q : Int → SG → Prop} {c : Int → Int}
theorem R_failing_l {x p n : Int} {T : Int → Int} (hR : RW σ p n T)
    (h1 : ∀ r t, FB p n T r → 0 ≤ r → Off (fun b j => (175 ≤ b ∧ b ≤ 178) ∨ b = 186) σ t → (x ≠ 0 → (x ≠ 1 → Q (r % 5) t) ∧ (x = 1 → Q (r / 5 % 5) t)) ∧ (x = 0 → Q (r / 25) t))
    (h0 : ∀ t, FB p n T (-1) → Off (fun b j => (175 ≤ b ∧ b ≤ 178) ∨ b = 186) σ t → Tri (d + 6) M_R_refuse [vA 161, vI 8] t (fun r2 σ2 => Q r2 σ2)) : L (d + 7) M_R_failing 34 [vA 161, vI x, vI 0, vU, vU] [] σ Q := by
  obtain ⟨b1, b2, b3, b4⟩ := hR.1.1.b
  have rw' : ∀ {s : SG}, Off (fun b j => (175 ≤ b ∧ b ≤ 178) ∨ b = 186) σ s → RW s p n T := fun hO => hR.fr (fun k _ _ => hO 161 k (by omega)) (fun k => hO 166 k (by omega)) (fun k => hO 196 k (by omega))
  refine loop_up (P := fun i s => L (d + 7) M_R_failing 34 [vA 161, vI x, vI i, vU, vU] [] s Q) (fun i s => (0 ≤ i ∧ ∀ i' j' k', 0 ≤ i' → i' < j' → j' < k' → k' < n → i' < i → Jz p n T i' j' k') ∧ Off (fun b j => (175 ≤ b ∧ b ≤ 178) ∨ b = 186) σ s) n ?_ ?_ 0 (by omega) σ ⟨⟨by omega, fun _ _ _ _ _ _ _ _ => by omega⟩, Off_rfl⟩
  · rintro s ⟨⟨_, hz⟩, hO⟩
    have e27 := (rw' hO).2.2.1
    exact s_R_failing_34 ⟨fun _ => h0 s (Or.inl ⟨rfl, fun i j k g1 g2 g3 g4 => hz i j k g1 g2 g3 g4 (by omega)⟩) hO, fun q => by omega⟩
  · rintro i s hi ⟨⟨hi0, hz⟩, hO⟩ ih
    have e27 := (rw' hO).2.2.1
    refine s_R_failing_34 ⟨fun q => by omega, fun _ => ?_⟩
    rw [w32_id (by omega) (by omega)]
    refine loop_up (P := fun j s => L (d + 7) M_R_failing 46 [vA 161, vI x, vI i, vI j, vU] [] s Q) (fun j s => (i + 1 ≤ j ∧ ∀ j' k', i < j' → j' < k' → k' < n → j' < j → Jz p n T i j' k') ∧ Off (fun b j => (175 ≤ b ∧ b ≤ 178) ∨ b = 186) σ s) n ?_ ?_ (i + 1) (by omega) s ⟨⟨by omega, fun _ _ _ _ _ _ => by omega⟩, hO⟩
    · rintro s2 ⟨⟨_, hz2⟩, hO2⟩
      have e27 := (rw' hO2).2.2.1
      refine s_R_failing_46 ⟨fun _ => ?_, fun q => by omega⟩
      rw [w32_id (by omega) (by omega)]
      refine ih s2 ⟨⟨by omega, fun i' j' k' g1 g2 g3 g4 g5 => ?_⟩, hO2⟩
      by_cases hii : i' = i
      · subst hii; exact hz2 j' k' g2 g3 g4 (by omega)
      · exact hz i' j' k' g1 g2 g3 g4 (by omega)
    · rintro j s2 hj ⟨⟨hj0, hz2⟩, hO2⟩ ih2
      have e27 := (rw' hO2).2.2.1
      refine s_R_failing_46 ⟨fun q => by omega, fun _ => ?_⟩
      rw [w32_id (by omega) (by omega)]
      refine loop_up (P := fun k s => L (d + 7) M_R_failing 59 [vA 161, vI x, vI i, vI j, vI k] [] s Q) (fun k s => (j + 1 ≤ k ∧ ∀ k', j < k' → k' < n → k' < k → Jz p n T i j k') ∧ Off (fun b j => (175 ≤ b ∧ b ≤ 178) ∨ b = 186) σ s) n ?_ ?_ (j + 1) (by omega) s2 ⟨⟨by omega, fun _ _ _ _ => by omega⟩, hO2⟩
      · rintro s3 ⟨⟨_, hz3⟩, hO3⟩
        have e27 := (rw' hO3).2.2.1
        refine s_R_failing_59 ⟨fun _ => ?_, fun q => by omega⟩
        rw [w32_id (by omega) (by omega)]
        refine ih2 s3 ⟨⟨by omega, fun j' k' g2 g3 g4 g5 => ?_⟩, hO3⟩
        by_cases hjj : j' = j
        · subst hjj; exact hz3 k' g3 g4 (by omega)
        · exact hz2 j' k' g2 g3 g4 (by omega)
      · rintro k s3 hk ⟨⟨hk0, hz3⟩, hO3⟩ ih3
        have hR3 := rw' hO3
        have e27 := hR3.2.2.1
        refine s_R_failing_59 ⟨fun q => by omega, fun _ => R_breaks_s hR3 hi0 hi (by omega) (by omega) (by omega) (by omega) (fun hJ s4 hO4 => ⟨fun q => by omega, fun _ => ?_⟩) (fun hJ s4 hO4 => ⟨fun _ => ?_, fun q => absurd rfl q⟩)⟩
        · have hf : FB p n T (25 * i + 5 * j + k) := by
            refine Or.inr ⟨i, j, k, hi0, by omega, by omega, hk, rfl, hJ, fun i' j' k' g1 g2 g3 g4 g5 => ?_⟩
            by_cases hii : i' = i
            · subst hii
              by_cases hjj : j' = j
              · subst hjj; exact hz3 k' g3 g4 (by omega)
              · exact hz2 j' k' g2 g3 g4 (by omega)
            · exact hz i' j' k' g1 g2 g3 g4 (by omega)
          have g := h1 (25 * i + 5 * j + k) s4 hf (by omega) (Off_trans hO3 hO4)
          rw [show (25 * i + 5 * j + k) % 5 = k by omega, show (25 * i + 5 * j + k) / 5 % 5 = j by omega, show (25 * i + 5 * j + k) / 25 = i by omega] at g
          exact g
        · rw [w32_id (by omega) (by omega)]
          refine ih3 s4 ⟨⟨by omega, fun k' g3 g4 g5 => ?_⟩, Off_trans hO3 hO4⟩
          by_cases hkk : k' = k
          · subst hkk; exact hJ
          · exact hz3 k' g3 g4 (by omega)
theorem c_failing {x : Int} (hI : IVT σ) : CAL d M_X_failing M_R_failing [vI x] σ := by
  obtain ⟨c, hK, hM, hD, hS⟩ := hI.2.2.1
  have hW := WD7 hK hD
  obtain ⟨b1, b2, b3, b4⟩ := hW.pn.b
  have lw : ∀ {t t2 : SG}, Off (fun b j => (175 ≤ b ∧ b ≤ 178) ∨ b = 186) t t2 → Off DR t t2 := fun h => Off_mono h (fun b j w => by unfold DR; omega)
  have ref : ¬ (0 ≤ x ∧ x ≤ 2) → Tri (d + 29) M_X_fail [vA 0, vI 5] (nrm σ) (fun r u => Tri (d + 30) M_R_failing [vA 161, vI x] u (fun r2 u2 => r = r2 ∧ IVT u2)) := fun hn => t_X_fail (fun _ t e => by
    have hx := QXm hI e
    exact t_R_failing (fun _ t3 e3 t4 e4 => R_now e3 e4 (KM_qx hM hx) hD (fun t5 hR hO h0 hM5 => R_isIn_s (fun y1 y2 => absurd ⟨y1, y2⟩ hn) (fun _ => ⟨fun y => absurd rfl y, fun _ => R_ref (fun t6 h6 hO6 => ⟨rfl, IVT_q hI hx (Off_trans hO hO6) h6⟩)⟩))))
  refine Tri_n (t_X_failing (fun _ => ⟨fun z => ref (by omega), fun z => ⟨fun z2 => Wd_firstBreak_s hW.wc (fun r hr => ?_), fun z2 => ref (by omega)⟩⟩))
  rw [hW.2.1, hW.2.2.1, hW.2.2.2.1] at hr
  have rb : r ≤ 125 := by
    rcases hr with h | ⟨i, j, k, h1, h2, h3, h4, h5, _⟩
    · omega
    · omega
  have mod : ∀ (v : Int) t, 0 ≤ r → QX σ t 0 → v = (if x = 0 then r / 25 else if x = 1 then r / 5 % 5 else r % 5) → Tri (d + 30) M_R_failing [vA 161, vI x] t (fun r2 u2 => v = r2 ∧ IVT u2) := fun v t r0 hx hv => by
    refine t_R_failing (fun _ t3 e3 t4 e4 => R_now e3 e4 (KM_qx hM hx) hD (fun t5 hR hO h0 hM5 => R_isIn_s (fun _ _ => ⟨fun _ => R_failing_l hR (fun r2 t6 hr2 r20 hO6 => ?_) (fun t6 hr2 => by have := FB_uniq (by omega) hr hr2; omega), fun y => by omega⟩) (fun y => by omega)))
    have er := FB_uniq (by omega) hr hr2
    have hi : IVT t6 := IVT_q hI hx (Off_trans hO (lw hO6)) ((hO6 161 0 (by omega)).trans h0)
    refine ⟨fun q => ⟨fun q1 => ⟨?_, hi⟩, fun q1 => ⟨?_, hi⟩⟩, fun q => ⟨?_, hi⟩⟩
    · rw [hv, if_neg q, if_neg q1, er]
    · rw [hv, if_neg q, if_pos q1, er]
    · rw [hv, if_pos q, er]
  refine ⟨fun r0 => ?_, fun r0 => t_X_fail (fun _ t e => ?_)⟩
  · rw [Int.tmod_eq_emod_of_nonneg r0, Int.tdiv_eq_ediv_of_nonneg r0, Int.tdiv_eq_ediv_of_nonneg r0, w32_id (x := r / 5) (by omega) (by omega), w32_id (x := r / 25) (by omega) (by omega), Int.tmod_eq_emod_of_nonneg (by omega : 0 ≤ r / 5)]
    refine ⟨fun q => ⟨fun q1 => t_X_answer (fun _ t e => mod _ t r0 (QXm hI e) ?_), fun q1 => t_X_answer (fun _ t e => mod _ t r0 (QXm hI e) ?_)⟩, fun q => t_X_answer (fun _ t e => mod _ t r0 (QXm hI e) ?_)⟩
    · rw [if_neg q, if_neg q1]
    · rw [if_neg q, if_pos q1]
    · rw [if_pos q]
  · have hx := QXm hI e
    refine t_R_failing (fun _ t3 e3 t4 e4 => R_now e3 e4 (KM_qx hM hx) hD (fun t5 hR hO h0 hM5 => R_isIn_s (fun _ _ => ⟨fun _ => R_failing_l hR (fun r2 t6 hr2 r20 hO6 => by have := FB_uniq (by omega) hr hr2; omega) (fun t6 hr2 hO6 => R_ref (fun t7 h7 hO7 => ⟨rfl, IVT_q hI hx (Off_trans hO (Off_trans (lw hO6) hO7)) h7⟩)), fun y => by omega⟩) (fun y => by omega)))
theorem mtx_in {p n : Int} {T v : Int → Int} {j k : Int} (hp : 2 ≤ p) : 0 ≤ mtx p n T v j k ∧ mtx p n T v j k < p := brIn hp
theorem c_power {x : Int} (hI : IVT σ) : CAL d M_X_power M_R_power [vI x] σ := by
  obtain ⟨c, hK, hM, hD, hS⟩ := hI.2.2.1
  have hW := WD7 hK hD
  obtain ⟨b1, b2, b3, b4⟩ := hW.pn.b
  have hS0 := ST_n hI.2.2.2
  refine Tri_n (t_X_power (fun _ => X_isVector_s hW (fun x0 x1 => ⟨fun _ => Me_vanishingPower_s hW (by omega) x0 (fun r t1 hr hO1 => ?_), fun y => by omega⟩) (fun hn => ⟨fun y => absurd rfl y, fun _ => t_X_fail (fun _ t e => ?_)⟩)))
  · have hS1 : ST t1 := hS0.off hO1 (fun e he => by have := ech_list he; omega)
    -- the model's loop
    have mod : ∀ (v s : Int) t, QX σ t s → (r ≠ 0 → v = r ∧ s = 0) → (r = 0 → v = -1 ∧ s = 8) → Tri (d + 30) M_R_power [vA 161, vI x] t (fun r2 u2 => v = r2 ∧ IVT u2) := fun v s t hx hv hv0 => by
      refine t_R_power (fun _ t3 e3 t4 e4 => R_now e3 e4 (KM_qx hM hx) hD (fun t5 hR hO h0 hM5 => R_isVector_s hR (fun _ _ => ⟨fun _ => R_matrixOf_s hR x0 (fun t6 hm6 hO6 => R_copySpan_s kd_190 kd_191 (by omega) (by omega) (fun t7 hc7 hO7 => ?_)), fun y => by omega⟩) (fun y => absurd y (by omega))))
      have od : ∀ {s1 s2 : SG}, Off (fun b j => b = 191 ∨ b = 192) s1 s2 → Off DM s1 s2 := fun h => Off_mono h (fun b j q => by unfold DM; omega)
      have hO57 : Off DM t5 t7 := Off_trans hO6 (od (Off_mono hO7 (fun b j q => by omega)))
      refine loop_up (P := fun k s2 => L (d + 30) M_R_power 48 [vA 161, vU, vI k] [] s2 (fun r2 u2 => v = r2 ∧ IVT u2)) (fun k s2 => 1 ≤ k ∧ MT s2 191 (c 1) (mpw (c 0) (c 1) (mtx (c 0) (c 1) (TBc c 0) (dg (c 0) x)) (k - 1).toNat) ∧ MT s2 190 (c 1) (mtx (c 0) (c 1) (TBc c 0) (dg (c 0) x)) ∧ (∀ e : Nat, (e : Int) < k - 1 → ¬ Zm (c 1) (mpw (c 0) (c 1) (mtx (c 0) (c 1) (TBc c 0) (dg (c 0) x)) e)) ∧ Off DM t5 s2) (c 1 + 1) ?_ ?_ 1 (by omega) t7 ⟨by omega, fun i j i0 i1 j0 j1 => ?_, fun i j i0 i1 j0 j1 => ?_, fun e he => by omega, hO57⟩
      · rintro s2 ⟨k1, m1, m2, m3, o2⟩
        have e27 : s2 161 27 = c 1 := (o2 161 27 (by unfold DM; omega)).trans hR.2.2.1
        refine s_R_power_48 ⟨fun _ => R_ref (fun t8 h8 hO8 => ?_), fun y => by omega⟩
        have hr0 : r = 0 := LPw_uniq hr (Or.inl ⟨rfl, fun e he => m3 e (by omega)⟩)
        obtain ⟨hv1, hv2⟩ := hv0 hr0
        exact ⟨hv1, IVT_q hI hx (Off_trans hO (Off_trans (Off_dm o2) hO8)) (by rw [h8, hv2])⟩
      · rintro k s2 hk ⟨k1, m1, m2, m3, o2⟩ next
        have hR2 : RW s2 (c 0) (c 1) (TBc c 0) := hR.fr (fun k _ _ => o2 161 k (by unfold DM; omega)) (fun k => o2 166 k (by unfold DM; omega)) (fun k => o2 196 k (by unfold DM; omega))
        have e27 := hR2.2.2.1
        refine s_R_power_48 ⟨fun y => by omega, fun _ => R_isZero_s hR2 kd_191 m1 (fun hz => ⟨fun y => by omega, fun _ => ?_⟩) (fun hz => ⟨fun _ => ?_, fun y => absurd rfl y⟩)⟩
        · have hrk : r = k := LPw_uniq hr (Or.inr ⟨k1, by omega, hz, m3⟩)
          obtain ⟨hv1, hv2⟩ := hv (by omega)
          exact ⟨by rw [hv1, hrk], IVT_m hI hx hO o2 (by rw [hv2]; exact h0)⟩
        · have mb := mpw_in (p := c 0) (n := c 1) (M := mtx (c 0) (c 1) (TBc c 0) (dg (c 0) x)) b1 (fun i j _ _ _ _ => mtx_in b1)
          refine R_times_s hR2 kd_191 kd_190 kd_192 (by omega) (by omega) (by omega) m1 m2 (mb _) (fun i j _ _ _ _ => mtx_in b1) (fun s3 g3 o3 => R_copySpan_s kd_192 kd_191 (by omega) (by omega) (fun s4 g4 o4 => ?_))
          rw [w32_id (by omega) (by omega)]
          refine next s4 ⟨by omega, fun i j i0 i1 j0 j1 => ?_, fun i j i0 i1 j0 j1 => ?_, fun e he => ?_, Off_trans o2 (Off_trans (od (Off_mono o3 (fun b j q => by omega))) (od (Off_mono o4 (fun b j q => by omega))))⟩
          · rw [g4 _ (by omega) (by omega), g3 i j i0 i1 j0 j1, show (k + 1 - 1).toNat = (k - 1).toNat + 1 by omega]; rfl
          · rw [o4 190 _ (by omega), o3 190 _ (by omega)]; exact m2 i j i0 i1 j0 j1
          · by_cases qe : (e : Int) = k - 1
            · rw [show e = (k - 1).toNat by omega]; exact hz
            · exact m3 e (by omega)
      · rw [hc7 _ (by omega) (by omega)]; exact hm6 i j i0 i1 j0 j1
      · rw [hO7 190 _ (by omega)]; exact hm6 i j i0 i1 j0 j1
    exact ⟨fun q => t_X_answer (fun _ t e => mod r 0 t (QXn hS1 hO1 (fun b j q => by unfold DX; omega) e) (fun _ => ⟨rfl, rfl⟩) (fun y => absurd y q)), fun q => t_X_fail (fun _ t e => mod (-1) 8 t (QXn hS1 hO1 (fun b j q => by unfold DX; omega) e) (fun y => absurd q y) (fun _ => ⟨rfl, rfl⟩))⟩
  · have hx := QXm hI e
    exact t_R_power (fun _ t3 e3 t4 e4 => R_now e3 e4 (KM_qx hM hx) hD (fun t5 hR hO h0 hM5 => R_isVector_s hR (fun y1 y2 => absurd hn (by omega)) (fun _ => ⟨fun y => absurd rfl y, fun _ => R_ref (fun t6 h6 hO6 => ⟨rfl, IVT_q hI hx (Off_trans hO hO6) h6⟩)⟩)))
/-- a SHELF takes the WORLD -/
theorem De_putOn_s {s : Int} (hn : nrm σ = σ) (hK : KC σ 6 c) (hD : DC c) (s0 : 0 ≤ s) (s1 : s < 4) (h : ∀ t, KC t 6 (ptW c (s + 1) (c 0) (c 1) (TBc c 0)) → Off (fun b j => 13 ≤ b ∧ b ≤ 20) σ t → Q 1 t) : Tri (d + 2) M_De_putOn [vA 6, vI s] σ Q := by
  have hW := KW_WD (a := 7) (i := 0) ob_7 (Or.inl rfl) hK.1 hD.1
  rw [hn] at hW
  have hT := hW.2.2.2.2
  refine t_De_putOn (fun _ => ⟨fun z => by omega, fun _ => ⟨fun _ => ⟨ob_6, rd_of kd_9 s0 (by omega), ob_6, ?_⟩, fun z => by omega⟩⟩)
  rw [sh_e]
  refine ⟨ob_sh (by omega) (by omega), Wd_copyFrom_s (ob_sh (by omega) (by omega)) ob_7 ⟨ob_6, rd_of kd_9 s0 (by omega), ob_sh (by omega) (by omega), fun t e => ?_⟩⟩
  have rr : ∀ x j, (x ≠ 6 + 5 + 2 * (s + 1)) → (x ≠ 6 + 5 + 2 * (s + 1) + 1) → t x j = σ x j := fun x j w1 w2 => by
    rw [e, up_ne (by omega)]
    unfold cpy
    rw [if_neg (by omega), up_ne (by omega), up_ne (by omega)]
  have hp0 : c 0 ≠ 0 := by have hpn : PN (c 0) (c 1) := hT.1; have := hpn.b; omega
  have hW1 : σ 7 1 = c 0 := hW.2.1
  have hW2 : σ 7 2 = c 1 := hW.2.2.1
  have hW3 : σ 8 = TBc c 0 := hW.2.2.2.1
  refine h t ⟨⟨?_, ?_, fun q0 t0 t1 => ?_⟩, fun i i0 i1 => ?_⟩ (fun x j w => rr x j (by omega) (by omega))
  · rw [rr _ _ (by omega) (by omega), ptW_ne (by omega)]; exact hK.1.1
  · rw [rr _ _ (by omega) (by omega), ptW_ne (by omega)]; exact hK.1.2.1
  · rw [rr _ _ (by omega) (by omega), ptW_ne (by omega)]; exact hK.1.2.2 q0 t0 t1
  · by_cases qi : i = s + 1
    · rw [qi, ptW_0]
      refine ⟨by rw [if_neg hp0, e, up_same], fun _ => KW_pt ?_ ?_ (fun q0 t0 t1 => ?_)⟩
      · rw [e, up_ne (by omega)]
        unfold cpy
        rw [if_neg (by omega), up_ne (by omega), up_same]; exact hW1
      · rw [e, up_ne (by omega)]
        unfold cpy
        rw [if_neg (by omega), up_same]; exact hW2
      · rw [e, up_ne (by omega)]
        unfold cpy
        rw [if_pos ⟨rfl, t0, by omega⟩, up_ne (by omega), up_ne (by omega), show (0 : Int) + (q0 - 0) = q0 by omega]
        exact congrFun hW3 q0
    · have hi := hK.2 i i0 i1
      rw [ptW_ne (by omega), rr _ _ (by omega) (by omega)]
      exact ⟨hi.1, fun hc => KW_ne (hi.2 hc) qi (fun j _ _ => rr _ _ (by omega) (by omega)) (fun j => rr _ _ (by omega) (by omega))⟩
theorem R_isShelf_s {x : Int} (h1 : 0 ≤ x → x < 4 → Q 1 σ) (h0 : ¬ (0 ≤ x ∧ x < 4) → Q 0 σ) : Tri (d + 2) M_R_isShelf [vI x] σ Q := t_R_isShelf (fun _ => R_isIn_s (fun z z2 => ⟨Or.inr rfl, h1 z (by omega)⟩) (fun z => ⟨Or.inl rfl, h0 (by omega)⟩))
theorem c_keep {x : Int} (hI : IVT σ) : CAL d M_X_keep M_R_keep [vI x] σ := by
  obtain ⟨c, hK, hM, hD, hS⟩ := hI.2.2.1
  have hW := WD7 hK hD
  refine Tri_n (t_X_keep (fun _ => ?_))
  by_cases hb : 0 ≤ x ∧ x < 4
  · refine De_putOn_s nrm_nrm (KC_n hK rfl) hD hb.1 hb.2 (fun t1 hK1 hO1 => ⟨fun y => by omega, fun _ => t_X_agree (fun t2 e2 => ⟨Or.inr rfl, ?_⟩)⟩)
    have hO12 : Off (fun b j => (b = 0 ∧ j = 0) ∨ (13 ≤ b ∧ b ≤ 20)) (nrm σ) t2 := Off_trans (Off_mono hO1 (fun b j q => Or.inr q)) (by rw [e2]; exact Off_up (Or.inl ⟨rfl, rfl⟩))
    have hOa : OffN (fun b j => (b = 0 ∧ j = 0) ∨ b = 4 ∨ b = 5 ∨ (7 ≤ b ∧ b ≤ 8) ∨ (13 ≤ b ∧ b ≤ 20) ∨ (39 ≤ b ∧ b ≤ 113)) σ t2 := OffN_n (Off_mono hO12 (fun b j q => by omega))
    have hK2 : KC t2 6 (ptW c (x + 1) (c 0) (c 1) (TBc c 0)) := hK1.off (D := fun b j => b = 0) (OffN_of (by rw [e2]; exact Off_up rfl)) (fun b j q1 q2 => by omega)
    have hM2 := KM_nx hM hOa (fun j => by omega)
    refine t_R_keep (fun _ t3 e3 t4 e4 => R_isShelf_s (fun _ _ => ⟨fun _ => ?_, fun y => by omega⟩) (fun y => absurd hb y))
    obtain ⟨o1, o2⟩ := RM0 e3 e4
    have hM4 := KM_dr hM2 o1
    have hW0 := KM_W0 hM4 hD
    rw [w32_id (x := x + 1) (by omega) (by omega), w32_id (x := 127 * (x + 1)) (by omega) (by omega)]
    refine R_move_s kd_166 (by omega) kd_166 (by omega) (by omega) (by omega) (by omega) (by omega) (by omega) (by omega) (fun t5 hcp hO5 => ⟨rfl, ?_⟩)
    refine IVT_2 hI hOa (Off_trans (Off_mono o1 (fun b j q => Or.inl q)) (Off_mono hO5 (fun b j q => Or.inr ⟨q.1, by omega, by omega⟩))) hK2 (KM_pt (f := 0) hM4 (by omega) ?_ ?_ (fun u u0 u1 => ?_) (fun j jj => hO5 166 j (by omega))) (DC_pt hD hD.1 (by omega) (by omega)) ((ST_n hI.2.2.2).off hO12 (fun x hx => by have := ech_list hx; omega)) (by rw [e2, up_same]) ((hO5 161 0 (by omega)).trans o2)
    · have := hcp 0 (by omega) (by omega)
      rw [Int.add_zero, Int.add_zero] at this
      rw [Int.zero_add]
      exact this.trans hW0.1
    · rw [Int.zero_add]
      exact (hcp 1 (by omega) (by omega)).trans hW0.2.1
    · have := hcp (2 + u) (by omega) (by omega)
      rw [show 127 * (x + 1) + (2 + u) = 0 + 127 * (x + 1) + 2 + u by omega, show (0 : Int) + (2 + u) = 0 + 2 + u by omega] at this
      exact this.trans (hW0.2.2.1 u u0 u1)
  · have no : Tri (d + 28) M_X_refuse [vA 0, vI 2] (nrm σ) (fun r u => (r = 0 ∨ r = 1) ∧ Tri (d + 30) M_R_keep [vA 161, vI x] u (fun r2 u2 => r = r2 ∧ IVT u2)) := X_rf (fun t e => by
      have hx := QXm hI e
      exact t_R_keep (fun _ t3 e3 t4 e4 => R_isShelf_s (fun y1 y2 => absurd ⟨y1, y2⟩ hb) (fun _ => ⟨fun y => absurd rfl y, fun _ => R_nr (fun t6 h6 hO6 => ⟨rfl, no_no hI hx e3 e4 h6 hO6⟩)⟩)))
    have no' : Tri (d + 29) M_X_refuse [vA 0, vI 2] (nrm σ) (fun r u => (r = 0 ∨ r = 1) ∧ Tri (d + 30) M_R_keep [vA 161, vI x] u (fun r2 u2 => r = r2 ∧ IVT u2)) := X_rf (fun t e => by
      have hx := QXm hI e
      exact t_R_keep (fun _ t3 e3 t4 e4 => R_isShelf_s (fun y1 y2 => absurd ⟨y1, y2⟩ hb) (fun _ => ⟨fun y => absurd rfl y, fun _ => R_nr (fun t6 h6 hO6 => ⟨rfl, no_no hI hx e3 e4 h6 hO6⟩)⟩)))
    refine t_De_putOn (fun _ => ⟨fun z => ⟨fun _ => no', fun y => absurd rfl y⟩, fun z => ⟨fun z2 => by omega, fun z2 => ⟨fun _ => no', fun y => absurd rfl y⟩⟩⟩)
theorem sh_13 {x : Int} : (13 : Int) + 2 * x = 6 + 5 + 2 * (x + 1) := by omega
theorem X_shelfTrouble_s {x : Int} (hK : KC σ 6 c) (h2 : ¬ (0 ≤ x ∧ x < 4) → Q 2 σ) (h8 : 0 ≤ x → x < 4 → c (127 * (x + 1)) = 0 → Q 8 σ) (h0 : 0 ≤ x → x < 4 → c (127 * (x + 1)) ≠ 0 → Q 0 σ) : Tri (d + 1) M_X_shelfTrouble [vA 0, vI x] σ Q := by
  refine t_X_shelfTrouble (fun _ => ⟨fun z => h2 (by omega), fun z => ⟨fun z2 => ⟨rd_of kd_9 z (by omega), ?_⟩, fun z2 => h2 (by omega)⟩⟩)
  rw [sh_13, (hK.2 (x + 1) (by omega) (by omega)).1]
  refine ⟨ob_sh (by omega) (by omega), fun y => h8 z z2 ?_, fun y => h0 z z2 ?_⟩
  · by_cases q : c (127 * (x + 1)) = 0
    · exact q
    · rw [if_neg q] at y; omega
  · intro q; rw [if_pos q] at y; exact y rfl
end CA3
