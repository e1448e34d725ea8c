/-! ===== calls that ask: series, centres, ranks, kinds, counts ===== -/
section CAS
variable {d : Nat} {σ : SG} {Q : Int → SG → Prop} {c : Int → Int}
theorem QXs {s : Int} {t t2 : SG} {lo hi : Int} (hS : ST t) (hO : Off (fun b j => lo ≤ b ∧ b ≤ hi) (nrm σ) t) (h1 : 39 ≤ lo) (h2 : hi ≤ 113) (e : t2 = up t 0 0 s) : QX σ t2 s := QXn hS hO (fun b j q => by unfold DX; omega) e
theorem IVT_m {t t2 t3 : SG} {s : Int} (hI : IVT σ) (hx : QX σ t s) (hO : Off DR t t2) (hO2 : Off DM t2 t3) (h0 : t2 161 0 = s) : IVT t3 := IVT_q hI hx (Off_trans hO (Off_dm hO2)) ((hO2 161 0 (by unfold DM; omega)).trans h0)
theorem c_derived {x : Int} (hI : IVT σ) : CAL d M_X_derived M_R_derived [vI x] σ := by
  obtain ⟨c, hK, hM, hD, hS⟩ := hI.2.2.1
  have hW := WD7 hK hD
  have ref : ¬ (0 ≤ x ∧ x ≤ 9) → Tri (d + 28) M_X_fail [vA 0, vI 5] (nrm σ) (fun r u => Tri (d + 30) M_R_derived [vA 161, vI x] u (fun r2 u2 => r = r2 ∧ IVT u2)) := fun hn => t_X_fail (fun _ t e => by
    have hx := QXm hI e
    exact t_R_derived (fun _ t3 e3 t4 e4 => R_now e3 e4 (KM_qx hM hx) hD (fun t5 hR hO h0 hM5 => R_isIn_s (fun y1 y2 => absurd ⟨y1, y2⟩ hn) (fun _ => ⟨fun _ => R_ref (fun t6 h6 hO6 => ⟨rfl, IVT_q hI hx (Off_trans hO hO6) h6⟩), fun y => absurd rfl y⟩))))
  refine Tri_n (t_X_derived (fun _ => t_X_seriesAnswer (fun _ _ => ⟨fun z => ref (by omega), fun z => ⟨fun z2 => An_wholeSeries_s hW (by omega) (ST_n hI.2.2.2) ⟨z, z2⟩ (fun t1 hS1 hO1 => t_X_answer (fun _ t e => ?_)), fun z2 => ref (by omega)⟩⟩)))
  have hx : QX σ t 0 := QXn hS1 hO1 (fun b j q => by unfold DX; omega) e
  exact t_R_derived (fun _ t3 e3 t4 e4 => R_now e3 e4 (KM_qx hM hx) hD (fun t5 hR hO h0 hM5 => R_isIn_s (fun y1 y2 => ⟨fun y => by omega, fun _ => R_seriesOf_s hR ⟨y1, y2⟩ (fun t6 hO6 => ⟨rfl, IVT_m hI hx hO hO6 h0⟩)⟩) (fun y => by omega)))
theorem c_lower {x : Int} (hI : IVT σ) : CAL d M_X_lower M_R_lower [vI x] σ := by
  obtain ⟨c, hK, hM, hD, hS⟩ := hI.2.2.1
  have hW := WD7 hK hD
  have ref : ¬ (0 ≤ x ∧ x ≤ 9) → Tri (d + 28) M_X_fail [vA 0, vI 5] (nrm σ) (fun r u => Tri (d + 30) M_R_lower [vA 161, vI x] u (fun r2 u2 => r = r2 ∧ IVT u2)) := fun hn => t_X_fail (fun _ t e => by
    have hx := QXm hI e
    exact t_R_lower (fun _ t3 e3 t4 e4 => R_now e3 e4 (KM_qx hM hx) hD (fun t5 hR hO h0 hM5 => R_isIn_s (fun y1 y2 => absurd ⟨y1, y2⟩ hn) (fun _ => ⟨fun _ => R_ref (fun t6 h6 hO6 => ⟨rfl, IVT_q hI hx (Off_trans hO hO6) h6⟩), fun y => absurd rfl y⟩))))
  refine Tri_n (t_X_lower (fun _ => t_X_seriesAnswer (fun _ _ => ⟨fun z => ref (by omega), fun z => ⟨fun z2 => An_wholeSeries_s hW (by omega) (ST_n hI.2.2.2) ⟨z, z2⟩ (fun t1 hS1 hO1 => t_X_answer (fun _ t e => ?_)), fun z2 => ref (by omega)⟩⟩)))
  have hx : QX σ t 0 := QXn hS1 hO1 (fun b j q => by unfold DX; omega) e
  exact t_R_lower (fun _ t3 e3 t4 e4 => R_now e3 e4 (KM_qx hM hx) hD (fun t5 hR hO h0 hM5 => R_isIn_s (fun y1 y2 => ⟨fun y => by omega, fun _ => R_seriesOf_s hR ⟨y1, y2⟩ (fun t6 hO6 => ⟨rfl, IVT_m hI hx hO hO6 h0⟩)⟩) (fun y => by omega)))
theorem c_centre (hI : IVT σ) : CAL d M_X_centre M_R_centre [] σ := by
  obtain ⟨c, hK, hM, hD, hS⟩ := hI.2.2.1
  refine Tri_n (t_X_centre (An_centreSize_s (WD7 hK hD) (by omega) (ST_n hI.2.2.2) (fun t1 hS1 hO1 => t_X_answer (fun _ t e => ?_))))
  have hx : QX σ t 0 := QXn hS1 hO1 (fun b j q => by unfold DX; omega) e
  exact t_R_centre (fun t3 e3 t4 e4 => R_now e3 e4 (KM_qx hM hx) hD (fun t5 hR hO h0 hM5 => R_centreSize_s hR (fun t6 hO6 => ⟨rfl, IVT_m hI hx hO hO6 h0⟩)))
theorem c_form (hI : IVT σ) : CAL d M_X_form M_R_form [] σ := by
  obtain ⟨c, hK, hM, hD, hS⟩ := hI.2.2.1
  refine Tri_n (t_X_form (Me_formRank_s (WD7 hK hD) (by omega) (ST_n hI.2.2.2) (fun t1 hS1 hO1 => t_X_answer (fun _ t e => ?_))))
  have hx : QX σ t 0 := QXn hS1 hO1 (fun b j q => by unfold DX; omega) e
  exact t_R_form (fun t3 e3 t4 e4 => R_now e3 e4 (KM_qx hM hx) hD (fun t5 hR hO h0 hM5 => R_formRank_s hR (fun t6 hO6 => ⟨rfl, IVT_m hI hx hO hO6 h0⟩)))
theorem c_commuting (hI : IVT σ) : CAL d M_X_commuting M_R_commuting [] σ := by
  obtain ⟨c, hK, hM, hD, hS⟩ := hI.2.2.1
  refine Tri_n (t_X_commuting (An_countCommuting_s (WD7 hK hD) (by omega) (ST_n hI.2.2.2) (fun t1 hS1 hO1 => t_X_answer (fun _ t e => ?_))))
  have hx : QX σ t 0 := QXn hS1 hO1 (fun b j q => by unfold DX; omega) e
  exact t_R_commuting (fun t3 e3 t4 e4 => R_now e3 e4 (KM_qx hM hx) hD (fun t5 hR hO h0 hM5 => R_commutingMany_s hR (fun t6 hO6 => ⟨(commute_eq hD.1).symm, IVT_m hI hx hO hO6 h0⟩)))
theorem c_centralizer {x : Int} (hI : IVT σ) : CAL d M_X_centralizer M_R_centralizer [vI x] σ := by
  obtain ⟨c, hK, hM, hD, hS⟩ := hI.2.2.1
  have hW := WD7 hK hD
  obtain ⟨b1, b2, b3, b4⟩ := hW.pn.b
  refine Tri_n (t_X_centralizer (fun _ => X_isVector_s hW (fun x0 x1 => ⟨fun _ => An_centralizerSize_s hW (by omega) (ST_n hI.2.2.2) x0 (fun t1 hS1 hO1 => t_X_answer (fun _ t e => ?_)), fun y => by omega⟩) (fun hn => ⟨fun y => absurd rfl y, fun _ => t_X_fail (fun _ t e => ?_)⟩)))
  · have hx : QX σ t 0 := QXn hS1 hO1 (fun b j q => by unfold DX; omega) e
    refine t_R_centralizer (fun _ t3 e3 t4 e4 => R_now e3 e4 (KM_qx hM hx) hD (fun t5 hR hO h0 hM5 => R_isVector_s hR (fun _ _ => ⟨fun y => by omega, fun _ => R_rankOf_s hR x0 (fun t6 hO6 => ⟨?_, IVT_m hI hx hO hO6 h0⟩)⟩) (fun y => absurd y (by omega))))
    have hc := cd_b (ℓ := (rks (c 0) (c 1) (TBc c 0) (dg (c 0) x)).1) (w := c 1) (by omega)
    rw [hR.2.2.1, w32_id (by omega) (by omega), mvr_rks hR.1]
  · have hx := QXm hI e
    exact t_R_centralizer (fun _ t3 e3 t4 e4 => R_now e3 e4 (KM_qx hM hx) hD (fun t5 hR hO h0 hM5 => R_isVector_s hR (fun y1 y2 => absurd hn (by omega)) (fun _ => ⟨fun _ => R_ref (fun t6 h6 hO6 => ⟨rfl, IVT_q hI hx (Off_trans hO hO6) h6⟩), fun y => absurd rfl y⟩)))
theorem c_rank {x : Int} (hI : IVT σ) : CAL d M_X_rank M_R_rank [vI x] σ := by
  obtain ⟨c, hK, hM, hD, hS⟩ := hI.2.2.1
  have hW := WD7 hK hD
  obtain ⟨b1, b2, b3, b4⟩ := hW.pn.b
  refine Tri_n (t_X_rank (fun _ => X_isVector_s hW (fun x0 x1 => ⟨fun _ => An_centralizerSize_s hW (by omega) (ST_n hI.2.2.2) x0 (fun t1 hS1 hO1 => t_X_answer (fun _ t e => ?_)), fun y => by omega⟩) (fun hn => ⟨fun y => absurd rfl y, fun _ => t_X_fail (fun _ t e => ?_)⟩)))
  · have hx : QX σ t 0 := QXn hS1 hO1 (fun b j q => by unfold DX; omega) e
    refine t_R_rank (fun _ t3 e3 t4 e4 => R_now e3 e4 (KM_qx hM hx) hD (fun t5 hR hO h0 hM5 => R_isVector_s hR (fun _ _ => ⟨fun y => by omega, fun _ => R_rankOf_s hR x0 (fun t6 hO6 => ⟨?_, IVT_m hI hx hO hO6 h0⟩)⟩) (fun y => absurd y (by omega))))
    have hc := cd_b (ℓ := (rks (c 0) (c 1) (TBc c 0) (dg (c 0) x)).1) (w := c 1) (by omega)
    rw [hW.2.2.1, mvr_rks hR.1, w32_id (by omega) (by omega)]
    omega
  · have hx := QXm hI e
    exact t_R_rank (fun _ t3 e3 t4 e4 => R_now e3 e4 (KM_qx hM hx) hD (fun t5 hR hO h0 hM5 => R_isVector_s hR (fun y1 y2 => absurd hn (by omega)) (fun _ => ⟨fun _ => R_ref (fun t6 h6 hO6 => ⟨rfl, IVT_q hI hx (Off_trans hO hO6) h6⟩), fun y => absurd rfl y⟩)))
theorem c_parts {x1 x2 : Int} (hI : IVT σ) : CAL d M_X_parts M_R_parts [vI x1, vI x2] σ := by
  obtain ⟨c, hK, hM, hD, hS⟩ := hI.2.2.1
  have hW := WD7 hK hD
  obtain ⟨b1, b2, b3, b4⟩ := hW.pn.b
  have ref : ¬ ((0 ≤ x1 ∧ x1 ≤ c 1) ∧ 0 ≤ x2 ∧ x2 ≤ 3) → Tri (d + 29) M_X_fail [vA 0, vI 5] (nrm σ) (fun r u => Tri (d + 30) M_R_parts [vA 161, vI x1, vI x2] u (fun r2 u2 => r = r2 ∧ IVT u2)) := fun hn => t_X_fail (fun _ t e => by
    have hx := QXm hI e
    refine t_R_parts (fun _ _ t3 e3 t4 e4 => R_now e3 e4 (KM_qx hM hx) hD (fun t5 hR hO h0 hM5 => ?_))
    rw [hR.2.2.1]
    have rf : Tri (d + 29) M_R_refuse [vA 161, vI 5] t5 (fun r6 σ6 => -1 = r6 ∧ IVT σ6) := R_ref (fun t6 h6 hO6 => ⟨rfl, IVT_q hI hx (Off_trans hO hO6) h6⟩)
    exact R_isIn_s (fun y1 y2 => ⟨fun y => by omega, fun _ => R_isIn_s (fun y3 y4 => absurd ⟨⟨y1, y2⟩, y3, y4⟩ hn) (fun _ => ⟨fun _ => rf, fun y => absurd rfl y⟩)⟩) (fun _ => ⟨fun _ => rf, fun y => absurd rfl y⟩))
  refine Tri_n (t_X_parts (fun _ _ => ⟨fun z => ref (by omega), fun z => ?_⟩))
  rw [hW.2.2.1]
  refine ⟨fun z2 => ref (by omega), fun z2 => ⟨fun z3 => ref (by omega), fun z3 => ⟨fun z4 => An_countSpans_s hW (by omega) (ST_n hI.2.2.2) (by omega) (fun t1 hS1 hO1 => t_X_answer (fun _ t e => ?_)), fun z4 => ref (by omega)⟩⟩⟩
  have hx : QX σ t 0 := QXn hS1 hO1 (fun b j q => by unfold DX; omega) e
  refine t_R_parts (fun _ _ t3 e3 t4 e4 => R_now e3 e4 (KM_qx hM hx) hD (fun t5 hR hO h0 hM5 => ?_))
  rw [hR.2.2.1]
  exact R_isIn_s (fun _ _ => ⟨fun y => by omega, fun _ => R_isIn_s (fun _ _ => ⟨fun y => by omega, fun _ => R_countSpans_s hR (by omega) (fun t6 hO6 => ⟨rfl, IVT_m hI hx hO hO6 h0⟩)⟩) (fun y => by omega)⟩) (fun y => by omega)
theorem c_classes {x : Int} (hI : IVT σ) : CAL d M_X_classes M_R_classes [vI x] σ := by
  obtain ⟨c, hK, hM, hD, hS⟩ := hI.2.2.1
  have hW := WD7 hK hD
  obtain ⟨b1, b2, b3, b4⟩ := hW.pn.b
  have lw : ∀ {t t2 : SG}, Off (fun b j => (175 ≤ b ∧ b ≤ 178) ∨ b = 186) t t2 → Off DR t t2 := fun h => Off_mono h (fun b j w => by unfold DR; omega)
  have ref : ¬ (0 ≤ x ∧ x ≤ c 1) → Tri (d + 29) M_X_fail [vA 0, vI 5] (nrm σ) (fun r u => Tri (d + 30) M_R_classes [vA 161, vI x] u (fun r2 u2 => r = r2 ∧ IVT u2)) := fun hn => t_X_fail (fun _ t e => by
    have hx := QXm hI e
    refine t_R_classes (fun _ t3 e3 t4 e4 => R_now e3 e4 (KM_qx hM hx) hD (fun t5 hR hO h0 hM5 => ?_))
    rw [hR.2.2.1]
    exact R_isIn_s (fun y1 y2 => absurd ⟨y1, y2⟩ hn) (fun _ => ⟨fun y => absurd rfl y, fun _ => R_ref (fun t6 h6 hO6 => ⟨rfl, IVT_q hI hx (Off_trans hO hO6) h6⟩)⟩))
  refine Tri_n (t_X_classes (fun _ => ⟨fun z => ref (by omega), fun z => ?_⟩))
  rw [hW.2.2.1]
  refine ⟨fun z2 => Wd_firstBreak_s hW.wc (fun r hr => ?_), fun z2 => ref (by omega)⟩
  rw [hW.2.1, hW.2.2.1, hW.2.2.2.1] at hr
  have hl := FB_lawf hr
  refine ⟨fun q => Me_classSize_s hW (by omega) (ST_n hI.2.2.2) (by omega) (fun t1 hS1 hO1 => t_X_answer (fun _ t e => ?_)), fun q => t_X_fail (fun _ t e => ?_)⟩
  · have hx : QX σ t 0 := QXn hS1 hO1 (fun b j q => by unfold DX; omega) e
    refine t_R_classes (fun _ t3 e3 t4 e4 => R_now e3 e4 (KM_qx hM hx) hD (fun t5 hR hO h0 hM5 => ?_))
    rw [hR.2.2.1]
    refine R_isIn_s (fun _ _ => ⟨fun _ => R_isLawful_s hR (fun w t6 hO6 => ⟨fun y => by omega, fun _ => ?_⟩) (fun w => absurd (hl.mp q) w), fun y => by omega⟩) (fun y => by omega)
    have hR6 : RW t6 (c 0) (c 1) (TBc c 0) := hR.fr (fun k _ _ => hO6 161 k (by omega)) (fun k => hO6 166 k (by omega)) (fun k => hO6 196 k (by omega))
    exact R_classSize_s hR6 (by omega) (fun t7 hO7 => ⟨rfl, IVT_m hI hx (Off_trans hO (lw hO6)) hO7 ((hO6 161 0 (by omega)).trans h0)⟩)
  · have hx := QXm hI e
    refine t_R_classes (fun _ t3 e3 t4 e4 => R_now e3 e4 (KM_qx hM hx) hD (fun t5 hR hO h0 hM5 => ?_))
    rw [hR.2.2.1]
    exact R_isIn_s (fun _ _ => ⟨fun _ => R_isLawful_s hR (fun w => by have := hl.mpr w; omega) (fun w t6 hO6 => ⟨fun _ => R_ref (fun t7 h7 hO7 => ⟨rfl, IVT_q hI hx (Off_trans hO (Off_trans (lw hO6) hO7)) h7⟩), fun y => absurd rfl y⟩), fun y => by omega⟩) (fun y => by omega)
theorem RDG_cg {p n : Int} {T : Int → Int} {a b : Prop} [Decidable a] [Decidable b] (h : a ↔ b) : RDG p n T a = RDG p n T b := by
  funext m x
  unfold RDG
  rw [ser_cgp h]
theorem c_radical {x : Int} (hI : IVT σ) : CAL d M_X_radical M_R_radical [vI x] σ := by
  obtain ⟨c, hK, hM, hD, hS⟩ := hI.2.2.1
  have hW := WD7 hK hD
  have ref : ¬ (0 ≤ x ∧ x ≤ 1) → Tri (d + 29) M_X_fail [vA 0, vI 5] (nrm σ) (fun r u => Tri (d + 30) M_R_radical [vA 161, vI x] u (fun r2 u2 => r = r2 ∧ IVT u2)) := fun hn => t_X_fail (fun _ t e => by
    have hx := QXm hI e
    exact t_R_radical (fun _ t3 e3 t4 e4 => R_now e3 e4 (KM_qx hM hx) hD (fun t5 hR hO h0 hM5 => R_isIn_s (fun y1 y2 => absurd ⟨y1, y2⟩ hn) (fun _ => ⟨fun y => absurd rfl y, fun _ => R_ref (fun t6 h6 hO6 => ⟨rfl, IVT_q hI hx (Off_trans hO hO6) h6⟩)⟩))))
  have go : ∀ lo, (0 ≤ x ∧ x ≤ 1) → (lo ≠ 0 ↔ x = 1) → Tri (d + 29) M_An_radicalSize [vA 42, vA 7, vI lo] (nrm σ) (fun r5 σ5 => Tri (d + 29) M_X_answer [vA 0, vI r5] σ5 (fun r u => Tri (d + 30) M_R_radical [vA 161, vI x] u (fun r2 u2 => r = r2 ∧ IVT u2))) := fun lo hb hlo => by
    refine An_radicalSize_s hW (by omega) (ST_n hI.2.2.2) (fun r t1 hr hS1 hO1 => t_X_answer (fun _ t e => ?_))
    have hx : QX σ t 0 := QXn hS1 hO1 (fun b j q => by unfold DX; omega) e
    refine t_R_radical (fun _ t3 e3 t4 e4 => R_now e3 e4 (KM_qx hM hx) hD (fun t5 hR hO h0 hM5 => R_isIn_s (fun _ _ => ⟨fun _ => R_radical_l hR (fun r2 t6 hr2 hO6 => ⟨?_, IVT_m hI hx hO hO6 h0⟩), fun y => by omega⟩) (fun y => by omega)))
    rw [RDG_cg hlo] at hr
    exact MX_uniq hr hr2
  exact Tri_n (t_X_radical (fun _ => ⟨fun z => ref (by omega), fun z => ⟨fun z2 => ⟨fun z3 => go 0 ⟨z, z2⟩ (by omega), fun z3 => go 1 ⟨z, z2⟩ (by omega)⟩, fun z2 => ref (by omega)⟩⟩))
theorem c_tries (hI : IVT σ) : CAL d M_X_tries M_R_tries [] σ := by
  obtain ⟨hb1, hb2, hb3⟩ := hI.2.1.2.1
  refine t_X_tries ⟨fun z => t_X_answer (fun _ t e => ?_), fun z => t_X_fail (fun _ t e => ?_)⟩
  · have hx := QX0 hI e
    refine t_R_tries (fun t3 e3 t4 e4 => ?_)
    have h44 : t4 161 44 = σ 0 3 := by rw [e4, up_ne (by omega), e3, up_ne (by omega), e, up_ne (by omega)]; exact hb1.symm
    rw [h44]
    exact ⟨fun _ => ⟨rfl, IVT_q hI hx (RM0 e3 e4).1 (RM0 e3 e4).2⟩, fun y => by omega⟩
  · have hx := QX0 hI e
    refine t_R_tries (fun t3 e3 t4 e4 => ?_)
    have h44 : t4 161 44 = σ 0 3 := by rw [e4, up_ne (by omega), e3, up_ne (by omega), e, up_ne (by omega)]; exact hb1.symm
    rw [h44]
    exact ⟨fun y => by omega, fun _ => R_ref (fun t6 h6 hO6 => ⟨rfl, IVT_q hI hx (Off_trans (RM0 e3 e4).1 hO6) h6⟩)⟩
theorem c_derivations {x : Int} (hI : IVT σ) : CAL d M_X_derivations M_R_derivations [vI x] σ := by
  obtain ⟨c, hK, hM, hD, hS⟩ := hI.2.2.1
  have hW := WD7 hK hD
  obtain ⟨b1, b2, b3, b4⟩ := hW.pn.b
  have sq := mul_small (a := c 1) (b := c 1) (A := 5) (B := 5) (by omega) (by omega) (by omega) (by omega)
  have hc1 := cd_b (ℓ := (DRV (c 0) (c 1) (TBc c 0)).1) (w := c 1 * c 1) (by omega)
  have hc2 := cd_b (ℓ := (mvr (c 0) (c 1) (TBc c 0) EU E0).1) (w := c 1) (by omega)
  have ref : ¬ (0 ≤ x ∧ x ≤ 2) → Tri (d + 29) M_X_fail [vA 0, vI 5] (nrm σ) (fun r u => Tri (d + 30) M_R_derivations [vA 161, vI x] u (fun r2 u2 => r = r2 ∧ IVT u2)) := fun hn => t_X_fail (fun _ t e => by
    have hx := QXm hI e
    exact t_R_derivations (fun _ t3 e3 t4 e4 => R_now e3 e4 (KM_qx hM hx) hD (fun t5 hR hO h0 hM5 => R_isIn_s (fun y1 y2 => absurd ⟨y1, y2⟩ hn) (fun _ => ⟨fun y => absurd rfl y, fun _ => R_ref (fun t6 h6 hO6 => ⟨rfl, IVT_q hI hx (Off_trans hO hO6) h6⟩)⟩))))
  -- the model's answer
  have mod : ∀ (v : Int) t, (0 ≤ x ∧ x ≤ 2) → QX σ t 0 → v = (if x = 0 then c 1 * c 1 - cd (DRV (c 0) (c 1) (TBc c 0)).1 (c 1 * c 1) else if x = 1 then cd (mvr (c 0) (c 1) (TBc c 0) EU E0).1 (c 1) else c 1 * c 1 - cd (DRV (c 0) (c 1) (TBc c 0)).1 (c 1 * c 1) - cd (mvr (c 0) (c 1) (TBc c 0) EU E0).1 (c 1)) → Tri (d + 30) M_R_derivations [vA 161, vI x] t (fun r2 u2 => v = r2 ∧ IVT u2) := fun v t hb hx hv => by
    refine t_R_derivations (fun _ t3 e3 t4 e4 => R_now e3 e4 (KM_qx hM hx) hD (fun t5 hR hO h0 hM5 => R_isIn_s (fun _ _ => ⟨fun _ => R_derivationSize_s hR (fun t6 hO6 => ?_), fun y => by omega⟩) (fun y => by omega)))
    have hR6 : RW t6 (c 0) (c 1) (TBc c 0) := hR.fr (fun k _ _ => hO6 161 k (by unfold DM; omega)) (fun k => hO6 166 k (by unfold DM; omega)) (fun k => hO6 196 k (by unfold DM; omega))
    refine R_centreSize_s hR6 (fun t7 hO7 => ?_)
    have hi : IVT t7 := IVT_m hI hx (Off_trans hO (Off_dm hO6)) hO7 ((hO6 161 0 (by unfold DM; omega)).trans h0)
    rw [hR6.2.2.1, w32_id (x := c 1 - (c 1 - cd (mvr (c 0) (c 1) (TBc c 0) EU E0).1 (c 1))) (by omega) (by omega), w32_id (by omega) (by omega)]
    refine ⟨fun q => ⟨fun q1 => ⟨?_, hi⟩, fun q1 => ⟨?_, hi⟩⟩, fun q => ⟨?_, hi⟩⟩
    · rw [hv, if_neg q, if_neg q1]; omega
    · rw [hv, if_neg q, if_pos q1]; omega
    · rw [hv, if_pos q]
  have at40 : ∀ (y : Int) (t1 : SG), (0 ≤ x ∧ x ≤ 2) → (x ≠ 1 → y = c 1 * c 1 - cd (DRV (c 0) (c 1) (TBc c 0)).1 (c 1 * c 1)) → (x = 1 → y = 0) → ST t1 → Off (fun b j => 69 ≤ b ∧ b ≤ 77) (nrm σ) t1 → L (d + 30) M_X_derivations 40 [vA 0, vI x, vA 7, vU, vU] [vI y] t1 (fun r u => Tri (d + 30) M_R_derivations [vA 161, vI x] u (fun r2 u2 => r = r2 ∧ IVT u2)) := fun y t1 hb hy hy1 hS1 hO1 => by
    have hW1 : WD t1 7 (c 0) (c 1) (TBc c 0) := hW.cg (fun k => hO1 7 k (by omega)) (fun k => hO1 (7 + 1) k (by omega))
    refine s_X_derivations_40 ⟨fun q => ⟨ob_7, An_centreSize_s hW1 (by omega) hS1 (fun t2 hS2 hO2 => ?_)⟩, fun q => ⟨fun q1 => t_X_answer (fun _ t e => ?_), fun q1 => by omega⟩⟩
    · have hO12 : Off (fun b j => 43 ≤ b ∧ b ≤ 77) (nrm σ) t2 := Off_trans (Off_mono hO1 (fun b j w => by omega)) (Off_mono hO2 (fun b j w => by omega))
      rw [hW1.2.2.1, w32_id (x := c 1 - (c 1 - cd (mvr (c 0) (c 1) (TBc c 0) EU E0).1 (c 1))) (by omega) (by omega)]
      refine ⟨fun q1 => t_X_answer (fun _ t e => ?_), fun q1 => t_X_answer (fun _ t e => ?_)⟩
      · refine mod _ t hb (QXn hS2 hO12 (fun b j q => by unfold DX; omega) e) ?_
        rw [hy q1, w32_id (by omega) (by omega), if_neg q, if_neg q1]; omega
      · refine mod _ t hb (QXn hS2 hO12 (fun b j q => by unfold DX; omega) e) ?_
        rw [if_neg q, if_pos q1]; omega
    · refine mod _ t hb (QXn hS1 hO1 (fun b j q => by unfold DX; omega) e) ?_
      rw [hy q1, w32_id (by omega) (by omega), if_pos q]; omega
  refine Tri_n (t_X_derivations (fun _ => ⟨fun z => ref (by omega), fun z => ⟨fun z2 => ⟨fun z3 => Me_derivationSize_s hW (by omega) (ST_n hI.2.2.2) (fun t1 hS1 hO1 => at40 _ t1 ⟨z, z2⟩ (fun _ => rfl) (fun y => absurd y z3) hS1 hO1), fun z3 => at40 0 (nrm σ) ⟨z, z2⟩ (fun y => absurd z3 y) (fun _ => rfl) (ST_n hI.2.2.2) Off_rfl⟩, fun z2 => ref (by omega)⟩⟩))
end CAS
