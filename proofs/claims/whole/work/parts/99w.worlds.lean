/-! ===== calls: grow, squeeze, change ===== -/
section CWO
variable {d : Nat} {σ : SG} {Q : Int → SG → Prop} {c : Int → Int}
theorem X_lim_s {p n : Int} (hpn : PN p n) (hq : ∀ r, (n < r ↔ PN p (n + 1)) → Q r σ) : Tri (d + 1) M_X_sizeLimit [vI p] σ Q := by
  refine X_sizeLimit_s (fun q => hq 5 ?_) (fun q => hq 5 ?_) (fun q => hq 4 ?_) (fun q => hq 3 ?_) (fun q => ?_)
  · unfold PN at *; omega
  · unfold PN at *; omega
  · unfold PN at *; omega
  · unfold PN at *; omega
  · unfold PN at hpn; omega
theorem c_grow {x : Int} (hI : IVT σ) : CAL d M_X_grow M_R_grow [vI x] σ := by
  obtain ⟨c, hK, hM, hD, hS⟩ := hI.2.2.1
  have hW := WD7 hK hD
  have hT := hW.2.2.2.2
  have hpn := hW.pn
  obtain ⟨b1, b2, b3, b4⟩ := hpn.b
  have hS0 := ST_n hI.2.2.2
  have hK' := KC_n hK rfl
  have l6 := l60 hI
  have cc := cpl2 ⟨b3, b4⟩
  -- the model up to the TRAY
  have beg : ∀ (v : Int) t, KM t 0 c → trys σ t → (PN (c 0) (c 1 + 1) → ∀ t5, RW t5 (c 0) (c 1) (TBc c 0) → KM t5 0 c → Off DR t t5 → t5 161 0 = 0 → trys σ t5 → Tri (d + 29) M_R_isTray [vA 161, vI x] t5 (fun r6 σ6 => (r6 ≠ 0 → (0 ≤ x ∧ x < 4) ∧ (0 ≤ σ6 163 x → Tri (d + 29) M_R_wrongForm [vA 161, vI x] σ6 (fun r9 σ9 => (r9 ≤ 0 → Tri (d + 29) M_R_isClosed [vA 161, vI x] σ9 (fun r11 σ11 => (r11 ≠ 0 → L (d + 30) M_R_grow 103 [vA 161, vI x, vU, vI (σ11 161 27), vI 0, vU] [] σ11 (fun r2 u2 => v = r2 ∧ IVT u2)) ∧ (r11 = 0 → Tri (d + 29) M_R_refuse [vA 161, vI 9] σ11 (fun r13 σ13 => v = r13 ∧ IVT σ13)))) ∧ (0 < r9 → Tri (d + 29) M_R_refuse [vA 161, vI r9] σ9 (fun r14 σ14 => v = r14 ∧ IVT σ14)))) ∧ (σ6 163 x < 0 → Tri (d + 29) M_R_refuse [vA 161, vI 3] σ6 (fun r15 σ15 => v = r15 ∧ IVT σ15))) ∧ (r6 = 0 → Tri (d + 29) M_R_refuse [vA 161, vI 1] σ6 (fun r16 σ16 => v = r16 ∧ IVT σ16)))) → (¬ PN (c 0) (c 1 + 1) → v = -1 ∧ QX σ t 7) → Tri (d + 30) M_R_grow [vA 161, vI x] t (fun r2 u2 => v = r2 ∧ IVT u2) := fun v t hMt htr hy hn => by
    refine t_R_grow (fun _ t3 e3 t4 e4 => R_now e3 e4 hMt hD (fun t5 hR hO h0 hM5 => ?_))
    rw [hR.2.1, hR.2.2.1]
    refine R_greatest_s hpn (fun r g2 g3 g5 g7 => ⟨fun q => hy (by unfold PN at *; omega) t5 hR hM5 hO h0 (trys_o htr hO (fun j => by unfold DR; omega)), fun q => ?_⟩)
    obtain ⟨v1, v2⟩ := hn (by unfold PN at *; omega)
    exact R_ref (fun t6 h6 hO6 => ⟨v1.symm ▸ rfl, IVT_q hI v2 (Off_trans hO hO6) h6⟩)
  refine Tri_n (t_X_grow (fun _ => ?_))
  rw [hW.2.1, hW.2.2.1]
  refine X_lim_s hpn (fun r hr => ⟨fun q => ?_, fun q => t_X_fail (fun _ t e => ?_)⟩)
  · have hpn1 := hr.mp q
    refine X_coupleTrouble_s hW.2.1 hW.2.2.1 ⟨b1, b2⟩ ⟨b3, b4⟩ (fun i i0 i1 => by rw [n3]; exact l6 i i0 i1) (fun s hs t1 hO1 => ?_) (fun x0 x1 z3 z4 za t1 h4 hO1 => ⟨fun y => absurd rfl y, fun _ => ?_⟩)
    · have hs' := gCod_cg (fun i => n3) (fun i => n1) hs
      have s0 : s ≠ 0 := by unfold gCod at hs'; omega
      refine ⟨fun _ => s_X_grow_57 ⟨fun y => absurd y s0, fun _ => t_X_fail (fun _ t e => ?_)⟩, fun y => absurd y s0⟩
      have hS1 : ST t1 := hS0.off hO1 (fun e he => by have := ech_list he; omega)
      have hx : QX σ t s := QXn hS1 hO1 (fun b j q => by unfold DX; omega) e
      refine beg (-1) t (KM_qx hM hx) (trys_x hI hx) (fun _ t5 hR hM5 hO h0 ht5 => ?_) (fun q => absurd hpn1 q)
      have rf : ∀ r, r = s → Tri (d + 29) M_R_refuse [vA 161, vI r] t5 (fun r6 σ6 => -1 = r6 ∧ IVT σ6) := fun r hr => R_ref (fun t6 h6 hO6 => ⟨rfl, IVT_q hI hx (Off_trans hO hO6) (by rw [h6, hr])⟩)
      refine R_isTray_s (fun x0 x1 => ⟨fun _ => ⟨⟨x0, x1⟩, ?_⟩, fun y => by omega⟩) (fun hn => ⟨fun y => absurd rfl y, fun _ => rf 1 (by unfold gCod at hs'; omega)⟩)
      rw [ht5.1 x x0 x1]
      refine ⟨fun z => R_wrongForm_s hR ht5 x0 x1 (l6 x x0 x1) (fun q => ⟨fun y => by omega, fun _ => rf 4 (by unfold gCod at hs'; omega)⟩) (fun q q2 => ⟨fun y => by omega, fun _ => rf 5 (by unfold gCod at hs'; omega)⟩) (fun q q2 => ?_), fun z => rf 3 (by unfold gCod at hs'; omega)⟩
      rcases hs' with h | h | h | h
      · exact absurd ⟨x0, x1⟩ h.2
      · omega
      · omega
      · exact absurd q2 h.2.2.2.2
    · have za' := gAll_n za
      rw [n3] at z3 z4
      have hW1 : WD t1 7 (c 0) (c 1) (TBc c 0) := hW.cg (fun k => hO1 7 k (by omega)) (fun k => hO1 (7 + 1) k (by omega))
      have hS1 : ST t1 := hS0.off hO1 (fun e he => by have := ech_list he; omega)
      have hcc : ∀ q, 0 ≤ q → q < c 1 * (c 1 - 1) / 2 → t1 4 q = σ 1 (60 * x + q) ∧ 0 ≤ σ 1 (60 * x + q) ∧ σ 1 (60 * x + q) < c 0 := fun q q0 q1 => by
        have := za' q q0 q1
        rw [h4 q q0 q1, n1]
        exact ⟨rfl, by omega, by omega⟩
      have mcc : ∀ t5, trys σ t5 → ∀ q, 0 ≤ q → q < c 1 * (c 1 - 1) / 2 → t5 164 (60 * x + q) = σ 1 (60 * x + q) ∧ 0 ≤ σ 1 (60 * x + q) ∧ σ 1 (60 * x + q) < c 0 := fun t5 ht5 q q0 q1 => by
        have := za' q q0 q1
        rw [ht5.2 _ (by omega) (by omega)]
        exact ⟨rfl, by omega, by omega⟩
      refine Me_isClosed_s hW1 (by omega) (by omega) hcc (fun t2 w hO2 _ hS2 => ⟨fun _ => ?_, fun y => by omega⟩) (fun t2 w hO2 _ hS2 => ⟨fun y => absurd rfl y, fun _ => ?_⟩) hS1
      · -- it grows
        have hO02 : Off (fun b j => b = 4 ∨ (69 ≤ b ∧ b ≤ 77)) (nrm σ) t2 := Off_trans (Off_mono hO1 (fun b j q => Or.inl q)) (Off_mono hO2 (fun b j q => Or.inr q))
        have hW2 : WD t2 7 (c 0) (c 1) (TBc c 0) := hW.cg (fun k => hO02 7 k (by omega)) (fun k => hO02 (7 + 1) k (by omega))
        refine s_X_grow_57 ⟨fun _ => Wo_growBy_s (c := fun q => σ 1 (60 * x + q)) hW2 (by omega) (by omega) hpn1 (fun q q0 q1 => by rw [hO2 4 q (by omega)]; exact hcc q q0 q1) (fun t3 hWN hO3 => ⟨ob_7, t_X_answer (fun _ t e => ?_)⟩), fun y => absurd rfl y⟩
        have hO03 : Off (fun b j => (b = 0 ∧ j = 0) ∨ b = 4 ∨ (7 ≤ b ∧ b ≤ 8) ∨ (69 ≤ b ∧ b ≤ 77) ∨ (b = 105 ∧ (j = 1 ∨ j = 2)) ∨ b = 106) (nrm σ) t := Off_trans (Off_mono hO02 (fun b j q => by omega)) (Off_trans (Off_mono hO3 (fun b j q => by omega)) (by rw [e]; exact Off_up (Or.inl ⟨rfl, rfl⟩)))
        have hOa : OffN (fun b j => (b = 0 ∧ j = 0) ∨ b = 4 ∨ b = 5 ∨ (7 ≤ b ∧ b ≤ 8) ∨ (13 ≤ b ∧ b ≤ 20) ∨ (39 ≤ b ∧ b ≤ 113)) σ t := OffN_n (Off_mono hO03 (fun b j q => by omega))
        have hSt : ST t := fun y hy => by
          have := ech_list hy
          rw [e, up_ne (by omega), hO3 y 0 (by omega)]; exact hS2 y hy
        have hK2 : KC t2 6 c := hK'.off (OffN_of hO02) (fun b j q1 q2 => by omega)
        have hK3 : KC t 6 (ptW c 0 (c 0) (c 1 + 1) (MK (c 0) (c 1 + 1) (GRW (c 1) (TBc c 0) (fun q => σ 1 (60 * x + q))))) := by
          have h1 : KC t3 6 (ptW c 0 (c 0) (c 1 + 1) (MK (c 0) (c 1 + 1) (GRW (c 1) (TBc c 0) (fun q => σ 1 (60 * x + q))))) := KC_w0 hK2 hWN.1 hWN.2.1 hWN.2.2 (OffN_of (Off_mono hO3 (fun b j q => by omega)))
          exact h1.off (D := fun b j => b = 0) (OffN_of (by rw [e]; exact Off_up rfl)) (fun b j q1 q2 => by omega)
        have hMt := KM_nx hM hOa (fun j => by omega)
        have htr : trys σ t := ⟨fun i i0 i1 => by rw [hOa 163 i (by omega) (by omega)]; exact (hI.2.1.2.2.2.1 i i0 i1).2.1.symm, fun j j0 j1 => by rw [hOa 164 j (by omega) (by omega)]; exact (hI.2.1.2.2.2.2.1 j j0 j1).symm⟩
        rw [hWN.2.1]
        refine beg (c 1 + 1) t hMt htr (fun _ t5 hR hM5 hO h0 ht5 => R_isTray_s (fun _ _ => ⟨fun _ => ⟨⟨x0, x1⟩, ?_⟩, fun y => by omega⟩) (fun hn => absurd ⟨x0, x1⟩ hn)) (fun q => absurd hpn1 q)
        rw [ht5.1 x x0 x1]
        refine ⟨fun _ => R_wrongForm_s hR ht5 x0 x1 (l6 x x0 x1) (fun q => by omega) (fun q q2 => absurd za' q2) (fun q q2 => ⟨fun _ => R_isClosed_s hR ⟨x0, x1⟩ (c := fun q => σ 1 (60 * x + q)) (mcc t5 ht5) (fun w2 => ⟨fun _ => ?_, fun y => by omega⟩) (fun w2 => absurd w w2), fun y => by omega⟩), fun z => by omega⟩
        rw [hR.2.2.1]
        refine R_grow_l (KM_W0 hM5 hD) hR.2.2.1 hpn1 ⟨x0, x1⟩ (mcc t5 ht5) (fun t6 hWt hO6 => ⟨rfl, ?_⟩)
        exact IVT_2 hI hOa (Off_trans (Off_mono hO (fun b j q => Or.inl q)) (Off_mono hO6 (fun b j q => Or.inr ⟨q.1, by omega, by omega⟩))) hK3 (KM_pt0 hM5 hWt (fun j jj => hO6 166 j (by omega))) (DC_pt hD (TW_MK hpn1) (by omega) (by omega)) hSt (by rw [e, up_same]) ((hO6 161 0 (by omega)).trans h0)
      · refine s_X_grow_57 ⟨fun y => by omega, fun _ => t_X_fail (fun _ t e => ?_)⟩
        have hx : QX σ t 9 := QXn hS2 (Off_trans (Off_mono hO1 (fun b j q => (Or.inl q : b = 4 ∨ (69 ≤ b ∧ b ≤ 77)))) (Off_mono hO2 (fun b j q => Or.inr q))) (fun b j q => by unfold DX; omega) e
        refine beg (-1) t (KM_qx hM hx) (trys_x hI hx) (fun _ t5 hR hM5 hO h0 ht5 => R_isTray_s (fun _ _ => ⟨fun _ => ⟨⟨x0, x1⟩, ?_⟩, fun y => by omega⟩) (fun hn => absurd ⟨x0, x1⟩ hn)) (fun q => absurd hpn1 q)
        rw [ht5.1 x x0 x1]
        exact ⟨fun _ => R_wrongForm_s hR ht5 x0 x1 (l6 x x0 x1) (fun q => by omega) (fun q q2 => absurd za' q2) (fun q q2 => ⟨fun _ => R_isClosed_s hR ⟨x0, x1⟩ (c := fun q => σ 1 (60 * x + q)) (mcc t5 ht5) (fun w2 => absurd w2 w) (fun w2 => ⟨fun y => absurd rfl y, fun _ => R_ref (fun t6 h6 hO6 => ⟨rfl, IVT_q hI hx (Off_trans hO hO6) h6⟩)⟩), fun y => by omega⟩), fun z => by omega⟩
  · have hx := QXm hI e
    exact beg (-1) t (KM_qx hM hx) (trys_x hI hx) (fun hp => absurd (hr.mpr hp) (by omega)) (fun _ => ⟨rfl, hx⟩)
theorem c_squeeze {x : Int} (hI : IVT σ) : CAL d M_X_squeeze M_R_squeeze [vI x] σ := by
  obtain ⟨c, hK, hM, hD, hS⟩ := hI.2.2.1
  have hW := WD7 hK hD
  have hT := hW.2.2.2.2
  obtain ⟨b1, b2, b3, b4⟩ := hW.pn.b
  have hS0 := ST_n hI.2.2.2
  have hK' := KC_n hK rfl
  have l6 := l60 hI
  -- the model's checks of the numbers
  have chk : ∀ (v : Int) t5, RW t5 (c 0) (c 1) (TBc c 0) → trys σ t5 → 0 ≤ x → x < 4 → c 1 ≤ σ 3 x → (gAll σ x (c 1) (-20) 20 → Tri (d + 29) M_R_move [vA 161, vA 166, vI 0, vA 168, vI 0] t5 (fun r2 σ2 => L (d + 30) M_R_squeeze 118 [vA 161, vI x, vI 0, vU, vU, vU, vU] [] σ2 (fun r2 u2 => v = r2 ∧ IVT u2))) → (¬ gAll σ x (c 1) (-20) 20 → Tri (d + 29) M_R_no [vA 161, vI 5] t5 (fun r6 σ6 => (r6 = 0 ∨ r6 = 1) ∧ v = r6 ∧ IVT σ6)) → L (d + 30) M_R_squeeze 64 [vA 161, vI x, vI 0, vU, vU, vU, vU] [] t5 (fun r2 u2 => v = r2 ∧ IVT u2) := fun v t5 hR ht5 x0 x1 z4 hy hn => by
    have e27 := hR.2.2.1
    have s60 := l6 x x0 x1
    refine loop_up (S := Unit) (P := fun k _ => L (d + 30) M_R_squeeze 64 [vA 161, vI x, vI k, vU, vU, vU, vU] [] t5 (fun r2 u2 => v = r2 ∧ IVT u2)) (fun k _ => 0 ≤ k ∧ ∀ j, 0 ≤ j → j < k → -20 ≤ σ 1 (60 * x + j) ∧ σ 1 (60 * x + j) ≤ 20) (c 1) ?_ ?_ 0 (by omega) () ⟨Int.le_refl _, fun j j0 j1 => by omega⟩
    · rintro _ ⟨k0, a1⟩
      exact s_R_squeeze_64 ⟨fun _ => hy (fun k k0 k1 => a1 k k0 k1), fun y => by omega⟩
    · rintro k _ hk ⟨k0, a1⟩ next
      refine s_R_squeeze_64 ⟨fun y => by omega, fun _ => R_numberOf_s ⟨x0, x1⟩ ⟨k0, by omega⟩ ?_⟩
      rw [ht5.2 _ (by omega) (by omega), w32_id (x := k + 1) (by omega) (by omega)]
      refine R_isIn_s (fun y1 y2 => ⟨fun _ => next () ⟨by omega, fun j j0 j1 => ?_⟩, fun y => by omega⟩) (fun y => ⟨fun q => absurd rfl q, fun _ => hn (fun w => ?_)⟩)
      · by_cases q : j = k
        · rw [q]; exact ⟨y1, y2⟩
        · exact a1 j j0 (by omega)
      · have := w k k0 hk; omega
  have ref : ∀ s t1, gCod σ x (c 1) (-20) 20 s → Off (fun b j => b = 4) (nrm σ) t1 → L (d + 30) M_X_squeeze 30 [vA 0, vU, vI s] [] t1 (fun r u => Tri (d + 30) M_R_squeeze [vA 161, vI x] u (fun r2 u2 => r = r2 ∧ IVT u2)) := fun s t1 hs' hO1 => by
    have s0 : s ≠ 0 := by unfold gCod at hs'; omega
    refine s_X_squeeze_30 ⟨fun _ => ⟨fun _ => X_rf (fun t e => ?_), fun y => absurd y s0⟩, fun y => absurd y s0⟩
    have hS1 : ST t1 := hS0.off hO1 (fun e he => by have := ech_list he; omega)
    have hx : QX σ t s := QXn hS1 hO1 (fun b j q => by unfold DX; omega) e
    refine t_R_squeeze (fun _ t3 e3 t4 e4 => R_now e3 e4 (KM_qx hM hx) hD (fun t5 hR hO h0 hM5 => ?_))
    have ht5 := trys_o (trys_x hI hx) hO (fun j => by unfold DR; omega)
    have rf : ∀ r, r = s → Tri (d + 29) M_R_no [vA 161, vI r] t5 (fun r6 σ6 => (r6 = 0 ∨ r6 = 1) ∧ 0 = r6 ∧ IVT σ6) := fun r hr => R_nr (fun t6 h6 hO6 => ⟨rfl, IVT_q hI hx (Off_trans hO hO6) (by rw [h6, hr])⟩)
    refine R_isTray_s (fun x0 x1 => ⟨fun _ => ⟨⟨x0, x1⟩, ?_⟩, fun y => by omega⟩) (fun hn => ⟨fun y => absurd rfl y, fun _ => rf 1 (by unfold gCod at hs'; omega)⟩)
    rw [ht5.1 x x0 x1, hR.2.2.1]
    refine ⟨fun z => ⟨⟨x0, x1⟩, fun z2 => chk 0 t5 hR ht5 x0 x1 z2 (fun w => ?_) (fun w => rf 5 (by unfold gCod at hs'; omega)), fun z2 => rf 4 (by unfold gCod at hs'; omega)⟩, fun z => rf 3 (by unfold gCod at hs'; omega)⟩
    rcases hs' with h | h | h | h
    · exact absurd ⟨x0, x1⟩ h.2
    · omega
    · omega
    · exact absurd w h.2.2.2.2
  refine Tri_n (t_X_squeeze (fun _ => X_trayTrouble_s (fun z => ⟨fun _ => ref 1 _ (Or.inl ⟨rfl, z⟩) Off_rfl, fun y => by omega⟩) (fun x0 x1 z => ⟨fun _ => ref 3 _ (Or.inr (Or.inl ⟨rfl, ⟨x0, x1⟩, by rw [n3] at z; exact z⟩)) Off_rfl, fun y => by omega⟩) (fun x0 x1 z => ⟨fun y => absurd rfl y, fun _ => ?_⟩)))
  rw [n3] at z
  rw [hW.2.2.1]
  refine X_gatherNumbers_s x0 x1 (by omega) (by omega) (by omega) (by omega) (by rw [n3]; exact l6 x x0 x1) (fun q => ref 4 _ (Or.inr (Or.inr (Or.inl ⟨rfl, ⟨x0, x1⟩, z, by rw [n3] at q; exact q⟩))) Off_rfl) (fun q q2 t1 hO1 => ref 5 t1 (Or.inr (Or.inr (Or.inr ⟨rfl, ⟨x0, x1⟩, z, by rw [n3] at q; exact q, fun w => q2 (fun k k0 k1 => by rw [n1]; exact w k k0 k1)⟩))) hO1) (fun q q2 t1 h4 hO1 => ?_)
  rw [n3] at q
  have za := gAll_n q2
  have hW1 : WD t1 7 (c 0) (c 1) (TBc c 0) := hW.cg (fun k => hO1 7 k (by omega)) (fun k => hO1 (7 + 1) k (by omega))
  have hS1 : ST t1 := hS0.off hO1 (fun e he => by have := ech_list he; omega)
  have hK1 : KC t1 6 c := hK'.off (OffN_of hO1) (fun b j q1 q2 => by omega)
  -- the model's half, up to its squeezing
  have mod : ∀ (v : Int) t, KM t 0 c → trys σ t → (∀ t6, RW t6 (c 0) (c 1) (TBc c 0) → KM t6 0 c → trys σ t6 → Off DR t t6 → t6 161 0 = 0 → t6 168 0 = c 0 → t6 168 1 = c 1 → (∀ u, 0 ≤ u → u < 125 → t6 168 (0 + 2 + u) = TBc c 0 u) → L (d + 30) M_R_squeeze 118 [vA 161, vI x, vI 0, vU, vU, vU, vU] [] t6 (fun r2 u2 => v = r2 ∧ IVT u2)) → Tri (d + 30) M_R_squeeze [vA 161, vI x] t (fun r2 u2 => v = r2 ∧ IVT u2) := fun v t hMt htr h => by
    refine t_R_squeeze (fun _ t3 e3 t4 e4 => R_now e3 e4 hMt hD (fun t5 hR hO h0 hM5 => ?_))
    have ht5 := trys_o htr hO (fun j => by unfold DR; omega)
    refine R_isTray_s (fun _ _ => ⟨fun _ => ⟨⟨x0, x1⟩, ?_⟩, fun y => by omega⟩) (fun hn => absurd ⟨x0, x1⟩ hn)
    rw [ht5.1 x x0 x1, hR.2.2.1]
    have hW5 := KM_W0 hM5 hD
    refine ⟨fun _ => ⟨⟨x0, x1⟩, fun _ => chk v t5 hR ht5 x0 x1 q (fun _ => R_move_s kd_166 (by omega) kd_168 (by omega) (by omega) (by omega) (by omega) (by omega) (by omega) (by omega) (fun t6 hcp hO6 => ?_)) (fun w => absurd za w), fun y => by omega⟩, fun y => by omega⟩
    refine h t6 (hR.fr (fun k _ _ => hO6 161 k (by omega)) (fun k => hO6 166 k (by omega)) (fun k => hO6 196 k (by omega))) (hM5.fr (fun j => hO6 166 j (by omega))) (trys_o ht5 hO6 (fun j => by omega)) (Off_trans hO (Off_mono hO6 (fun b j q => by unfold DR; omega))) ((hO6 161 0 (by omega)).trans h0) ?_ ?_ (fun u u0 u1 => ?_)
    · have := hcp 0 (by omega) (by omega); rw [Int.add_zero] at this; exact this.trans hW5.1
    · exact (hcp 1 (by omega) (by omega)).trans hW5.2.1
    · have := hcp (2 + u) (by omega) (by omega)
      rw [show (0 : Int) + (2 + u) = 0 + 2 + u by omega] at this
      exact this.trans (hW5.2.2.1 u u0 u1)
  have wts : ∀ k, 0 ≤ k → k < c 1 → -20 ≤ σ 1 (60 * x + k) ∧ σ 1 (60 * x + k) ≤ 20 := za
  have s60 := l6 x x0 x1
  refine s_X_squeeze_30 ⟨fun y => absurd rfl y, fun _ => Wo_squeezeBy_s (wt := fun k => σ 1 (60 * x + k)) hW1 (by omega) (by omega) (fun k k0 k1 => ⟨by rw [h4 k k0 k1, n1], wts k k0 k1⟩) (fun hok t2 hWN hO2 => ⟨fun _ => ⟨fun y => absurd rfl y, fun _ => t_X_agree (fun t e => ⟨Or.inr rfl, ?_⟩)⟩, fun y => by omega⟩) (fun hok t2 hO2 => ⟨fun y => absurd rfl y, fun _ => ⟨fun _ => X_rf (fun t e => ?_), fun y => by omega⟩⟩)⟩
  · have hO03 : Off (fun b j => (b = 0 ∧ j = 0) ∨ b = 4 ∨ (7 ≤ b ∧ b ≤ 8) ∨ (b = 105 ∧ (j = 1 ∨ j = 2)) ∨ b = 106) (nrm σ) t := Off_trans (Off_mono hO1 (fun b j q => by omega)) (Off_trans (Off_mono hO2 (fun b j q => by omega)) (by rw [e]; exact Off_up (Or.inl ⟨rfl, rfl⟩)))
    have hOa : OffN (fun b j => (b = 0 ∧ j = 0) ∨ b = 4 ∨ b = 5 ∨ (7 ≤ b ∧ b ≤ 8) ∨ (13 ≤ b ∧ b ≤ 20) ∨ (39 ≤ b ∧ b ≤ 113)) σ t := OffN_n (Off_mono hO03 (fun b j q => by omega))
    have hSt : ST t := hS0.off hO03 (fun y hy => by have := ech_list hy; omega)
    have hK3 : KC t 6 (ptW c 0 (c 0) (c 1) (MK (c 0) (c 1) (SQZ (TBc c 0) (fun k => σ 1 (60 * x + k))))) := by
      have h1 : KC t2 6 (ptW c 0 (c 0) (c 1) (MK (c 0) (c 1) (SQZ (TBc c 0) (fun k => σ 1 (60 * x + k))))) := KC_w0 hK1 hWN.1 hWN.2.1 hWN.2.2 (OffN_of (Off_mono hO2 (fun b j q => by omega)))
      exact h1.off (D := fun b j => b = 0) (OffN_of (by rw [e]; exact Off_up rfl)) (fun b j q1 q2 => by omega)
    have hMt := KM_nx hM hOa (fun j => by omega)
    have htr : trys σ t := ⟨fun i i0 i1 => by rw [hOa 163 i (by omega) (by omega)]; exact (hI.2.1.2.2.2.1 i i0 i1).2.1.symm, fun j j0 j1 => by rw [hOa 164 j (by omega) (by omega)]; exact (hI.2.1.2.2.2.2.1 j j0 j1).symm⟩
    refine mod 1 t hMt htr (fun t6 hR6 hM6 ht6 hO6 h06 m0 m1 m2 => R_squeeze_l hR6 ⟨x0, x1⟩ (wt := fun k => σ 1 (60 * x + k)) (fun k k0 k1 => ⟨ht6.2 _ (by omega) (by omega), wts k k0 k1⟩) m0 m1 m2 (fun _ t7 hWt hO7 => ⟨rfl, ?_⟩) (fun w => absurd hok w))
    exact IVT_2 hI hOa (Off_trans (Off_mono hO6 (fun b j q => Or.inl q)) (Off_mono hO7 (fun b j q => by unfold DR; omega))) hK3 (KM_pt0 hM6 hWt (fun j jj => hO7 166 j (by omega))) (DC_pt hD (TW_MK hW.pn) (by omega) (by omega)) hSt (by rw [e, up_same]) ((hO7 161 0 (by omega)).trans h06)
  · have hO03 : Off (fun b j => b = 4 ∨ (b = 105 ∧ (j = 1 ∨ j = 2)) ∨ b = 106) (nrm σ) t2 := Off_trans (Off_mono hO1 (fun b j q => by omega)) (Off_mono hO2 (fun b j q => by omega))
    have hx : QX σ t 9 := QXn (hS0.off hO03 (fun y hy => by have := ech_list hy; omega)) hO03 (fun b j q => by unfold DX; omega) e
    refine mod 0 t (KM_qx hM hx) (trys_x hI hx) (fun t6 hR6 hM6 ht6 hO6 h06 m0 m1 m2 => R_squeeze_l hR6 ⟨x0, x1⟩ (wt := fun k => σ 1 (60 * x + k)) (fun k k0 k1 => ⟨ht6.2 _ (by omega) (by omega), wts k k0 k1⟩) m0 m1 m2 (fun w => absurd w hok) (fun _ t7 h7 hO7 => ⟨rfl, ?_⟩))
    exact IVT_q hI hx (Off_trans hO6 (Off_mono hO7 (fun b j q => by unfold DR; omega))) h7
end CWO
