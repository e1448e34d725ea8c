/-! ===== calls: STATUS, TRAYS ===== -/
def Pa (σ : SG) : Prop := σ 0 1 = σ 161 2 ∧ σ 0 2 = σ 161 3
def Pb (σ : SG) : Prop := σ 0 3 = σ 161 44 ∧ -1 ≤ σ 0 3 ∧ σ 0 3 ≤ 200000
def Pc' (σ : SG) : Prop := σ 0 4 = σ 161 23 ∧ 0 ≤ σ 0 4 ∧ σ 0 4 ≤ 3
def Pd (σ : SG) : Prop := ∀ i, 0 ≤ i → i < 4 → σ 2 i = σ 162 i ∧ σ 3 i = σ 163 i ∧ -1 ≤ σ 3 i ∧ σ 3 i ≤ 60
def Pe (σ : SG) : Prop := ∀ j, 0 ≤ j → j < 240 → σ 1 j = σ 164 j
def Pf (σ : SG) : Prop := (∀ q, 0 ≤ q → q < 600 → σ 23 q = σ 165 q ∧ -128 ≤ σ 23 q ∧ σ 23 q ≤ 127) ∧ σ 22 0 = σ 161 8 ∧ 0 ≤ σ 22 0 ∧ σ 22 0 ≤ 600
def Pg (σ : SG) : Prop := σ 22 2 = σ 161 10 ∧ σ 22 3 = σ 161 11
def Ph (σ : SG) : Prop := ∀ i, 0 ≤ i → i < σ 0 4 → DKS σ (116 + 15 * i) (860 * (i + 1))
def Pi (σ : SG) : Prop := σ 114 0 = σ 161 49 ∧ (σ 114 0 ≠ 0 → σ 114 2 = σ 184 0 ∧ σ 114 3 = σ 184 1) ∧ ∀ j, 0 ≤ j → j < 60 → 0 ≤ σ 115 j ∧ σ 115 j ≤ 99
/-- frames, part by part: what is changed (E) is told anew -/
theorem P0.gen {σ t : SG} (h : P0 σ) (E : Int → Int → Prop) (h1 : ∀ b j, PR0 b j → ¬ E b j → t b j = σ b j)
    (ha : Pa t ∨ ∀ b j, ((b = 0 ∧ 1 ≤ j ∧ j ≤ 2) ∨ (b = 161 ∧ 2 ≤ j ∧ j ≤ 3)) → ¬ E b j)
    (hb : Pb t ∨ ∀ b j, ((b = 0 ∧ j = 3) ∨ (b = 161 ∧ j = 44)) → ¬ E b j)
    (hc : Pc' t ∨ ∀ b j, ((b = 0 ∧ j = 4) ∨ (b = 161 ∧ j = 23)) → ¬ E b j)
    (hd : Pd t ∨ ∀ b j, (b = 2 ∨ b = 3 ∨ b = 162 ∨ b = 163) → ¬ E b j)
    (he : Pe t ∨ ∀ b j, (b = 1 ∨ b = 164) → ¬ E b j)
    (hf : Pf t ∨ ∀ b j, (b = 23 ∨ b = 165 ∨ (b = 22 ∧ j = 0) ∨ (b = 161 ∧ j = 8)) → ¬ E b j)
    (hg : Pg t ∨ ∀ b j, ((b = 22 ∧ 2 ≤ j ∧ j ≤ 3) ∨ (b = 161 ∧ 10 ≤ j ∧ j ≤ 11)) → ¬ E b j)
    (hh : Ph t ∨ ∀ b j, ((b = 0 ∧ j = 4) ∨ (116 ≤ b ∧ b ≤ 160) ∨ (b = 166 ∧ 860 ≤ j)) → ¬ E b j)
    (hi : Pi t ∨ ∀ b j, (b = 114 ∨ b = 115 ∨ (b = 161 ∧ j = 49) ∨ b = 184) → ¬ E b j)
    (hu : ∀ j, ¬ E (-2) j) : P0 t := by
  obtain ⟨a1, b1, c1, d1, e1, f1, g1, i1, j1, k1⟩ := h
  refine ⟨?_, ?_, ?_, ?_, ?_, ?_, ?_, ?_, ?_, fun j j0 j4 => by rw [h1 (-2) j (by unfold PR0; omega) (hu j)]; exact k1 j j0 j4⟩
  · rcases ha with q | q
    · exact q
    · rw [h1 0 1 (by unfold PR0; omega) (q _ _ (by omega)), h1 0 2 (by unfold PR0; omega) (q _ _ (by omega)), h1 161 2 (by unfold PR0; omega) (q _ _ (by omega)), h1 161 3 (by unfold PR0; omega) (q _ _ (by omega))]; exact a1
  · rcases hb with q | q
    · exact q
    · rw [h1 0 3 (by unfold PR0; omega) (q _ _ (by omega)), h1 161 44 (by unfold PR0; omega) (q _ _ (by omega))]; exact b1
  · rcases hc with q | q
    · exact q
    · rw [h1 0 4 (by unfold PR0; omega) (q _ _ (by omega)), h1 161 23 (by unfold PR0; omega) (q _ _ (by omega))]; exact c1
  · rcases hd with q | q
    · exact q
    · intro i i0 i2
      rw [h1 2 i (by unfold PR0; omega) (q _ _ (by omega)), h1 3 i (by unfold PR0; omega) (q _ _ (by omega)), h1 162 i (by unfold PR0; omega) (q _ _ (by omega)), h1 163 i (by unfold PR0; omega) (q _ _ (by omega))]; exact d1 i i0 i2
  · rcases he with q | q
    · exact q
    · intro i i0 i2
      rw [h1 1 i (by unfold PR0; omega) (q _ _ (by omega)), h1 164 i (by unfold PR0; omega) (q _ _ (by omega))]; exact e1 i i0 i2
  · rcases hf with q | q
    · exact q
    · refine ⟨fun i i0 i2 => ?_, ?_⟩
      · rw [h1 23 i (by unfold PR0; omega) (q _ _ (by omega)), h1 165 i (by unfold PR0; omega) (q _ _ (by omega))]; exact f1.1 i i0 i2
      · rw [h1 22 0 (by unfold PR0; omega) (q _ _ (by omega)), h1 161 8 (by unfold PR0; omega) (q _ _ (by omega))]; exact f1.2
  · rcases hg with q | q
    · exact q
    · rw [h1 22 2 (by unfold PR0; omega) (q _ _ (by omega)), h1 22 3 (by unfold PR0; omega) (q _ _ (by omega)), h1 161 10 (by unfold PR0; omega) (q _ _ (by omega)), h1 161 11 (by unfold PR0; omega) (q _ _ (by omega))]; exact g1
  · rcases hh with q | q
    · exact q
    · intro i i0 i2
      rw [h1 0 4 (by unfold PR0; omega) (q _ _ (by omega))] at i2
      have c1' := c1.2.2
      exact (i1 i i0 i2).fr (by omega) (fun b j q1 q2 _ => h1 b j (by unfold PR0; omega) (q _ _ (by omega))) (fun j q1 q2 => h1 166 j (by unfold PR0; omega) (q _ _ (by omega)))
  · rcases hi with q | q
    · exact q
    · rw [h1 114 0 (by unfold PR0; omega) (q _ _ (by omega)), h1 114 2 (by unfold PR0; omega) (q _ _ (by omega)), h1 114 3 (by unfold PR0; omega) (q _ _ (by omega)), h1 161 49 (by unfold PR0; omega) (q _ _ (by omega)), h1 184 0 (by unfold PR0; omega) (q _ _ (by omega)), h1 184 1 (by unfold PR0; omega) (q _ _ (by omega))]
      exact ⟨j1.1, j1.2.1, fun i i0 i2 => by rw [h1 115 i (by unfold PR0; omega) (q _ _ (by omega))]; exact j1.2.2 i i0 i2⟩
/-- calls that leave the DESK -/
theorem IVT_g {σ t : SG} (hI : IVT σ) (hP : P0 t) (h1 : ∀ b j, 7 ≤ b → b ≤ 20 → (¬ (b = 8 ∨ b = 14 ∨ b = 16 ∨ b = 18 ∨ b = 20) ∨ (0 ≤ j ∧ j < 125)) → t b j = σ b j) (h2 : ∀ j, j < 860 → t 166 j = σ 166 j) (hS : ∀ e j, 39 ≤ e → e ≤ 107 → t e j = σ e j) (h0 : t 0 0 = t 161 0) : IVT t :=
  ⟨h0, hP, hI.2.2.1.fr (Or.inl rfl) (fun b j q1 q2 q3 => h1 b j (by omega) (by omega) q3) (fun j q1 q2 => h2 j (by omega)), fun e he => by have := ech_list he; rw [hS e 0 (by omega) (by omega)]; exact hI.2.2.2 e he⟩
section CTR
variable {d : Nat} {σ : SG}
theorem QX1 (hI : IVT σ) : QX σ σ (σ 0 0) := ⟨OffN_rfl, hI.2.2.2, rfl⟩
theorem th1 {t : SG} (e : t = up σ 161 1 0) : Off DR σ t := by rw [e]; exact Off_up (Or.inl ⟨rfl, by omega⟩)
theorem c_status (hI : IVT σ) : CAL d M_X_status M_R_status [] σ :=
  t_X_status (t_R_status (fun t e => ⟨by rw [e, up_ne (by omega)]; exact hI.1, IVT_q hI (QX1 hI) (th1 e) (by rw [e, up_ne (by omega)]; exact hI.1.symm)⟩))
theorem c_top (hI : IVT σ) : CAL d M_X_top M_R_top [] σ :=
  t_X_top (t_R_top (fun t e => ⟨by rw [e, up_ne (by omega)]; exact hI.2.1.1.1, IVT_q hI (QX1 hI) (th1 e) (by rw [e, up_ne (by omega)]; exact hI.1.symm)⟩))
theorem c_bottom (hI : IVT σ) : CAL d M_X_bottom M_R_bottom [] σ :=
  t_X_bottom (t_R_bottom (fun t e => ⟨by rw [e, up_ne (by omega)]; exact hI.2.1.1.2, IVT_q hI (QX1 hI) (th1 e) (by rw [e, up_ne (by omega)]; exact hI.1.symm)⟩))
theorem c_fault {x : Int} (hI : IVT σ) : CAL d M_X_fault M_R_fault [vI x] σ := by
  have hg := hI.2.1.2.2.2.2.2.2.1
  have fin : ∀ (r1 r2 : Int) (t : SG), t = up σ 161 1 0 → r1 = r2 → r1 = r2 ∧ IVT t := fun r1 r2 t e h => ⟨h, IVT_q hI (QX1 hI) (th1 e) (by rw [e, up_ne (by omega)]; exact hI.1.symm)⟩
  refine t_X_fault (fun _ => ⟨fun z => ⟨fun z1 => t_R_fault (fun _ t e => ⟨fun _ => ⟨fun _ => fin _ _ t e rfl, fun y => absurd y z1⟩, fun y => absurd y z⟩), fun z1 => t_R_fault (fun _ t e => ⟨fun _ => ⟨fun y => absurd z1 y, fun _ => fin _ _ t e (by rw [e, up_ne (by omega)]; exact hg.2)⟩, fun y => absurd y z⟩)⟩, fun z => t_R_fault (fun _ t e => ⟨fun y => absurd z y, fun _ => fin _ _ t e (by rw [e, up_ne (by omega)]; exact hg.1)⟩)⟩)
/-- a refusal of both -/
theorem no_no {t t1 t2 t3 : SG} {s : Int} (hI : IVT σ) (hx : QX σ t s) (e1 : t1 = up t 161 1 0) (e2 : t2 = up t1 161 0 0) (h3 : t3 161 0 = s) (hO : Off DR t2 t3) : IVT t3 := IVT_q hI hx (Off_trans (RM0 e1 e2).1 hO) h3
theorem X_rf {t : SG} {s : Int} {Q : Int → SG → Prop} (h : ∀ t2, t2 = up t 0 0 s → Q 0 t2) : Tri (d + 1) M_X_refuse [vA 0, vI s] t (fun r u => (r = 0 ∨ r = 1) ∧ Q r u) := t_X_refuse (fun _ t2 e => ⟨Or.inl rfl, h t2 e⟩)
theorem R_nr {t : SG} {s : Int} {Q : Int → SG → Prop} (h : ∀ t2, t2 161 0 = s → Off DR t t2 → Q 0 t2) : Tri (d + 1) M_R_no [vA 161, vI s] t (fun r u => (r = 0 ∨ r = 1) ∧ Q r u) := R_nos (fun t2 e hO => ⟨Or.inl rfl, h t2 e hO⟩)
theorem X_isTray_s {x : Int} {Q : Int → SG → Prop} (h1 : 0 ≤ x → x < 4 → Q 1 σ) (h0 : ¬ (0 ≤ x ∧ x < 4) → Q 0 σ) : Tri (d + 1) M_X_isTray [vI x] σ Q := t_X_isTray (fun _ => ⟨fun z => h0 (by omega), fun z => ⟨fun z2 => h0 (by omega), fun z2 => h1 z z2⟩⟩)
theorem R_isTray_s {x : Int} {Q : Int → SG → Prop} (h1 : 0 ≤ x → x < 4 → Q 1 σ) (h0 : ¬ (0 ≤ x ∧ x < 4) → Q 0 σ) : Tri (d + 2) M_R_isTray [vA 161, vI x] σ Q := t_R_isTray (fun _ => R_isIn_s (fun z z2 => ⟨Or.inr rfl, h1 z (by omega)⟩) (fun z => ⟨Or.inl rfl, h0 (by omega)⟩))
theorem c_tray {x1 x2 x3 : Int} (hI : IVT σ) : CAL d M_X_tray M_R_tray [vI x1, vI x2, vI x3] σ := by
  obtain ⟨a1, b1, c1, d1, e1, f1, g1, i1, j1, k1⟩ := hI.2.1
  -- the model refuses too
  have ref : ∀ s, (∀ t2, QX σ t2 s → Tri (d + 30) M_R_tray [vA 161, vI x1, vI x2, vI x3] t2 (fun r u => 0 = r ∧ IVT u)) → Tri (d + 29) M_X_refuse [vA 0, vI s] σ (fun r u => (r = 0 ∨ r = 1) ∧ Tri (d + 30) M_R_tray [vA 161, vI x1, vI x2, vI x3] u (fun r2 u2 => r = r2 ∧ IVT u2)) := fun s h => X_rf (fun t2 e => h t2 (QX0 hI e))
  have r1 : ¬ ((0 ≤ x1 ∧ x1 < 4) ∧ 0 ≤ x2 ∧ x2 ≤ 3) → ∀ t2, QX σ t2 1 → Tri (d + 30) M_R_tray [vA 161, vI x1, vI x2, vI x3] t2 (fun r u => 0 = r ∧ IVT u) := fun hn t2 hx => by
    have no : ∀ t3 t4, t3 = up t2 161 1 0 → t4 = up t3 161 0 0 → Tri (d + 29) M_R_no [vA 161, vI 1] t4 (fun r u => (r = 0 ∨ r = 1) ∧ 0 = r ∧ IVT u) := fun t3 t4 e3 e4 => R_nr (fun t5 h5 hO => ⟨rfl, no_no hI hx e3 e4 h5 hO⟩)
    exact t_R_tray (fun _ _ _ t3 e3 t4 e4 => ⟨fun _ => no t3 t4 e3 e4, fun z => ⟨fun _ => no t3 t4 e3 e4, fun z2 => ⟨fun _ => no t3 t4 e3 e4, fun z3 => ⟨fun z4 => by omega, fun _ => no t3 t4 e3 e4⟩⟩⟩⟩)
  have good : ∀ (s : Int) t2, ((0 ≤ x1 ∧ x1 < 4) ∧ 0 ≤ x2 ∧ x2 ≤ 3) → ((s = 5 ∧ 60 < x3) ∨ (s = 6 ∧ x3 < 0)) → QX σ t2 s → Tri (d + 30) M_R_tray [vA 161, vI x1, vI x2, vI x3] t2 (fun r u => 0 = r ∧ IVT u) := fun s t2 hg hs hx => by
    have no : ∀ t3 t4, t3 = up t2 161 1 0 → t4 = up t3 161 0 0 → Tri (d + 29) M_R_no [vA 161, vI s] t4 (fun r u => (r = 0 ∨ r = 1) ∧ 0 = r ∧ IVT u) := fun t3 t4 e3 e4 => R_nr (fun t5 h5 hO => ⟨rfl, no_no hI hx e3 e4 h5 hO⟩)
    refine t_R_tray (fun _ _ _ t3 e3 t4 e4 => ⟨fun z => by omega, fun _ => ⟨fun z => by omega, fun _ => ⟨fun z => by omega, fun _ => ⟨fun _ => ⟨fun z5 => ⟨fun z6 => by omega, fun z6 => ?_⟩, fun z5 => ?_⟩, fun z => by omega⟩⟩⟩⟩)
    · have := no t3 t4 e3 e4; rw [show s = 6 by omega] at this; exact this
    · have := no t3 t4 e3 e4; rw [show s = 5 by omega] at this; exact this
  refine t_X_tray (fun _ _ _ => X_isTray_s (fun x10 x11 => ⟨fun y => by omega, fun _ => ⟨fun z => ref 1 (r1 (by omega)), fun z => ⟨fun z2 => ⟨fun z3 => ⟨fun z4 => ⟨⟨x10, x11⟩, fun t1 e1' => ⟨⟨x10, x11⟩, fun t2 e2' => ?_⟩⟩, fun z4 => ref 6 (fun t2 hx => good 6 t2 ⟨⟨x10, x11⟩, z, z2⟩ (Or.inr ⟨rfl, z4⟩) hx)⟩, fun z3 => ref 5 (fun t2 hx => good 5 t2 ⟨⟨x10, x11⟩, z, z2⟩ (Or.inl ⟨rfl, z3⟩) hx)⟩, fun z2 => ref 1 (r1 (by omega))⟩⟩⟩) (fun hn => ⟨fun _ => ref 1 (r1 (fun z => hn z.1)), fun y => absurd rfl y⟩))
  rw [w32_id (x := x1 * 60) (by omega) (by omega), w32_id (x := x1 * 60 + x3) (by omega) (by omega)]
  refine JA_fillJ_s (n := 240) (by omega) kd_1 (by omega) (by omega) (by show x1 * 60 + x3 ≤ (240 : Int); omega) (t_X_agree (fun t3 e3 => ⟨Or.inr rfl, ?_⟩))
  have rr : ∀ b j, (b ≠ 0 ∨ j ≠ 0) → (b ≠ 1 ∨ j < x1 * 60 ∨ x1 * 60 + x3 ≤ j) → (b ≠ 2 ∨ j ≠ x1) → (b ≠ 3 ∨ j ≠ x1) → t3 b j = σ b j := fun b j q1 q2 q3 q4 => by rw [e3, up_ne q1, fil_ne q2, e2', up_ne q4, e1', up_ne q3]
  have s2 : t3 2 x1 = x2 := by rw [e3, up_ne (by omega), fil_ne (by omega), e2', up_ne (by omega), e1', up_same]
  have s3 : t3 3 x1 = x3 := by rw [e3, up_ne (by omega), fil_ne (by omega), e2', up_same]
  have s1 : ∀ j, x1 * 60 ≤ j → j < x1 * 60 + x3 → t3 1 j = 0 := fun j j0 j1 => by rw [e3, up_ne (by omega), fil_in j0 j1]
  refine t_R_tray (fun _ _ _ t4 e4 t5 e5 => ⟨fun z => by omega, fun _ => ⟨fun z => by omega, fun _ => ⟨fun z => by omega, fun _ => ⟨fun _ => ⟨fun _ => ⟨fun _ => ⟨⟨x10, x11⟩, fun t6 e6 => ⟨⟨x10, x11⟩, fun t7 e7 => ?_⟩⟩, fun z => by omega⟩, fun z => by omega⟩, fun z => by omega⟩⟩⟩⟩)
  have r7 : ∀ b j, (b ≠ 161 ∨ (j ≠ 0 ∧ j ≠ 1)) → (b ≠ 162 ∨ j ≠ x1) → (b ≠ 163 ∨ j ≠ x1) → t7 b j = t3 b j := fun b j q1 q2 q3 => by rw [e7, up_ne q3, e6, up_ne q2, e5, up_ne (by omega), e4, up_ne (by omega)]
  have s162 : t7 162 x1 = x2 := by rw [e7, up_ne (by omega), e6, up_same]
  have s163 : t7 163 x1 = x3 := by rw [e7, up_same]
  have s161 : t7 161 0 = 0 := by rw [e7, up_ne (by omega), e6, up_ne (by omega), e5, up_same]
  have s00 : t7 0 0 = 0 := by rw [r7 0 0 (by omega) (by omega) (by omega), e3, up_same]
  refine loop_up (P := fun x s => L (d + 30) M_R_tray 74 [vA 161, vI x1, vU, vI x3, vI x] [] s (fun r2 σ2 => 1 = r2 ∧ IVT σ2)) (fun x s => 0 ≤ x ∧ (∀ j, 60 * x1 ≤ j → j < 60 * x1 + x → s 164 j = 0) ∧ Off (fun b j => b = 164 ∧ 60 * x1 ≤ j ∧ j < 60 * x1 + x) t7 s) x3 ?_ ?_ 0 (by omega) t7 ⟨Int.le_refl _, fun j j0 j1 => by omega, Off_rfl⟩
  · intro s ⟨y0, hs, hO⟩
    refine s_R_tray_74 ⟨fun _ => ⟨rfl, ?_⟩, fun y => by omega⟩
    have fr : ∀ b j, ¬ (b = 164 ∧ 60 * x1 ≤ j ∧ j < 60 * x1 + x3) → (b ≠ 161 ∨ (j ≠ 0 ∧ j ≠ 1)) → (b ≠ 162 ∨ j ≠ x1) → (b ≠ 163 ∨ j ≠ x1) → (b ≠ 0 ∨ j ≠ 0) → (b ≠ 1 ∨ j < x1 * 60 ∨ x1 * 60 + x3 ≤ j) → (b ≠ 2 ∨ j ≠ x1) → (b ≠ 3 ∨ j ≠ x1) → s b j = σ b j := fun b j q1 q2 q3 q4 q5 q6 q7 q8 => by rw [hO b j q1, r7 b j q2 q3 q4, rr b j q5 q6 q7 q8]
    refine IVT_g hI (hI.2.1.gen (fun b j => (1 ≤ b ∧ b ≤ 3) ∨ (162 ≤ b ∧ b ≤ 164)) (fun b j q1 q2 => fr b j (by omega) (by unfold PR0 at q1; omega) (by omega) (by omega) (by unfold PR0 at q1; omega) (by omega) (by omega) (by omega)) (Or.inr (fun b j q => by omega)) (Or.inr (fun b j q => by omega)) (Or.inr (fun b j q => by omega)) (Or.inl (fun i i0 i1 => ?_)) (Or.inl (fun j j0 j1 => ?_)) (Or.inr (fun b j q => by omega)) (Or.inr (fun b j q => by omega)) (Or.inr (fun b j q => by omega)) (Or.inr (fun b j q => by omega)) (fun j => by omega)) (fun b j q1 q2 q3 => fr b j (by omega) (by omega) (by omega) (by omega) (by omega) (by omega) (by omega) (by omega)) (fun j _ => fr 166 j (by omega) (by omega) (by omega) (by omega) (by omega) (by omega) (by omega) (by omega)) (fun e j q1 q2 => fr e j (by omega) (by omega) (by omega) (by omega) (by omega) (by omega) (by omega) (by omega)) (by rw [hO 0 0 (by omega), hO 161 0 (by omega), s00, s161])
    · by_cases qi : i = x1
      · rw [qi, hO 2 _ (by omega), hO 162 _ (by omega), hO 3 _ (by omega), hO 163 _ (by omega), s162, s163, r7 2 _ (by omega) (by omega) (by omega), r7 3 _ (by omega) (by omega) (by omega), s2, s3]
        exact ⟨rfl, rfl, by omega, by omega⟩
      · rw [fr 2 i (by omega) (by omega) (by omega) (by omega) (by omega) (by omega) (by omega) (by omega), fr 162 i (by omega) (by omega) (by omega) (by omega) (by omega) (by omega) (by omega) (by omega), fr 3 i (by omega) (by omega) (by omega) (by omega) (by omega) (by omega) (by omega) (by omega), fr 163 i (by omega) (by omega) (by omega) (by omega) (by omega) (by omega) (by omega) (by omega)]
        exact d1 i i0 i1
    · by_cases qj : 60 * x1 ≤ j ∧ j < 60 * x1 + x3
      · rw [hs j qj.1 qj.2, hO 1 j (by omega), r7 1 j (by omega) (by omega) (by omega), s1 j (by omega) (by omega)]
      · rw [fr 1 j (by omega) (by omega) (by omega) (by omega) (by omega) (by omega) (by omega) (by omega), fr 164 j (by omega) (by omega) (by omega) (by omega) (by omega) (by omega) (by omega) (by omega)]
        exact e1 j j0 j1
  · intro x s hx ⟨y0, hs, hO⟩ next
    refine s_R_tray_74 ⟨fun y => by omega, fun _ => ?_⟩
    rw [w32_id (x := 60 * x1) (by omega) (by omega), w32_id (x := 60 * x1 + x) (by omega) (by omega), w32_id (x := x + 1) (by omega) (by omega)]
    refine ⟨⟨by omega, by omega⟩, fun s2 e2 => next s2 ⟨by omega, fun j j0 j1 => ?_, fun b j q => ?_⟩⟩
    · by_cases qj : j = 60 * x1 + x
      · rw [qj, e2, up_same]
      · rw [e2, up_ne (by omega)]; exact hs j j0 (by omega)
    · rw [e2, up_ne (by omega)]; exact hO b j (by omega)
end CTR
