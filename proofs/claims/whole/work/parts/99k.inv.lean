/-! ===== what holds between calls ===== -/
def MSf (σ : SG) (f : Int) (M : Int → Int → Int) (k : Int) : Prop := ∀ q c, 0 ≤ q → q < k → 0 ≤ c → c < 7 → σ 166 (f + 637 + 7 * q + c) = M q c
def SRc (σ : SG) (a f : Int) : Prop := (σ a 0 = 0 ∧ σ 166 (f + 635) = 0) ∨ (σ a 0 = 1 ∧ σ 166 (f + 635) = 1 ∧ ∃ (C M : Int → Int → Int) (o : Int → Int) (l k : Int), SI l k 0 o C M ∧ (0 ≤ l ∧ l ≤ 60 ∧ 0 ≤ k ∧ k ≤ 30) ∧ σ a 1 = k ∧ σ a 2 = l ∧ CRa σ (a + 1) C ∧ σ 166 (f + 636) = k ∧ MSf σ f M k)
theorem SRc.fr {σ σ' : SG} {a f : Int} (h : SRc σ a f) (h1 : ∀ j, 0 ≤ j → j ≤ 2 → σ' a j = σ a j) (h2 : ∀ j, 0 ≤ j → j < 360 → σ' (a + 1) j = σ (a + 1) j) (h3 : ∀ j, f + 635 ≤ j → j < f + 860 → σ' 166 j = σ 166 j) : SRc σ' a f := by
  rcases h with ⟨p, q⟩ | ⟨p, q, C, M, o, l, k, i1, i2, i3, i4, i5, i6, i7⟩
  · exact Or.inl ⟨by rw [h1 0 (by omega) (by omega)]; exact p, by rw [h3 _ (by omega) (by omega)]; exact q⟩
  · refine Or.inr ⟨by rw [h1 0 (by omega) (by omega)]; exact p, by rw [h3 _ (by omega) (by omega)]; exact q, C, M, o, l, k, i1, i2, by rw [h1 1 (by omega) (by omega)]; exact i3, by rw [h1 2 (by omega) (by omega)]; exact i4, fun u v u0 u1 v0 v1 => ?_, by rw [h3 _ (by omega) (by omega)]; exact i6, fun u v u0 u1 v0 v1 => ?_⟩
    · rw [h2 _ (by omega) (by omega)]; exact i5 u v u0 u1 v0 v1
    · rw [h3 _ (by omega) (by omega)]; exact i7 u v u0 u1 v0 v1
def DKS (σ : SG) (x f : Int) : Prop := ∃ c, KC σ x c ∧ KM σ f c ∧ DC c ∧ SRc σ (x + 4) f
theorem DKS.fr {σ σ' : SG} {x f : Int} (h : DKS σ x f) (hx : x = 6 ∨ 116 ≤ x) (h1 : ∀ b j, x + 1 ≤ b → b ≤ x + 14 → (¬ (b = 8 ∨ b = 14 ∨ b = 16 ∨ b = 18 ∨ b = 20) ∨ (0 ≤ j ∧ j < 125)) → σ' b j = σ b j) (h2 : ∀ j, f ≤ j → j < f + 860 → σ' 166 j = σ 166 j) : DKS σ' x f := by
  obtain ⟨c, hK, hM, hD, hS⟩ := h
  exact ⟨c, hK.off (D := fun b j => ¬ (x + 1 ≤ b ∧ b ≤ x + 14)) (fun b j q1 q2 => h1 b j (by omega) (by omega) q2) (fun b j q1 q2 q3 => q3 ⟨q1, q2⟩), fun j j0 j1 => by rw [h2 _ (by omega) (by omega)]; exact hM j j0 j1, hD, hS.fr (fun j j0 j1 => h1 _ _ (by omega) (by omega) (by omega)) (fun j j0 j1 => h1 _ _ (by omega) (by omega) (by omega)) (fun j j0 j1 => h2 _ (by omega) (by omega))⟩
/-- all but the DESK and the STATUS -/
def P0 (σ : SG) : Prop :=
  (σ 0 1 = σ 161 2 ∧ σ 0 2 = σ 161 3) ∧ (σ 0 3 = σ 161 44 ∧ -1 ≤ σ 0 3 ∧ σ 0 3 ≤ 200000) ∧ (σ 0 4 = σ 161 23 ∧ 0 ≤ σ 0 4 ∧ σ 0 4 ≤ 3) ∧
  (∀ i, 0 ≤ i → i < 4 → σ 2 i = σ 162 i ∧ σ 3 i = σ 163 i ∧ -1 ≤ σ 3 i ∧ σ 3 i ≤ 60) ∧ (∀ j, 0 ≤ j → j < 240 → σ 1 j = σ 164 j) ∧
  ((∀ q, 0 ≤ q → q < 600 → σ 23 q = σ 165 q ∧ -128 ≤ σ 23 q ∧ σ 23 q ≤ 127) ∧ σ 22 0 = σ 161 8 ∧ 0 ≤ σ 22 0 ∧ σ 22 0 ≤ 600) ∧ (σ 22 2 = σ 161 10 ∧ σ 22 3 = σ 161 11) ∧
  (∀ i, 0 ≤ i → i < σ 0 4 → DKS σ (116 + 15 * i) (860 * (i + 1))) ∧ (σ 114 0 = σ 161 49 ∧ (σ 114 0 ≠ 0 → σ 114 2 = σ 184 0 ∧ σ 114 3 = σ 184 1) ∧ ∀ j, 0 ≤ j → j < 60 → 0 ≤ σ 115 j ∧ σ 115 j ≤ 99) ∧ UN σ
def PR0 (b j : Int) : Prop := (b = 0 ∧ 1 ≤ j ∧ j ≤ 4) ∨ (1 ≤ b ∧ b ≤ 3) ∨ (b = 22 ∧ (j = 0 ∨ j = 2 ∨ j = 3)) ∨ b = 23 ∨ b = 114 ∨ b = 115 ∨ (116 ≤ b ∧ b ≤ 160) ∨ (b = 161 ∧ (j = 2 ∨ j = 3 ∨ j = 8 ∨ j = 10 ∨ j = 11 ∨ j = 23 ∨ j = 44 ∨ j = 49)) ∨ (162 ≤ b ∧ b ≤ 165) ∨ (b = 166 ∧ 860 ≤ j) ∨ b = 184 ∨ b = -2
theorem P0.fr {σ σ' : SG} (h : P0 σ) (h1 : ∀ b j, PR0 b j → σ' b j = σ b j) : P0 σ' := by
  obtain ⟨⟨a1, a2⟩, ⟨b1, b2⟩, ⟨c1, c2, c3⟩, d1, e1, ⟨f1, f2, f3⟩, ⟨g1, g2⟩, i1, ⟨j1, j2, j3⟩, k1⟩ := h
  have r : ∀ b j, PR0 b j → σ' b j = σ b j := h1
  unfold P0
  rw [r 0 1 (by unfold PR0; omega), r 0 2 (by unfold PR0; omega), r 0 3 (by unfold PR0; omega), r 0 4 (by unfold PR0; omega), r 161 2 (by unfold PR0; omega), r 161 3 (by unfold PR0; omega), r 161 44 (by unfold PR0; omega), r 161 23 (by unfold PR0; omega), r 22 0 (by unfold PR0; omega), r 161 8 (by unfold PR0; omega), r 22 2 (by unfold PR0; omega), r 22 3 (by unfold PR0; omega), r 161 10 (by unfold PR0; omega), r 161 11 (by unfold PR0; omega), r 114 0 (by unfold PR0; omega), r 161 49 (by unfold PR0; omega), r 114 2 (by unfold PR0; omega), r 114 3 (by unfold PR0; omega), r 184 0 (by unfold PR0; omega), r 184 1 (by unfold PR0; omega)]
  refine ⟨⟨a1, a2⟩, ⟨b1, b2⟩, ⟨c1, c2, c3⟩, fun i i0 i1 => ?_, fun j j0 j1 => ?_, ⟨fun q q0 q1 => ?_, f2, f3⟩, ⟨g1, g2⟩, fun i i0 i2 => ?_, ⟨j1, j2, fun j j0 j4 => ?_⟩, fun j j0 j4 => ?_⟩
  · rw [r 2 i (by unfold PR0; omega), r 162 i (by unfold PR0; omega), r 3 i (by unfold PR0; omega), r 163 i (by unfold PR0; omega)]; exact d1 i i0 i1
  · rw [r 1 j (by unfold PR0; omega), r 164 j (by unfold PR0; omega)]; exact e1 j j0 j1
  · rw [r 23 q (by unfold PR0; omega), r 165 q (by unfold PR0; omega)]; exact f1 q q0 q1
  · exact (i1 i i0 i2).fr (by omega) (fun b j q1 q2 _ => r b j (by unfold PR0; omega)) (fun j q1 q2 => r 166 j (by unfold PR0; omega))
  · rw [r 115 j (by unfold PR0; omega)]; exact j3 j j0 j4
  · rw [r (-2) j (by unfold PR0; omega)]; exact k1 j j0 j4
def IVT (σ : SG) : Prop := σ 0 0 = σ 161 0 ∧ P0 σ ∧ DKS σ 6 0 ∧ ST σ
/-- calls that only ask: the class's half, the model's half -/
def DX (b j : Int) : Prop := (b = 0 ∧ j = 0) ∨ b = 4 ∨ b = 5 ∨ (39 ≤ b ∧ b ≤ 113)
def DR (b j : Int) : Prop := (b = 161 ∧ (j = 0 ∨ j = 1 ∨ (24 ≤ j ∧ j ≤ 27) ∨ j = 39 ∨ j = 43 ∨ j = 45 ∨ j = 46 ∨ j = 47 ∨ j = 59 ∨ j = 60 ∨ j = 64 ∨ j = 65)) ∨ b = 167 ∨ b = 168 ∨ (170 ≤ b ∧ b ≤ 183) ∨ (185 ≤ b ∧ b ≤ 196)
def QX (σ t : SG) (s : Int) : Prop := OffN DX σ t ∧ ST t ∧ t 0 0 = s
theorem IVT_q {σ t t2 : SG} {s : Int} (hI : IVT σ) (hx : QX σ t s) (hr : Off DR t t2) (h0 : t2 161 0 = s) : IVT t2 := by
  obtain ⟨i1, i2, i3, i4⟩ := hI
  obtain ⟨x1, x2, x3⟩ := hx
  refine ⟨?_, i2.fr (fun b j q => ?_), i3.fr (Or.inl rfl) (fun b j q1 q2 q3 => ?_) (fun j q1 q2 => ?_), x2.off hr (fun e he => by have := ech_list he; unfold DR; omega)⟩
  · rw [hr 0 0 (by unfold DR; omega), x3, h0]
  · rw [hr b j (by unfold PR0 at q; unfold DR; omega)]; exact x1 b j (by unfold PR0 at q; unfold DX; omega) (Or.inl (by unfold PR0 at q; omega))
  · rw [hr b j (by unfold DR; omega)]; exact x1 b j (by unfold DX; omega) q3
  · rw [hr 166 j (by unfold DR; omega)]; exact x1 166 j (by unfold DX; omega) (by omega)
/-- calls that change the WORLD or a SHELF -/
theorem IVT_w {σ t : SG} {c' : Int → Int} (hI : IVT σ) (h1 : ∀ b j, PR0 b j → t b j = σ b j) (h2 : ∀ j, 0 ≤ j → j < 360 → t 10 j = σ 10 j ∧ t 11 j = σ 11 j) (h3 : ∀ j, 635 ≤ j → j < 860 → t 166 j = σ 166 j) (hK : KC t 6 c') (hM : KM t 0 c') (hD : DC c') (hS : ST t) (h0 : t 0 0 = t 161 0) : IVT t := by
  obtain ⟨i1, i2, ⟨c, k1, k2, k3, k4⟩, i4⟩ := hI
  exact ⟨h0, i2.fr h1, ⟨c', hK, hM, hD, k4.fr (fun j j0 j1 => (h2 j j0 (by omega)).1) (fun j j0 j1 => (h2 j j0 j1).2) (fun j j0 j1 => h3 j (by omega) (by omega))⟩, hS⟩
def CAL (d : Nat) (MX MM : MR) (args : List AV) (σ : SG) : Prop := Tri (d + 30) MX (vA 0 :: args) σ (fun r1 σ1 => Tri (d + 30) MM (vA 161 :: args) σ1 (fun r2 σ2 => r1 = r2 ∧ IVT σ2))
section CLL
variable {d : Nat} {σ : SG} {Q : Int → SG → Prop}
theorem QX0 {s : Int} {t : SG} (hI : IVT σ) (e : t = up σ 0 0 s) : QX σ t s := ⟨OffN_of (by rw [e]; exact Off_up (Or.inl ⟨rfl, rfl⟩)), fun x hx => by have := ech_list hx; rw [e, up_ne (by omega)]; exact hI.2.2.2 x hx, by rw [e, up_same]⟩
theorem QXn {s : Int} {t t2 : SG} {D : Int → Int → Prop} (hS : ST t) (hO : Off D (nrm σ) t) (hD : ∀ b j, D b j → DX b j) (e : t2 = up t 0 0 s) : QX σ t2 s := ⟨OffN_trans (OffN_n (Off_mono hO hD)) (OffN_of (by rw [e]; exact Off_up (Or.inl ⟨rfl, rfl⟩))), fun x hx => by have := ech_list hx; rw [e, up_ne (by omega)]; exact hS x hx, by rw [e, up_same]⟩
theorem QXm {s : Int} {t2 : SG} (hI : IVT σ) (e : t2 = up (nrm σ) 0 0 s) : QX σ t2 s := QXn (D := DX) (ST_n hI.2.2.2) Off_rfl (fun _ _ h => h) e
/-- the model's beginning -/
theorem RM0 {t t1 t2 : SG} (e1 : t1 = up t 161 1 0) (e2 : t2 = up t1 161 0 0) : Off DR t t2 ∧ t2 161 0 = 0 := ⟨by rw [e2, e1]; exact Off_trans (Off_up (Or.inl ⟨rfl, by omega⟩)) (Off_up (Or.inl ⟨rfl, by omega⟩)), by rw [e2, up_same]⟩
theorem KM_dr {t t2 : SG} {c : Int → Int} (h : KM t 0 c) (hO : Off DR t t2) : KM t2 0 c := h.fr (fun j => hO 166 j (by unfold DR; omega))
theorem KM_qx {t : SG} {c : Int → Int} {s : Int} (h : KM σ 0 c) (hx : QX σ t s) : KM t 0 c := h.fr (fun j => hx.1 166 j (by unfold DX; omega) (by omega))
theorem Off_ask {t t2 : SG} (h : Off (fun b j => b = 161 ∧ 24 ≤ j ∧ j ≤ 27) t t2) : Off DR t t2 := Off_mono h (fun b j q => Or.inl ⟨q.1, by omega⟩)
theorem Off_dm {t t2 : SG} (h : Off DM t t2) : Off DR t t2 := Off_mono h (fun b j q => by unfold DM at q; unfold DR; omega)
/-- the model is asked about the WORLD -/
theorem R_now {t t1 t2 : SG} {c : Int → Int} (e1 : t1 = up t 161 1 0) (e2 : t2 = up t1 161 0 0) (hM : KM t 0 c) (hD : DC c) (h : ∀ t3, RW t3 (c 0) (c 1) (TBc c 0) → Off DR t t3 → t3 161 0 = 0 → KM t3 0 c → Q 0 t3) : Tri (d + 2) M_R_askNow [vA 161] t2 Q := by
  obtain ⟨o1, o2⟩ := RM0 e1 e2
  have hM2 := KM_dr hM o1
  exact R_askNow_s (KM_W0 hM2 hD) (fun t3 hR hO => h t3 hR (Off_trans o1 (Off_ask hO)) ((hO 161 0 (by omega)).trans o2) (KM_dr hM2 (Off_ask hO)))
/-- a refusal of the model -/
theorem R_ref {t : SG} {s : Int} (h : ∀ t2, t2 161 0 = s → Off DR t t2 → Q (-1) t2) : Tri (d + 1) M_R_refuse [vA 161, vI s] t Q := t_R_refuse (fun _ t2 e => h t2 (by rw [e, up_same]) (by rw [e]; exact Off_up (Or.inl ⟨rfl, by omega⟩)))
theorem R_nos {t : SG} {s : Int} (h : ∀ t2, t2 161 0 = s → Off DR t t2 → Q 0 t2) : Tri (d + 1) M_R_no [vA 161, vI s] t Q := t_R_no (fun _ t2 e => h t2 (by rw [e, up_same]) (by rw [e]; exact Off_up (Or.inl ⟨rfl, by omega⟩)))
/-- the class's WORLD, normalised -/
theorem WD7 {c : Int → Int} (hK : KC σ 6 c) (hD : DC c) : WD (nrm σ) 7 (c 0) (c 1) (TBc c 0) := KW_WD (a := 7) (i := 0) ob_7 (Or.inl rfl) hK.1 hD.1
end CLL
