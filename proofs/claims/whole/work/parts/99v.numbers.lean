/-! ===== calls: tables, cocycle, grow ===== -/
section CNU
variable {d : Nat} {σ : SG} {Q : Int → SG → Prop} {c : Int → Int}
theorem X_trayTrouble_s {x : Int} (h1 : ¬ (0 ≤ x ∧ x < 4) → Q 1 σ) (h3 : 0 ≤ x → x < 4 → σ 3 x < 0 → Q 3 σ) (h0 : 0 ≤ x → x < 4 → 0 ≤ σ 3 x → Q 0 σ) : Tri (d + 2) M_X_trayTrouble [vA 0, vI x] σ Q := t_X_trayTrouble (fun _ => X_isTray_s (fun x0 x1 => ⟨fun _ => ⟨⟨x0, x1⟩, fun z => h0 x0 x1 z, fun z => h3 x0 x1 z⟩, fun y => by omega⟩) (fun hn => ⟨fun y => absurd rfl y, fun _ => h1 hn⟩))
def gAll (σ : SG) (x m lo hi : Int) : Prop := ∀ k, 0 ≤ k → k < m → lo ≤ σ 1 (60 * x + k) ∧ σ 1 (60 * x + k) ≤ hi
theorem X_gatherNumbers_s {x m lo hi : Int} (x0 : 0 ≤ x) (x1 : x < 4) (m0 : 0 ≤ m) (m1 : m ≤ 25) (hl : -1000 ≤ lo) (hh : hi ≤ 1000) (l60 : σ 3 x ≤ 60) (h4 : σ 3 x < m → Q 4 σ) (h5 : m ≤ σ 3 x → ¬ gAll σ x m lo hi → ∀ t, Off (fun b j => b = 4) σ t → Q 5 t) (h0 : m ≤ σ 3 x → gAll σ x m lo hi → ∀ t, (∀ k, 0 ≤ k → k < m → t 4 k = σ 1 (60 * x + k)) → Off (fun b j => b = 4) σ t → Q 0 t) : Tri (d + 1) M_X_gatherNumbers [vA 0, vI x, vI m, vI lo, vI hi] σ Q := by
  refine t_X_gatherNumbers (fun _ _ _ _ => ⟨⟨x0, x1⟩, h4, fun z => ⟨fun _ => ?_, fun y => by omega⟩⟩)
  refine loop_up (P := fun k s => L (d + 1) M_X_gatherNumbers 24 [vA 0, vI x, vI m, vI lo, vI hi, vI k, vU, vU] [] s Q) (fun k s => 0 ≤ k ∧ (∀ j, 0 ≤ j → j < k → lo ≤ σ 1 (60 * x + j) ∧ σ 1 (60 * x + j) ≤ hi) ∧ (∀ j, 0 ≤ j → j < k → s 4 j = σ 1 (60 * x + j)) ∧ Off (fun b j => b = 4) σ s) m ?_ ?_ 0 m0 σ ⟨Int.le_refl _, fun j j0 j1 => by omega, fun j j0 j1 => by omega, Off_rfl⟩
  · rintro s ⟨k0, a1, a2, a3⟩
    exact s_X_gatherNumbers_24 ⟨fun _ => h0 z (fun k k0 k1 => a1 k k0 k1) s a2 a3, fun y => by omega⟩
  · rintro k s hk ⟨k0, a1, a2, a3⟩ next
    refine s_X_gatherNumbers_24 ⟨fun y => by omega, fun _ => ?_⟩
    rw [w32_id (x := x * 60) (by omega) (by omega), w32_id (x := x * 60 + k) (by omega) (by omega), w32_id (x := k + 1) (by omega) (by omega), a3 1 _ (by omega), show x * 60 + k = 60 * x + k by omega]
    refine ⟨⟨by omega, by omega⟩, fun y => h5 z (fun w => ?_) s a3, fun y => ⟨fun y2 => ⟨⟨k0, by omega⟩, fun s2 e2 => ?_⟩, fun y2 => h5 z (fun w => ?_) s a3⟩⟩
    · have := (w k k0 hk).1; have := cmp3_lt.mp y; omega
    · have b1 := cmp3_ge.mp y
      have b2 := cmp3_le.mp y2
      rw [w32_id (by omega) (by omega)] at e2
      refine next s2 ⟨by omega, fun j j0 j1 => ?_, fun j j0 j1 => ?_, Off_trans a3 (by rw [e2]; exact Off_up rfl)⟩
      · by_cases q : j = k
        · rw [q]; exact ⟨b1, b2⟩
        · exact a1 j j0 (by omega)
      · by_cases q : j = k
        · rw [q, e2, up_same]
        · rw [e2, up_ne (by omega)]; exact a2 j j0 (by omega)
    · have := (w k k0 hk).2; have := cmp3_gt.mp y2; omega
/-- a refusal's word of a TRAY -/
def gCod (σ : SG) (x m lo hi s : Int) : Prop := (s = 1 ∧ ¬ (0 ≤ x ∧ x < 4)) ∨ (s = 3 ∧ (0 ≤ x ∧ x < 4) ∧ σ 3 x < 0) ∨ (s = 4 ∧ (0 ≤ x ∧ x < 4) ∧ 0 ≤ σ 3 x ∧ σ 3 x < m) ∨ (s = 5 ∧ (0 ≤ x ∧ x < 4) ∧ 0 ≤ σ 3 x ∧ m ≤ σ 3 x ∧ ¬ gAll σ x m lo hi)
theorem cpl2 {n : Int} (h : 1 ≤ n ∧ n ≤ 5) : 0 ≤ n * (n - 1) / 2 ∧ n * (n - 1) / 2 ≤ 10 ∧ w32 ((w32 (n * (w32 (n - 1)))).tdiv 2) = n * (n - 1) / 2 := by
  have hn : n = 1 ∨ n = 2 ∨ n = 3 ∨ n = 4 ∨ n = 5 := by omega
  rcases hn with h | h | h | h | h <;> subst h <;> decide
theorem X_coupleTrouble_s {x p n : Int} (h1 : σ 7 1 = p) (h2 : σ 7 2 = n) (hp : 2 ≤ p ∧ p ≤ 7) (hn : 1 ≤ n ∧ n ≤ 5) (l60 : ∀ i, 0 ≤ i → i < 4 → σ 3 i ≤ 60) (hb : ∀ s, gCod σ x (n * (n - 1) / 2) 0 (p - 1) s → ∀ t, Off (fun b j => b = 4) σ t → Q s t) (hg : 0 ≤ x → x < 4 → 0 ≤ σ 3 x → n * (n - 1) / 2 ≤ σ 3 x → gAll σ x (n * (n - 1) / 2) 0 (p - 1) → ∀ t, (∀ k, 0 ≤ k → k < n * (n - 1) / 2 → t 4 k = σ 1 (60 * x + k)) → Off (fun b j => b = 4) σ t → Q 0 t) : Tri (d + 3) M_X_coupleTrouble [vA 0, vI x] σ Q := by
  obtain ⟨c0, c1, c2⟩ := cpl2 hn
  refine t_X_coupleTrouble (fun _ => X_trayTrouble_s (fun z => ⟨fun y => by omega, fun _ => hb 1 (Or.inl ⟨rfl, z⟩) σ Off_rfl⟩) (fun x0 x1 z => ⟨fun y => by omega, fun _ => hb 3 (Or.inr (Or.inl ⟨rfl, ⟨x0, x1⟩, z⟩)) σ Off_rfl⟩) (fun x0 x1 z => ⟨fun _ => ?_, fun y => absurd rfl y⟩))
  rw [h1, h2, c2, w32_id (x := p - 1) (by omega) (by omega)]
  exact X_gatherNumbers_s x0 x1 c0 (by omega) (by omega) (by omega) (l60 x x0 x1) (fun q => hb 4 (Or.inr (Or.inr (Or.inl ⟨rfl, ⟨x0, x1⟩, z, q⟩))) σ Off_rfl) (fun q q2 t hO => hb 5 (Or.inr (Or.inr (Or.inr ⟨rfl, ⟨x0, x1⟩, z, q, q2⟩))) t hO) (fun q q2 t h4 hO => hg x0 x1 z q q2 t h4 hO)
/-- the model's heap has the same TRAYS -/
def trys (σ t : SG) : Prop := (∀ i, 0 ≤ i → i < 4 → t 163 i = σ 3 i) ∧ ∀ j, 0 ≤ j → j < 240 → t 164 j = σ 1 j
theorem trys_x {t : SG} {s : Int} (hI : IVT σ) (hx : QX σ t s) : trys σ t := ⟨fun i i0 i1 => by rw [hx.1 163 i (by unfold DX; omega) (by omega)]; exact (hI.2.1.2.2.2.1 i i0 i1).2.1.symm, fun j j0 j1 => by rw [hx.1 164 j (by unfold DX; omega) (by omega)]; exact (hI.2.1.2.2.2.2.1 j j0 j1).symm⟩
theorem trys_o {t t2 : SG} {D : Int → Int → Prop} (h : trys σ t) (hO : Off D t t2) (hD : ∀ j, ¬ D 163 j ∧ ¬ D 164 j) : trys σ t2 := ⟨fun i i0 i1 => (hO 163 i (hD i).1).trans (h.1 i i0 i1), fun j j0 j1 => (hO 164 j (hD j).2).trans (h.2 j j0 j1)⟩
theorem R_wrongForm_s {x p n : Int} {T : Int → Int} {t : SG} (hR : RW t p n T) (ht : trys σ t) (x0 : 0 ≤ x) (x1 : x < 4) (l60 : σ 3 x ≤ 60) (h4 : σ 3 x < n * (n - 1) / 2 → Q 4 t) (h5 : n * (n - 1) / 2 ≤ σ 3 x → ¬ gAll σ x (n * (n - 1) / 2) 0 (p - 1) → Q 5 t) (h0 : n * (n - 1) / 2 ≤ σ 3 x → gAll σ x (n * (n - 1) / 2) 0 (p - 1) → Q 0 t) : Tri (d + 2) M_R_wrongForm [vA 161, vI x] t Q := by
  obtain ⟨b1, b2, b3, b4⟩ := hR.1.1.b
  obtain ⟨c0, c1, c2⟩ := cpl2 ⟨b3, b4⟩
  refine t_R_wrongForm (fun _ => ⟨⟨x0, x1⟩, R_couples_s hR ?_⟩)
  rw [ht.1 x x0 x1]
  refine ⟨fun z => ?_, h4⟩
  refine loop_up (S := Unit) (P := fun k _ => L (d + 2) M_R_wrongForm 17 [vA 161, vI x, vI k] [] t Q) (fun k _ => 0 ≤ k ∧ ∀ j, 0 ≤ j → j < k → 0 ≤ σ 1 (60 * x + j) ∧ σ 1 (60 * x + j) ≤ p - 1) (n * (n - 1) / 2) ?_ ?_ 0 c0 () ⟨Int.le_refl _, fun j j0 j1 => by omega⟩
  · rintro _ ⟨k0, a1⟩
    exact s_R_wrongForm_17 (R_couples_s hR ⟨fun _ => h0 z (fun k k0 k1 => a1 k k0 k1), fun y => by omega⟩)
  · rintro k _ hk ⟨k0, a1⟩ next
    refine s_R_wrongForm_17 (R_couples_s hR ⟨fun y => by omega, fun _ => R_numberOf_s ⟨x0, x1⟩ ⟨k0, by omega⟩ ?_⟩)
    rw [ht.2 _ (by omega) (by omega), hR.2.1, w32_id (x := p - 1) (by omega) (by omega), w32_id (x := k + 1) (by omega) (by omega)]
    refine R_isIn_s (fun y1 y2 => ⟨fun _ => next () ⟨by omega, fun j j0 j1 => ?_⟩, fun y => by omega⟩) (fun y => ⟨fun q => absurd rfl q, fun _ => h5 z (fun w => ?_)⟩)
    · by_cases q : j = k
      · rw [q]; exact ⟨y1, y2⟩
      · exact a1 j j0 (by omega)
    · have := w k k0 hk; omega
theorem l60 (hI : IVT σ) : ∀ i, 0 ≤ i → i < 4 → σ 3 i ≤ 60 := fun i i0 i1 => (hI.2.1.2.2.2.1 i i0 i1).2.2.2
theorem gCod_cg {t : SG} {x m lo hi s : Int} (h3 : ∀ i, t 3 i = σ 3 i) (h1 : ∀ i, t 1 i = σ 1 i) (h : gCod t x m lo hi s) : gCod σ x m lo hi s := by
  unfold gCod gAll at *
  rw [h3] at h
  have e : (∀ k, 0 ≤ k → k < m → lo ≤ t 1 (60 * x + k) ∧ t 1 (60 * x + k) ≤ hi) ↔ (∀ k, 0 ≤ k → k < m → lo ≤ σ 1 (60 * x + k) ∧ σ 1 (60 * x + k) ≤ hi) := by
    constructor
    · intro h k k0 k1; rw [← h1]; exact h k k0 k1
    · intro h k k0 k1; rw [h1]; exact h k k0 k1
  rw [e] at h
  exact h
theorem n1 {j : Int} : nrm σ 1 j = σ 1 j := nrm_ne (by omega)
theorem n3 {j : Int} : nrm σ 3 j = σ 3 j := nrm_ne (by omega)
theorem gAll_n {x m lo hi : Int} (h : gAll (nrm σ) x m lo hi) : gAll σ x m lo hi := fun k k0 k1 => by have := h k k0 k1; rw [n1] at this; exact this
theorem c_cocycle {x : Int} (hI : IVT σ) : CAL d M_X_cocycle M_R_cocycle [vI x] σ := by
  obtain ⟨c, hK, hM, hD, hS⟩ := hI.2.2.1
  have hW := WD7 hK hD
  have hT := hW.2.2.2.2
  obtain ⟨b1, b2, b3, b4⟩ := hW.pn.b
  have hS0 := ST_n hI.2.2.2
  have l6 := l60 hI
  refine Tri_n (t_X_cocycle (fun _ => X_coupleTrouble_s hW.2.1 hW.2.2.1 ⟨b1, b2⟩ ⟨b3, b4⟩ (fun i i0 i1 => by rw [n3]; exact l6 i i0 i1) (fun s hs t1 hO1 => ?_) (fun x0 x1 z3 z4 za t1 h4 hO1 => ⟨fun _ => ?_, fun y => absurd rfl y⟩)))
  · have hs' := gCod_cg (fun i => n3) (fun i => n1) hs
    have s0 : s ≠ 0 := by unfold gCod at hs'; omega
    refine ⟨fun y => absurd y s0, fun _ => t_X_fail (fun _ t e => ?_)⟩
    have hS1 : ST t1 := hS0.off hO1 (fun e he => by have := ech_list he; omega)
    have hx : QX σ t s := QXn hS1 hO1 (fun b j q => by unfold DX; omega) e
    have htr := trys_x hI hx
    refine t_R_cocycle (fun _ t3 e3 t4 e4 => R_now e3 e4 (KM_qx hM hx) hD (fun t5 hR hO h0 hM5 => ?_))
    have ht5 := trys_o htr hO (fun j => by unfold DR; omega)
    have rf : ∀ r, r = s → Tri (d + 29) M_R_refuse [vA 161, vI r] t5 (fun r6 σ6 => -1 = r6 ∧ IVT σ6) := fun r hr => R_ref (fun t6 h6 hO6 => ⟨rfl, IVT_q hI hx (Off_trans hO hO6) (by rw [h6, hr])⟩)
    refine R_isTray_s (fun x0 x1 => ⟨fun _ => ⟨⟨x0, x1⟩, ?_⟩, fun y => by omega⟩) (fun hn => ⟨fun y => absurd rfl y, fun _ => rf 1 (by unfold gCod at hs'; omega)⟩)
    rw [ht5.1 x x0 x1]
    refine ⟨fun z => R_wrongForm_s hR ht5 x0 x1 (l6 x x0 x1) (fun q => ⟨fun y => by omega, fun _ => rf 4 (by unfold gCod at hs'; omega)⟩) (fun q q2 => ⟨fun y => by omega, fun _ => rf 5 (by unfold gCod at hs'; omega)⟩) (fun q q2 => ?_), fun z => rf 3 (by unfold gCod at hs'; omega)⟩
    rcases hs' with h | h | h | h
    · exact absurd ⟨x0, x1⟩ h.2
    · omega
    · omega
    · exact absurd q2 h.2.2.2.2
  · have za' := gAll_n za
    rw [n3] at z3 z4
    have hW1 : WD t1 7 (c 0) (c 1) (TBc c 0) := hW.cg (fun k => hO1 7 k (by omega)) (fun k => hO1 (7 + 1) k (by omega))
    have hS1 : ST t1 := hS0.off hO1 (fun e he => by have := ech_list he; omega)
    have hcc : ∀ q, 0 ≤ q → q < c 1 * (c 1 - 1) / 2 → t1 4 q = σ 1 (60 * x + q) ∧ 0 ≤ σ 1 (60 * x + q) ∧ σ 1 (60 * x + q) < c 0 := fun q q0 q1 => by
      have := za' q q0 q1
      rw [h4 q q0 q1, n1]
      exact ⟨rfl, by omega, by omega⟩
    -- the model's half
    have mod : ∀ (v : Int) t2 t, ST t2 → Off (fun b j => b = 4 ∨ (69 ≤ b ∧ b ≤ 77)) (nrm σ) t2 → t = up t2 0 0 0 → (CLO (c 0) (c 1) (TBc c 0) (fun q => σ 1 (60 * x + q)) → v = 1) → (¬ CLO (c 0) (c 1) (TBc c 0) (fun q => σ 1 (60 * x + q)) → v = 0) → Tri (d + 30) M_R_cocycle [vA 161, vI x] t (fun r2 u2 => v = r2 ∧ IVT u2) := fun v t2 t hS2 hO2 e hv1 hv0 => by
      have hx : QX σ t 0 := QXn hS2 hO2 (fun b j q => by unfold DX; omega) e
      have htr := trys_x hI hx
      refine t_R_cocycle (fun _ t3 e3 t4 e4 => R_now e3 e4 (KM_qx hM hx) hD (fun t5 hR hO h0 hM5 => ?_))
      have ht5 := trys_o htr hO (fun j => by unfold DR; omega)
      have hi : IVT t5 := IVT_q hI hx hO h0
      refine R_isTray_s (fun _ _ => ⟨fun _ => ⟨⟨x0, x1⟩, ?_⟩, fun y => by omega⟩) (fun hn => absurd ⟨x0, x1⟩ hn)
      rw [ht5.1 x x0 x1]
      refine ⟨fun z => R_wrongForm_s hR ht5 x0 x1 (l6 x x0 x1) (fun q => by omega) (fun q q2 => absurd za' q2) (fun q q2 => ⟨fun _ => R_isClosed_s hR ⟨x0, x1⟩ (c := fun q => σ 1 (60 * x + q)) (fun q q0 q1 => ?_) (fun w => ⟨fun y => by omega, fun _ => ⟨hv1 w, hi⟩⟩) (fun w => ⟨fun _ => ⟨hv0 w, hi⟩, fun y => absurd rfl y⟩), fun y => by omega⟩), fun z => by omega⟩
      have := za' q q0 q1
      rw [ht5.2 _ (by have := (cpl2 ⟨b3, b4⟩).2.1; omega) (by have := (cpl2 ⟨b3, b4⟩).2.1; omega)]
      exact ⟨rfl, by omega, by omega⟩
    exact Me_isClosed_s hW1 (by omega) (by omega) hcc (fun t2 w hO2 _ hS2 => ⟨fun y => by omega, fun _ => t_X_answer (fun _ t e => mod 1 t2 t hS2 (Off_trans (Off_mono hO1 (fun b j q => Or.inl q)) (Off_mono hO2 (fun b j q => Or.inr q))) e (fun _ => rfl) (fun y => absurd w y))⟩) (fun t2 w hO2 _ hS2 => ⟨fun _ => t_X_answer (fun _ t e => mod 0 t2 t hS2 (Off_trans (Off_mono hO1 (fun b j q => Or.inl q)) (Off_mono hO2 (fun b j q => Or.inr q))) e (fun y => absurd y w) (fun _ => rfl)), fun y => absurd rfl y⟩) hS1
theorem c_tables {x1 x2 x3 : Int} (hI : IVT σ) : CAL d M_X_tables M_R_tables [vI x1, vI x2, vI x3] σ := by
  have hm : ∀ {t}, QX σ t 5 → ¬ (SML x1 x2 ∧ 0 ≤ x3 ∧ x3 ≤ 1) → Tri (d + 30) M_R_tables [vA 161, vI x1, vI x2, vI x3] t (fun r2 u2 => -1 = r2 ∧ IVT u2) := fun {t} hx hn => by
    refine t_R_tables (fun _ _ _ t3 e3 t4 e4 => ?_)
    obtain ⟨o1, o2⟩ := RM0 e3 e4
    have rf : Tri (d + 29) M_R_refuse [vA 161, vI 5] t4 (fun r6 σ6 => -1 = r6 ∧ IVT σ6) := R_ref (fun t6 h6 hO6 => ⟨rfl, IVT_q hI hx (Off_trans o1 hO6) h6⟩)
    have a47 : ∀ y, (y ≠ 0 → SML x1 x2) → L (d + 30) M_R_tables 47 [vA 161, vI x1, vI x2, vI x3, vU, vU, vU, vU] [vI y] t4 (fun r2 u2 => -1 = r2 ∧ IVT u2) := fun y hy => s_R_tables_47 ⟨fun _ => rf, fun q => R_isIn_s (fun y1 y2 => absurd ⟨hy q, y1, y2⟩ hn) (fun _ => ⟨fun w => absurd rfl w, fun _ => rf⟩)⟩
    have a20 : (x1 = 2 ∨ x1 = 3) → L (d + 30) M_R_tables 20 [vA 161, vI x1, vI x2, vI x3, vU, vU, vU, vU] [] t4 (fun r2 u2 => -1 = r2 ∧ IVT u2) := fun hx1 => s_R_tables_20 (R_isIn_s (fun y1 y2 => ⟨fun _ => a47 1 (fun _ => by unfold SML; omega), fun y => by omega⟩) (fun w => ⟨fun y => absurd rfl y, fun _ => ⟨fun q => a47 0 (fun y => absurd rfl y), fun q => ⟨fun q2 => a47 0 (fun y => absurd rfl y), fun q2 => a47 1 (fun _ => by unfold SML; omega)⟩⟩⟩))
    exact ⟨fun q => a20 (Or.inl q), fun q => ⟨fun q2 => a47 0 (fun y => absurd rfl y), fun q2 => a20 (Or.inr q2)⟩⟩
  have mod : ∀ (v : Int) t, QX σ t 0 → SML x1 x2 → (x3 = 0 ∨ x3 = 1) → TBLS x1 x2 x3 v → Tri (d + 30) M_R_tables [vA 161, vI x1, vI x2, vI x3] t (fun r2 u2 => v = r2 ∧ IVT u2) := fun v t hx hs h3 hv => by
    have hpn := hs.pn
    obtain ⟨b1, b2, b3, b4⟩ := hpn.b
    refine t_R_tables (fun _ _ _ t3 e3 t4 e4 => ?_)
    obtain ⟨o1, o2⟩ := RM0 e3 e4
    have a47 : L (d + 30) M_R_tables 47 [vA 161, vI x1, vI x2, vI x3, vU, vU, vU, vU] [vI 1] t4 (fun r2 u2 => v = r2 ∧ IVT u2) := by
      refine s_R_tables_47 ⟨fun y => by omega, fun _ => R_isIn_s (fun _ _ => ⟨fun _ => ?_, fun y => by omega⟩) (fun y => by omega)⟩
      refine R_clear_s (len := 127) (by omega) kd_196 (by omega) (by omega) (by omega) (fun t5 g0 g1 g2 hO5 => t_R_ask (fun _ t6 e6 t7 e7 => ⟨rd_of kd_196 (by omega) (by omega), fun t8 e8 => ⟨rd_of kd_196 (by rw [w32_id (by omega) (by omega)]; omega) (by rw [w32_id (by omega) (by omega)]; omega), fun t9 e9 => ?_⟩⟩))
      rw [w32_id (by omega) (by omega), Int.zero_add] at e9
      have r9 : ∀ b j, (b ≠ 161 ∨ ¬ (24 ≤ j ∧ j ≤ 27)) → t9 b j = t5 b j := fun b j q => by rw [e9, up_ne (by omega), e8, up_ne (by omega), e7, up_ne (by omega), e6, up_ne (by omega)]
      have hO9 : Off DR t t9 := Off_trans o1 (fun b j q => by rw [r9 b j (by unfold DR at q; omega)]; exact hO5 b j (by unfold DR at q; omega))
      have hRT : RT t9 x1 x2 (fun _ _ _ => 0) := by
        refine ⟨by rw [e9, up_ne (by omega), e8, up_ne (by omega), e7, up_ne (by omega), e6, up_same], by rw [e9, up_ne (by omega), e8, up_ne (by omega), e7, up_same], ?_, ?_, by rw [r9 _ _ (by omega)]; exact g0, fun u u0 u1 => ?_⟩
        · rw [e9, up_ne (by omega), e8, up_same, e7, up_ne (by omega), e6, up_ne (by omega)]; exact g0
        · rw [e9, up_same, e8, up_ne (by omega), e7, up_ne (by omega), e6, up_ne (by omega)]; exact g1
        · rw [MK_0, r9 _ _ (by omega)]; exact g2 u u0 u1
      have z0 : t9 161 0 = 0 := by rw [r9 _ _ (by omega), hO5 161 0 (by omega)]; exact o2
      have enT : w32 ((w32 ((w32 (x2 * (w32 (x2 - 1)))).tdiv 2)) * x2) = nTB x2 := by
        have hn : x2 = 1 ∨ x2 = 2 ∨ x2 = 3 := by unfold SML at hs; omega
        rcases hn with h | h | h <;> subst h <;> decide
      refine t_R_numbersOf (fun _ => ?_)
      rw [enT]
      obtain ⟨_, _, _, s4, s5, s6⟩ := hs.b
      refine R_powerOf_s hRT.2.2.1 (by omega) s4 (by omega) (R_tables_l hs h3 hRT (fun r t10 hr hO10 => ⟨?_, ?_⟩))
      · unfold TBLS at hv hr; rw [hv, hr]
      · exact IVT_q hI hx (Off_trans hO9 (Off_mono hO10 (fun b j q => by unfold DR; omega))) ((hO10 161 0 (by omega)).trans z0)
    have a20 : L (d + 30) M_R_tables 20 [vA 161, vI x1, vI x2, vI x3, vU, vU, vU, vU] [] t4 (fun r2 u2 => v = r2 ∧ IVT u2) := s_R_tables_20 (R_isIn_s (fun y1 y2 => ⟨fun _ => a47, fun y => by omega⟩) (fun w => ⟨fun y => absurd rfl y, fun _ => ⟨fun q => by unfold SML at hs; omega, fun q => ⟨fun q2 => by unfold SML at hs; omega, fun q2 => a47⟩⟩⟩))
    exact ⟨fun q => a20, fun q => ⟨fun q2 => by unfold SML at hs; omega, fun q2 => a20⟩⟩
  have ref : ¬ (SML x1 x2 ∧ 0 ≤ x3 ∧ x3 ≤ 1) → Tri (d + 29) M_X_fail [vA 0, vI 5] (nrm σ) (fun r u => Tri (d + 30) M_R_tables [vA 161, vI x1, vI x2, vI x3] u (fun r2 u2 => r = r2 ∧ IVT u2)) := fun hn => t_X_fail (fun _ t e => hm (QXm hI e) hn)
  have a0 : ¬ SML x1 x2 → L (d + 30) M_X_tables 43 [vA 0, vI x1, vI x2, vI x3, vU] [vI 0] (nrm σ) (fun r u => Tri (d + 30) M_R_tables [vA 161, vI x1, vI x2, vI x3] u (fun r2 u2 => r = r2 ∧ IVT u2)) := fun hn => s_X_tables_43 ⟨fun _ => ref (fun w => hn w.1), fun y => absurd rfl y⟩
  have go : ∀ wh, SML x1 x2 → (x3 = 0 ∨ x3 = 1) → wh = x3 → Tri (d + 29) M_Ma_countTables [vA 78, vI x1, vI x2, vI wh] (nrm σ) (fun r7 σ7 => Tri (d + 29) M_X_answer [vA 0, vI r7] σ7 (fun r u => Tri (d + 30) M_R_tables [vA 161, vI x1, vI x2, vI x3] u (fun r2 u2 => r = r2 ∧ IVT u2))) := fun wh hs h3 hw => by
    subst hw
    exact Ma_countTables_s hs (ST_n hI.2.2.2) (fun r t1 hr hS1 hO1 => t_X_answer (fun _ t e => mod r t (QXn hS1 hO1 (fun b j q => by unfold DL at q; unfold DX; omega) e) hs h3 hr))
  have a1 : SML x1 x2 → L (d + 30) M_X_tables 43 [vA 0, vI x1, vI x2, vI x3, vU] [vI 1] (nrm σ) (fun r u => Tri (d + 30) M_R_tables [vA 161, vI x1, vI x2, vI x3] u (fun r2 u2 => r = r2 ∧ IVT u2)) := fun hs => s_X_tables_43 ⟨fun y => by omega, fun _ => ⟨fun z => ref (by omega), fun z => ⟨fun z2 => ⟨fun z3 => go 0 hs (by omega) (by omega), fun z3 => go 1 hs (by omega) (by omega)⟩, fun z2 => ref (by omega)⟩⟩⟩
  exact Tri_n (t_X_tables (fun _ _ _ => ⟨fun q => ⟨fun q2 => a0 (by unfold SML; omega), fun q2 => ⟨fun q3 => a0 (by unfold SML; omega), fun q3 => ⟨fun q4 => a0 (by unfold SML; omega), fun q4 => a1 (by unfold SML; omega)⟩⟩⟩, fun q => ⟨fun q3 => a0 (by unfold SML; omega), fun q3 => ⟨fun q4 => a0 (by unfold SML; omega), fun q4 => a1 (by unfold SML; omega)⟩⟩⟩))
end CNU
