/-! ===== calls: write, read, pour, feed ===== -/
section CWR
variable {d : Nat} {σ : SG}
def plc (σ : SG) (x y : Int) : Int := if ¬ (0 ≤ x ∧ x < 4) then 1 else if σ 3 x < 0 then 3 else if y < 0 ∨ σ 3 x ≤ y then 4 else 0
theorem X_placeTrouble_s {x y : Int} {Q : Int → SG → Prop} (h : Q (plc σ x y) σ) : Tri (d + 3) M_X_placeTrouble [vA 0, vI x, vI y] σ Q := by
  unfold plc at h
  refine t_X_placeTrouble (fun _ _ => t_X_trayTrouble (fun _ => X_isTray_s (fun x0 x1 => ?_) (fun hn => ?_)))
  · rw [if_neg (by omega)] at h
    refine ⟨fun _ => ⟨⟨x0, x1⟩, fun z => ⟨fun y => absurd rfl y, fun _ => ⟨fun z1 => ?_, fun z1 => ⟨⟨x0, x1⟩, fun z2 => ?_, fun z2 => ?_⟩⟩⟩, fun z => ⟨fun _ => ?_, fun y => by omega⟩⟩, fun y => by omega⟩
    · rw [if_neg (by omega), if_pos (Or.inl z1)] at h; exact h
    · rw [if_neg (by omega), if_neg (by omega)] at h; exact h
    · rw [if_neg (by omega), if_pos (Or.inr z2)] at h; exact h
    · rw [if_pos z] at h; exact h
  · rw [if_pos hn] at h
    exact ⟨fun y => absurd rfl y, fun _ => ⟨fun _ => h, fun y => by omega⟩⟩
theorem R_placed_s {x y : Int} {Q : Int → SG → Prop} (hd : ∀ i, 0 ≤ i → i < 4 → σ 3 i = σ 163 i) (h : Q (plc σ x y) σ) : Tri (d + 2) M_R_placed [vA 161, vI x, vI y] σ Q := by
  unfold plc at h
  refine t_R_placed (fun _ _ => t_R_trayed (fun _ => ⟨fun z => ?_, fun x0 => ⟨fun x1 => ⟨⟨x0, x1⟩, ?_⟩, fun x1 => ?_⟩⟩))
  · rw [if_pos (by omega)] at h
    exact ⟨fun y => by omega, fun _ => h⟩
  · rw [← hd x x0 x1]
    rw [if_neg (by omega)] at h
    refine ⟨fun z => ⟨fun _ => ⟨fun z1 => ?_, fun z1 => ⟨⟨x0, x1⟩, fun z2 => ?_, fun z2 => ?_⟩⟩, fun y => by omega⟩, fun z => ⟨fun y => by omega, fun _ => ?_⟩⟩
    · rw [if_neg (by omega), if_pos (Or.inl z1)] at h; exact h
    · rw [if_neg (by omega), if_neg (by omega)] at h; exact h
    · rw [if_neg (by omega), if_pos (Or.inr z2)] at h; exact h
    · rw [if_pos z] at h; exact h
  · rw [if_pos (by omega)] at h
    exact ⟨fun y => by omega, fun _ => h⟩
theorem plc_0 {x y : Int} (h : plc σ x y = 0) : (0 ≤ x ∧ x < 4) ∧ 0 ≤ y ∧ y < σ 3 x := by
  unfold plc at h
  by_cases g : ¬ (0 ≤ x ∧ x < 4)
  · rw [if_pos g] at h; omega
  · rw [if_neg g] at h
    by_cases g2 : σ 3 x < 0
    · rw [if_pos g2] at h; omega
    · rw [if_neg g2] at h
      by_cases g3 : y < 0 ∨ σ 3 x ≤ y
      · rw [if_pos g3] at h; omega
      · omega
theorem plc_nn {x y : Int} : 0 ≤ plc σ x y ∧ plc σ x y ≤ 4 := by
  unfold plc
  split
  · omega
  · split
    · omega
    · split <;> omega
theorem plc_fr {t : SG} {x y : Int} (h : ∀ i, 0 ≤ i → i < 4 → t 3 i = σ 3 i) : plc t x y = plc σ x y := by
  unfold plc
  by_cases g : ¬ (0 ≤ x ∧ x < 4)
  · rw [if_pos g, if_pos g]
  · rw [if_neg g, if_neg g, h x (by omega) (by omega)]
def cutv (s v : Int) : Int := if s = 0 then i2b (w32 v) else if s = 1 then i2s (w32 v) else if s = 2 then w32 v else v
theorem X_cut_s {s v : Int} {Q : Int → SG → Prop} (h : Q (cutv s v) σ) : Tri (d + 1) M_X_cut [vI s, vJ v] σ Q := by
  unfold cutv at h
  refine t_X_cut (fun _ _ => ⟨fun z => ?_, fun z => ?_, fun z => ?_, fun z => ?_⟩)
  · rw [if_neg (by omega), if_neg (by omega), if_neg (by omega)] at h; exact h
  · rw [if_pos z] at h; exact h
  · rw [if_neg (by omega), if_pos z] at h; exact h
  · rw [if_neg (by omega), if_neg (by omega), if_pos z] at h; exact h
theorem R_cut_s {s v : Int} {Q : Int → SG → Prop} (h : Q (cutv s v) σ) : Tri (d + 1) M_R_cut [vI s, vJ v] σ Q := by
  unfold cutv at h
  refine t_R_cut (fun _ _ => ⟨fun z => ⟨fun z1 => ⟨fun z2 => ?_, fun z2 => ?_⟩, fun z1 => ?_⟩, fun z => ?_⟩)
  · rw [if_neg z, if_neg z1, if_neg z2] at h; exact h
  · rw [if_neg z, if_neg z1, if_pos z2] at h; exact h
  · rw [if_neg z, if_pos z1] at h; exact h
  · rw [if_pos z] at h; exact h
theorem c_write {x y v : Int} (hI : IVT σ) : CAL d M_X_write M_R_write [vI x, vI y, vJ v] σ := by
  obtain ⟨a1, b1, c1, d1, e1, f1, g1, i1, j1, k1⟩ := hI.2.1
  have nn := plc_nn (σ := σ) (x := x) (y := y)
  refine t_X_write (fun _ _ _ => X_placeTrouble_s ⟨fun z => ?_, fun z => X_rf (fun t2 e => ?_)⟩)
  · obtain ⟨⟨x0, x1⟩, y0, y1⟩ := plc_0 z
    have l60 := (d1 x x0 x1).2.2.2
    refine ⟨⟨x0, x1⟩, X_cut_s ?_⟩
    rw [w32_id (x := x * 60) (by omega) (by omega), w32_id (x := x * 60 + y) (by omega) (by omega)]
    refine ⟨⟨by omega, by omega⟩, fun t1 et1 => t_X_agree (fun t2 et2 => ⟨Or.inr rfl, ?_⟩)⟩
    have rr : ∀ b j, (b ≠ 0 ∨ j ≠ 0) → (b ≠ 1 ∨ j ≠ x * 60 + y) → t2 b j = σ b j := fun b j q1 q2 => by rw [et2, up_ne q1, et1, up_ne q2]
    have s1 : t2 1 (x * 60 + y) = cutv (σ 2 x) v := by rw [et2, up_ne (by omega), et1, up_same]
    refine t_R_write (fun _ _ _ t3 e3 => R_placed_s (fun i i0 i2 => ?_) (fun t4 e4 => ?_))
    · rw [e3, up_ne (by omega), up_ne (by omega), rr 3 i (by omega) (by omega), rr 163 i (by omega) (by omega)]; exact (d1 i i0 i2).2.1
    · have ep : plc t3 x y = 0 := by rw [plc_fr (σ := σ) (fun i i0 i2 => by rw [e3, up_ne (by omega), rr 3 i (by omega) (by omega)])]; exact z
      rw [ep] at e4
      have r4 : ∀ b j, (b ≠ 161 ∨ (j ≠ 0 ∧ j ≠ 1)) → t4 b j = t2 b j := fun b j q => by rw [e4, up_ne (by omega), e3, up_ne (by omega)]
      rw [show t4 161 0 = 0 by rw [e4, up_same]]
      refine ⟨fun _ => ⟨⟨x0, x1⟩, R_cut_s ?_⟩, fun y => by omega⟩
      rw [w32_id (x := 60 * x) (by omega) (by omega), w32_id (x := 60 * x + y) (by omega) (by omega), show t4 162 x = σ 2 x by rw [r4 162 x (by omega), rr 162 x (by omega) (by omega)]; exact (d1 x x0 x1).1.symm]
      refine ⟨⟨by omega, by omega⟩, fun t5 e5 => ⟨rfl, ?_⟩⟩
      have fr : ∀ b j, (b ≠ 164 ∨ j ≠ 60 * x + y) → (b ≠ 161 ∨ (j ≠ 0 ∧ j ≠ 1)) → (b ≠ 0 ∨ j ≠ 0) → (b ≠ 1 ∨ j ≠ x * 60 + y) → t5 b j = σ b j := fun b j q1 q2 q3 q4 => by rw [e5, up_ne q1, r4 b j q2, rr b j q3 q4]
      refine IVT_g hI (hI.2.1.gen (fun b j => b = 1 ∨ b = 164) (fun b j q1 q2 => fr b j (by omega) (by unfold PR0 at q1; omega) (by unfold PR0 at q1; omega) (by omega)) (Or.inr (fun b j q => by omega)) (Or.inr (fun b j q => by omega)) (Or.inr (fun b j q => by omega)) (Or.inr (fun b j q => by omega)) (Or.inl (fun j j0 j1 => ?_)) (Or.inr (fun b j q => by omega)) (Or.inr (fun b j q => by omega)) (Or.inr (fun b j q => by omega)) (Or.inr (fun b j q => by omega)) (fun j => by omega)) (fun b j q1 q2 q3 => fr b j (by omega) (by omega) (by omega) (by omega)) (fun j _ => fr 166 j (by omega) (by omega) (by omega) (by omega)) (fun e j q1 q2 => fr e j (by omega) (by omega) (by omega) (by omega)) ?_
      · by_cases qj : j = 60 * x + y
        · rw [qj, e5, up_same, up_ne (by omega), r4 1 _ (by omega), show 60 * x + y = x * 60 + y by omega, s1]
        · rw [fr 1 j (by omega) (by omega) (by omega) (by omega), fr 164 j (by omega) (by omega) (by omega) (by omega)]; exact e1 j j0 j1
      · rw [e5, up_ne (by omega), up_ne (by omega), r4 0 0 (by omega), et2, up_same, e4, up_same]
  · have hx := QX0 hI e
    refine t_R_write (fun _ _ _ t3 e3 => R_placed_s (fun i i0 i2 => ?_) (fun t4 e4 => ?_))
    · rw [e3, up_ne (by omega), up_ne (by omega), e, up_ne (by omega), up_ne (by omega)]; exact (d1 i i0 i2).2.1
    · have ep : plc t3 x y = plc σ x y := plc_fr (σ := σ) (fun i i0 i2 => by rw [e3, up_ne (by omega), e, up_ne (by omega)])
      rw [ep] at e4
      rw [show t4 161 0 = plc σ x y by rw [e4, up_same]]
      exact ⟨fun y => by omega, fun _ => ⟨rfl, IVT_q hI hx (by rw [e4, e3]; exact Off_trans (Off_up (Or.inl ⟨rfl, by omega⟩)) (Off_up (Or.inl ⟨rfl, by omega⟩))) (by rw [e4, up_same])⟩⟩
theorem c_read {x y : Int} (hI : IVT σ) : CAL d M_X_read M_R_read [vI x, vI y] σ := by
  obtain ⟨a1, b1, c1, d1, e1, f1, g1, i1, j1, k1⟩ := hI.2.1
  have nn := plc_nn (σ := σ) (x := x) (y := y)
  have mod : ∀ (s : Int) (t2 : SG) (v : Int), t2 = up σ 0 0 s → s = plc σ x y → (s = 0 → v = σ 1 (x * 60 + y)) → (s ≠ 0 → v = -1) → Tri (d + 30) M_R_read [vA 161, vI x, vI y] t2 (fun r2 σ2 => v = r2 ∧ IVT σ2) := fun s t2 v e hs hv hv2 => by
    have hx := QX0 hI e
    refine t_R_read (fun _ _ t3 e3 => R_placed_s (fun i i0 i2 => ?_) (fun t4 e4 => ?_))
    · rw [e3, up_ne (by omega), up_ne (by omega), e, up_ne (by omega), up_ne (by omega)]; exact (d1 i i0 i2).2.1
    · have ep : plc t3 x y = s := by rw [hs]; exact plc_fr (σ := σ) (fun i i0 i2 => by rw [e3, up_ne (by omega), e, up_ne (by omega)])
      rw [ep] at e4
      have hq : IVT t4 := IVT_q hI hx (by rw [e4, e3]; exact Off_trans (Off_up (Or.inl ⟨rfl, by omega⟩)) (Off_up (Or.inl ⟨rfl, by omega⟩))) (by rw [e4, up_same])
      rw [show t4 161 0 = s by rw [e4, up_same]]
      refine ⟨fun z => ?_, fun z => ⟨hv2 (by omega), hq⟩⟩
      obtain ⟨⟨x0, x1⟩, y0, y1⟩ := plc_0 (σ := σ) (x := x) (y := y) (by omega)
      have l60 := (d1 x x0 x1).2.2.2
      rw [w32_id (x := 60 * x) (by omega) (by omega), w32_id (x := 60 * x + y) (by omega) (by omega)]
      refine ⟨⟨by omega, by omega⟩, ?_, hq⟩
      rw [hv (by omega), e4, up_ne (by omega), e3, up_ne (by omega), e, up_ne (by omega), show x * 60 + y = 60 * x + y by omega]
      exact e1 _ (by omega) (by omega)
  refine t_X_read (fun _ _ => X_placeTrouble_s ⟨fun z t2 e => ?_, fun z => t_X_fail (fun _ t2 e => mod (plc σ x y) t2 (-1) e rfl (fun y => absurd y z) (fun _ => rfl))⟩)
  obtain ⟨⟨x0, x1⟩, y0, y1⟩ := plc_0 z
  have l60 := (d1 x x0 x1).2.2.2
  rw [w32_id (x := x * 60) (by omega) (by omega), w32_id (x := x * 60 + y) (by omega) (by omega)]
  exact ⟨⟨by omega, by omega⟩, mod 0 t2 _ e z.symm (fun _ => by rw [e, up_ne (by omega)]) (fun y => absurd rfl y)⟩
/-- one int, four bytes -/
def ap4 (f : Int → Int) (q x : Int) : Int → Int := fup (fup (fup (fup f q (i2b (i2b (shr32 x 24)))) (q + 1) (i2b (i2b (shr32 x 16)))) (q + 2) (i2b (i2b (shr32 x 8)))) (q + 3) (i2b (i2b (shr32 x 0)))
theorem i2b_b {x : Int} : -128 ≤ i2b x ∧ i2b x ≤ 127 := by
  unfold i2b
  have h1 := Int8.le_toInt (Int32.ofInt x).toInt8
  have h2 := Int8.toInt_lt (Int32.ofInt x).toInt8
  rw [Int8.toInt_toInt32]
  omega
theorem To_append_s {q x : Int} {f : Int → Int} {Q : Int → SG → Prop} (h0 : σ 22 0 = q) (q0 : 0 ≤ q) (q1 : q + 4 ≤ 600) (hf : ∀ j, 0 ≤ j → j < 600 → σ 23 j = f j) (h : ∀ t, t 22 0 = q + 4 → (∀ j, 0 ≤ j → j < 600 → t 23 j = ap4 f q x j) → Off (fun b j => b = 23 ∨ (b = 22 ∧ j = 0)) σ t → Q 0 t) : Tri (d + 1) M_To_append [vA 22, vI x] σ Q := by
  have step : ∀ (s : SG) (g : Int → Int) (p sh : Int), 0 ≤ sh → sh ≤ 24 → 0 ≤ p → p < 600 → s 22 0 = p → (∀ j, 0 ≤ j → j < 600 → s 23 j = g j) → Off (fun b j => b = 23 ∨ (b = 22 ∧ j = 0)) σ s → (∀ s', s' 22 0 = p + 1 → (∀ j, 0 ≤ j → j < 600 → s' 23 j = fup g p (i2b (i2b (shr32 x sh))) j) → Off (fun b j => b = 23 ∨ (b = 22 ∧ j = 0)) σ s' → L (d + 1) M_To_append 3 [vA 22, vI x, vI (sh - 8)] [] s' Q) → L (d + 1) M_To_append 3 [vA 22, vI x, vI sh] [] s Q := fun s g p sh s0 s1 p0 p1 hp hg hO next => by
    refine s_To_append_3 ⟨fun y => by omega, fun _ => ?_⟩
    rw [hp, w32_id (x := sh + (-8)) (by omega) (by omega)]
    refine ⟨fun y => by omega, fun _ => ⟨⟨p0, p1⟩, fun s3 e3 s4 e4 => ?_⟩⟩
    rw [show s3 22 0 = p by rw [e3, up_ne (by omega)]; exact hp, w32_id (x := p + 1) (by omega) (by omega)] at e4
    refine next s4 (by rw [e4, up_same]) (fun j j0 j1 => ?_) (Off_trans hO (by rw [e4, e3]; exact Off_trans (Off_up (Or.inl rfl)) (Off_up (Or.inr ⟨rfl, rfl⟩))))
    unfold fup
    by_cases qj : j = p
    · rw [if_pos qj, qj, e4, up_ne (by omega), e3, up_same]
    · rw [if_neg qj, e4, up_ne (by omega), e3, up_ne (by omega)]; exact hg j j0 j1
  refine t_To_append (fun _ => step σ f q 24 (by omega) (by omega) q0 (by omega) h0 hf Off_rfl (fun s1 a1 b1 o1 => step s1 _ (q + 1) 16 (by omega) (by omega) (by omega) (by omega) a1 b1 o1 (fun s2 a2 b2 o2 => step s2 _ (q + 2) 8 (by omega) (by omega) (by omega) (by omega) (by omega) b2 o2 (fun s3 a3 b3 o3 => step s3 _ (q + 3) 0 (by omega) (by omega) (by omega) (by omega) (by omega) b3 o3 (fun s4 a4 b4 o4 => s_To_append_3 ⟨fun _ => h s4 (by omega) b4 o4, fun y => by omega⟩)))))
theorem R_lay_s {q x : Int} {f : Int → Int} {Q : Int → SG → Prop} (h0 : σ 161 8 = q) (q0 : 0 ≤ q) (q1 : q + 4 ≤ 600) (hf : ∀ j, 0 ≤ j → j < 600 → σ 165 j = f j) (h : ∀ t, t 161 8 = q + 4 → (∀ j, 0 ≤ j → j < 600 → t 165 j = ap4 f q x j) → Off (fun b j => b = 165 ∨ (b = 161 ∧ j = 8)) σ t → Q 0 t) : Tri (d + 1) M_R_lay [vA 161, vI x] σ Q := by
  have step : ∀ (s : SG) (g : Int → Int) (p i : Int), 0 ≤ i → i ≤ 3 → 0 ≤ p → p < 600 → s 161 8 = p → (∀ j, 0 ≤ j → j < 600 → s 165 j = g j) → Off (fun b j => b = 165 ∨ (b = 161 ∧ j = 8)) σ s → (∀ s', s' 161 8 = p + 1 → (∀ j, 0 ≤ j → j < 600 → s' 165 j = fup g p (i2b (i2b (shr32 x (8 * i)))) j) → Off (fun b j => b = 165 ∨ (b = 161 ∧ j = 8)) σ s' → L (d + 1) M_R_lay 2 [vA 161, vI x, vI (i - 1)] [] s' Q) → L (d + 1) M_R_lay 2 [vA 161, vI x, vI i] [] s Q := fun s g p i s0 s1 p0 p1 hp hg hO next => by
    refine s_R_lay_2 ⟨fun y => by omega, fun _ => ?_⟩
    rw [hp, w32_id (x := i + (-1)) (by omega) (by omega), w32_id (x := 8 * i) (by omega) (by omega)]
    refine ⟨⟨p0, p1⟩, fun s3 e3 s4 e4 => ?_⟩
    rw [show s3 161 8 = p by rw [e3, up_ne (by omega)]; exact hp, w32_id (x := p + 1) (by omega) (by omega)] at e4
    refine next s4 (by rw [e4, up_same]) (fun j j0 j1 => ?_) (Off_trans hO (by rw [e4, e3]; exact Off_trans (Off_up (Or.inl rfl)) (Off_up (Or.inr ⟨rfl, rfl⟩))))
    unfold fup
    by_cases qj : j = p
    · rw [if_pos qj, qj, e4, up_ne (by omega), e3, up_same]
    · rw [if_neg qj, e4, up_ne (by omega), e3, up_ne (by omega)]; exact hg j j0 j1
  refine t_R_lay (fun _ => step σ f q 3 (by omega) (by omega) q0 (by omega) h0 hf Off_rfl (fun s1 a1 b1 o1 => step s1 _ (q + 1) 2 (by omega) (by omega) (by omega) (by omega) a1 b1 o1 (fun s2 a2 b2 o2 => step s2 _ (q + 2) 1 (by omega) (by omega) (by omega) (by omega) (by omega) b2 o2 (fun s3 a3 b3 o3 => step s3 _ (q + 3) 0 (by omega) (by omega) (by omega) (by omega) (by omega) b3 o3 (fun s4 a4 b4 o4 => s_R_lay_2 ⟨fun _ => h s4 (by omega) b4 o4, fun y => by omega⟩)))))
def Byt (f : Int → Int) : Prop := ∀ j, 0 ≤ j → j < 600 → -128 ≤ f j ∧ f j ≤ 127
theorem ap4_b {f : Int → Int} {q x : Int} (h : Byt f) : Byt (ap4 f q x) := by
  have one : ∀ (g : Int → Int) (a v : Int), Byt g → Byt (fup g a (i2b v)) := fun g a v hg j j0 j1 => by
    unfold fup
    by_cases z : j = a
    · rw [if_pos z]; exact i2b_b
    · rw [if_neg z]; exact hg j j0 j1
  exact one _ _ _ (one _ _ _ (one _ _ _ (one _ _ _ h)))
theorem c_feed {x1 x2 x3 x4 x5 : Int} (hI : IVT σ) : CAL d M_X_feed M_R_feed [vI x1, vI x2, vI x3, vI x4, vI x5] σ := by
  obtain ⟨a1, b1, c1, d1, e1, ⟨f1, f2, f3, f4⟩, g1, i1, j1, k1⟩ := hI.2.1
  have hB : Byt (σ 23) := fun j j0 j1 => (f1 j j0 j1).2
  refine t_X_feed (fun _ _ _ _ _ => ⟨fun z => ?_, fun z => ?_⟩)
  · refine To_append_s (f := σ 23) rfl f3 (by omega) (fun _ _ _ => rfl) (fun t1 p1 q1 o1 => To_append_s p1 (by omega) (by omega) q1 (fun t2 p2 q2 o2 => To_append_s p2 (by omega) (by omega) q2 (fun t3 p3 q3 o3 => To_append_s p3 (by omega) (by omega) q3 (fun t4 p4 q4 o4 => To_append_s p4 (by omega) (by omega) q4 (fun t5 p5 q5 o5 => ?_)))))
    have o : Off (fun b j => b = 23 ∨ (b = 22 ∧ j = 0)) σ t5 := Off_trans o1 (Off_trans o2 (Off_trans o3 (Off_trans o4 o5)))
    refine t_R_feed (fun _ _ _ _ _ s0 es0 => ?_)
    have z0 : s0 161 8 = σ 22 0 := by rw [es0, up_ne (by omega), o 161 8 (by omega)]; exact f2.symm
    rw [z0, w32_id (x := σ 22 0 + 20) (by omega) (by omega)]
    refine ⟨fun _ => ?_, fun y => by omega⟩
    refine R_lay_s (f := σ 23) z0 f3 (by omega) (fun j j0 j1 => by rw [es0, up_ne (by omega), o 165 j (by omega)]; exact (f1 j j0 j1).1.symm) (fun s1 u1 v1 w1 => R_lay_s u1 (by omega) (by omega) v1 (fun s2 u2 v2 w2 => R_lay_s u2 (by omega) (by omega) v2 (fun s3 u3 v3 w3 => R_lay_s u3 (by omega) (by omega) v3 (fun s4 u4 v4 w4 => R_lay_s u4 (by omega) (by omega) v4 (fun s5 u5 v5 w5 => ⟨by rw [p5, u5], ?_⟩)))))
    have w : Off (fun b j => b = 165 ∨ (b = 161 ∧ j = 8)) s0 s5 := Off_trans w1 (Off_trans w2 (Off_trans w3 (Off_trans w4 w5)))
    have fr : ∀ b j, ¬ (b = 165 ∨ (b = 161 ∧ (j = 8 ∨ j = 1))) → ¬ (b = 23 ∨ (b = 22 ∧ j = 0)) → s5 b j = σ b j := fun b j y1 y2 => by rw [w b j (by omega), es0, up_ne (by omega), o b j y2]
    refine IVT_g hI (hI.2.1.gen (fun b j => b = 23 ∨ b = 165 ∨ (b = 22 ∧ j = 0) ∨ (b = 161 ∧ j = 8)) (fun b j y1 y2 => fr b j (by unfold PR0 at y1; omega) (by omega)) (Or.inr (fun b j q => by omega)) (Or.inr (fun b j q => by omega)) (Or.inr (fun b j q => by omega)) (Or.inr (fun b j q => by omega)) (Or.inr (fun b j q => by omega)) (Or.inl ⟨fun j j0 j1 => ?_, ?_, ?_⟩) (Or.inr (fun b j q => by omega)) (Or.inr (fun b j q => by omega)) (Or.inr (fun b j q => by omega)) (fun j => by omega)) (fun b j y1 y2 y3 => fr b j (by omega) (by omega)) (fun j _ => fr 166 j (by omega) (by omega)) (fun e j y1 y2 => fr e j (by omega) (by omega)) (by rw [fr 0 0 (by omega) (by omega), fr 161 0 (by omega) (by omega)]; exact hI.1)
    · rw [v5 j j0 j1, w 23 j (by omega), es0, up_ne (by omega), q5 j j0 j1]
      exact ⟨rfl, (ap4_b (ap4_b (ap4_b (ap4_b (ap4_b hB))))) j j0 j1⟩
    · rw [w 22 0 (by omega), es0, up_ne (by omega), p5, u5]
    · rw [w 22 0 (by omega), es0, up_ne (by omega), p5]; omega
  · refine t_R_feed (fun _ _ _ _ _ s0 es0 => ?_)
    have z0 : s0 161 8 = σ 22 0 := by rw [es0, up_ne (by omega)]; exact f2.symm
    rw [z0, w32_id (x := σ 22 0 + 20) (by omega) (by omega)]
    exact ⟨fun y => by omega, fun _ => ⟨rfl, IVT_q hI (QX1 hI) (th1 es0) (by rw [es0, up_ne (by omega)]; exact hI.1.symm)⟩⟩
end CWR
