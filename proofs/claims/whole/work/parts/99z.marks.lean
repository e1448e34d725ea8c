/-! ===== calls: script, mark, back ===== -/
section CMK
variable {d : Nat} {σ : SG} {Q : Int → SG → Prop}
theorem kd_script {a : Int} (h : obok 6 a) : 0 ≤ a ∧ kd (a + 1) = (100, 360) := by
  obtain ⟨h0, h1⟩ := h
  obtain ⟨n, rfl⟩ := nat_of h0
  rw [kd_nat] at h1
  have hn : n < 197 := by rw [← kf_len]; exact kdn_lt (by omega)
  have key : ∀ a, a < 197 → (kdn a).1 = 6 → kdn (a + 1) = (100, 360) := by decide +kernel
  have k1 := key n hn h1
  refine ⟨h0, ?_⟩
  have : ((n : Int) + 1) = ((n + 1 : Nat) : Int) := by omega
  rw [this, kd_nat]
  exact k1
theorem Sc_copyFrom_s {a b : Int} (ha : obok 6 a) (hb : obok 6 b) (h01 : σ b 0 = 0 ∨ σ b 0 = 1) (hne : a ≠ b) (hn1 : a + 1 ≠ b) (hn2 : a ≠ b + 1) (h : ∀ t, (∀ j, 0 ≤ j → j ≤ 2 → t a j = σ b j) → (∀ j, 0 ≤ j → j < 360 → t (a + 1) j = σ (b + 1) j) → Off (fun x j => (x = a ∧ 0 ≤ j ∧ j ≤ 2) ∨ x = a + 1) σ t → Q 0 t) : Tri (d + 1) M_Sc_copyFrom [vA a, vA b] σ Q := by
  obtain ⟨a0, ka⟩ := kd_script ha
  obtain ⟨b0, kb⟩ := kd_script hb
  refine t_Sc_copyFrom ⟨hb, h01, ha, fun s1 e1 => ⟨hb, ha, fun s2 e2 => ⟨hb, ha, fun s3 e3 => ⟨hb, ha, ha, by rw [ka], ⟨by omega, by rw [ka], by rw [kb], by omega, by omega, by omega, by rw [ka, kb]; decide, by rw [ka]; decide⟩, fun s4 e4 => ?_⟩⟩⟩⟩
  have ek : ((kd (a + 1)).2 : Int) = 360 := by rw [ka]; rfl
  rw [ek] at e4
  refine h s4 (fun j j0 j2 => ?_) (fun j j0 j1 => ?_) (fun x j q => ?_)
  · rw [e4, cpy_ne (by omega)]
    have : j = 0 ∨ j = 1 ∨ j = 2 := by omega
    rcases this with y | y | y <;> subst y
    · rw [e3, up_ne (by omega), e2, up_ne (by omega), e1, up_same]
    · rw [e3, up_ne (by omega), e2, up_same, e1, up_ne (by omega)]
    · rw [e3, up_same, e2, up_ne (by omega), e1, up_ne (by omega)]
  · rw [e4, cpy_in (by omega) (by omega), show (0 : Int) + (j - 0) = j by omega, e3, up_ne (by omega), e2, up_ne (by omega), e1, up_ne (by omega)]
  · rw [e4, cpy_ne (by omega), e3, up_ne (by omega), e2, up_ne (by omega), e1, up_ne (by omega)]
theorem KC.cp {σ' : SG} {x y : Int} {c : Int → Int} (h : KC σ y c) (h1 : ∀ j, 1 ≤ j → j ≤ 2 → σ' (x + 1) j = σ (y + 1) j) (h2 : ∀ j, 0 ≤ j → j < 125 → σ' (x + 1 + 1) j = σ (y + 1 + 1) j) (h3 : ∀ i, 1 ≤ i → i ≤ 4 → (∀ j, 1 ≤ j → j ≤ 3 → σ' (x + 5 + 2 * i) j = σ (y + 5 + 2 * i) j) ∧ ∀ j, 0 ≤ j → j < 125 → σ' (x + 5 + 2 * i + 1) j = σ (y + 5 + 2 * i + 1) j) : KC σ' x c := by
  refine ⟨⟨(h1 1 (by omega) (by omega)).trans h.1.1, (h1 2 (by omega) (by omega)).trans h.1.2.1, fun t t0 t1 => (h2 t t0 t1).trans (h.1.2.2 t t0 t1)⟩, fun i i0 i1 => ⟨((h3 i i0 i1).1 3 (by omega) (by omega)).trans (h.2 i i0 i1).1, fun hc => ?_⟩⟩
  have g := (h.2 i i0 i1).2 hc
  exact ⟨((h3 i i0 i1).1 1 (by omega) (by omega)).trans g.1, ((h3 i i0 i1).1 2 (by omega) (by omega)).trans g.2.1, fun t t0 t1 => ((h3 i i0 i1).2 t t0 t1).trans (g.2.2 t t0 t1)⟩
theorem KM.cp {σ' : SG} {f f' : Int} {c : Int → Int} (h : KM σ f c) (h1 : ∀ j, 0 ≤ j → j < 635 → σ' 166 (f' + j) = σ 166 (f + j)) : KM σ' f' c := fun j j0 j1 => (h1 j j0 j1).trans (h j j0 j1)
theorem SRc.cp {σ' : SG} {a a' f f' : Int} (h : SRc σ a f) (h1 : ∀ j, 0 ≤ j → j ≤ 2 → σ' a' j = σ a j) (h2 : ∀ j, 0 ≤ j → j < 360 → σ' (a' + 1) j = σ (a + 1) j) (h3 : ∀ j, 635 ≤ j → j < 860 → σ' 166 (f' + j) = σ 166 (f + j)) : SRc σ' a' f' := by
  rcases h with ⟨p, q⟩ | ⟨p, q, C, M, o, l, k, i1, i2, i3, i4, i5, i6, i7⟩
  · exact Or.inl ⟨(h1 0 (by omega) (by omega)).trans p, (h3 635 (by omega) (by omega)).trans q⟩
  · refine Or.inr ⟨(h1 0 (by omega) (by omega)).trans p, (h3 635 (by omega) (by omega)).trans q, C, M, o, l, k, i1, i2, (h1 1 (by omega) (by omega)).trans i3, (h1 2 (by omega) (by omega)).trans i4, fun u v u0 u1 v0 v1 => ?_, (h3 636 (by omega) (by omega)).trans i6, fun u v u0 u1 v0 v1 => ?_⟩
    · rw [h2 _ (by omega) (by omega)]; exact i5 u v u0 u1 v0 v1
    · have := h3 (637 + 7 * u + v) (by omega) (by omega)
      rw [show f' + 637 + 7 * u + v = f' + (637 + 7 * u + v) by omega, this, ← i7 u v u0 u1 v0 v1]
      congr 1; omega
theorem SRc.fl {a f : Int} (h : SRc σ a f) : σ a 0 = 0 ∨ σ a 0 = 1 := h.elim (fun q => Or.inl q.1) (fun q => Or.inr q.1)
theorem c_script {x : Int} (hI : IVT σ) : CAL d M_X_script M_R_script [vI x] σ := by
  obtain ⟨c, hK, hM, hD, hS⟩ := hI.2.2.1
  have pf := hI.2.1.2.2.2.2.2.1
  have hB : BYT (σ 23) := fun q q0 q1 => (pf.1 q q0 q1).2
  have r5 : ∀ t, t = up σ 0 0 5 → (x < 0 ∨ σ 22 0 < x ∨ 300 < x) → Tri (d + 30) M_R_script [vA 161, vI x] t (fun r2 u2 => -1 = r2 ∧ IVT u2) := fun t e hx => by
    have e8 : t 161 8 = σ 22 0 := by rw [e, up_ne (by omega)]; exact pf.2.1.symm
    exact R_script_s (f := σ 23) hB (fun q q0 q1 => by rw [e, up_ne (by omega)]; exact ((pf.1 q q0 q1).1).symm) (by rw [e8]; exact pf.2.2) (fun _ t2 h2 hO => ⟨rfl, IVT_q hI (QX0 hI e) (Off_mono hO (fun b j q => by unfold DR; omega)) h2⟩) (fun a b => by rw [e8] at b; omega) (fun a b => by rw [e8] at b; omega)
  refine t_X_script (fun _ => ⟨fun z => t_X_fail (fun _ t e => r5 t e (Or.inl z)), fun z => ⟨fun z2 => t_X_fail (fun _ t e => r5 t e (Or.inr (Or.inl z2))), fun z2 => ⟨fun z3 => ?_, fun z3 => t_X_fail (fun _ t e => r5 t e (Or.inr (Or.inr z3)))⟩⟩⟩)
  have pf2 := pf.2.2
  refine To_begin_s (f := σ 23) rfl ⟨z, by omega⟩ (fun t1 hT hO1 => Sc_readFrom_s (M := fun q k => σ 169 (7 * q + k)) z3 hT (fun Y t2 rch g1 g2 g3 hXB hXI hX hF hO2 => ?_) (fun Y t2 rch g1 hF hO2 => ?_))
  · intro t3 e3
    have v28 : ∀ b j, b ≠ 22 → t3 b j = t2 b j := fun b j q => by rw [e3, up_ne (by omega)]
    obtain ⟨_, xcr, x0, x1, x2, _⟩ := hX
    refine ⟨fun _ => Sc_copyFrom_s ob_10 ob_28 (Or.inr (by rw [v28 _ _ (by omega)]; exact x0)) (by omega) (by omega) (by omega) (fun t4 c1 c2 hO4 => t_X_answer (fun _ t e => ?_)), fun y => by omega⟩
    have hO3 : Off (fun b j => b = 22 ∨ b = 28 ∨ b = 29 ∨ b = 30) σ t3 := Off_trans (Off_mono hO1 (fun b j q => Or.inl q.1)) (Off_trans (Off_mono hO2 (fun b j q => by unfold DSc at q; omega)) (by rw [e3]; exact Off_up (Or.inl rfl)))
    have hOt : Off (fun b j => (b = 0 ∧ j = 0) ∨ b = 10 ∨ b = 11 ∨ b = 22 ∨ b = 28 ∨ b = 29 ∨ b = 30) σ t := Off_trans (Off_mono hO3 (fun b j q => by omega)) (Off_trans (Off_mono hO4 (fun b j q => by omega)) (by rw [e]; exact Off_up (Or.inl ⟨rfl, rfl⟩)))
    have et : ∀ b j, b ≠ 0 → t b j = t4 b j := fun b j q => by rw [e, up_ne (by omega)]
    have u0 : t 10 0 = 1 := by rw [et _ _ (by omega), c1 0 (by omega) (by omega), v28 _ _ (by omega)]; exact x0
    have u1 : t 10 1 = xk Y := by rw [et _ _ (by omega), c1 1 (by omega) (by omega), v28 _ _ (by omega)]; exact x1
    have u2 : t 10 2 = xl Y := by rw [et _ _ (by omega), c1 2 (by omega) (by omega), v28 _ _ (by omega)]; exact x2
    have u3 : CRa t (10 + 1) (xC Y) := fun l k l0 l1 k0 k1 => by
      rw [et _ _ (by omega), c2 _ (by omega) (by omega), v28 _ _ (by omega)]; exact xcr l k l0 l1 k0 k1
    have e8 : t 161 8 = σ 22 0 := by rw [hOt 161 8 (by omega)]; exact pf.2.1.symm
    have w22 : t 22 0 = 0 := by rw [et _ _ (by omega), hO4 22 0 (by omega), e3, up_same]
    have w2 : t 22 2 = 0 := by rw [et _ _ (by omega), hO4 22 2 (by omega), e3, up_ne (by omega)]; exact hF.1
    have w3 : t 22 3 = -1 := by rw [et _ _ (by omega), hO4 22 3 (by omega), e3, up_ne (by omega)]; exact hF.2
    have ev : t4 10 1 = xk Y := by rw [← et _ _ (by omega)]; exact u1
    have e169 : (fun q k => t 169 (7 * q + k)) = (fun q k => σ 169 (7 * q + k)) := by funext q k; exact hOt 169 _ (by omega)
    rw [ev]
    refine R_script_s (f := σ 23) hB (fun q q0 q1 => by rw [hOt 165 q (by omega)]; exact ((pf.1 q q0 q1).1).symm) (by rw [e8]; exact pf.2.2) (fun a => by rw [e8] at a; omega) (fun _ _ _ Y' t5 rch' g1' g2' g3' hXB' hXI' a0 a8 a10 a11 m0 m1 m2 hO5 => ?_) (fun _ _ _ Y' t5 rch' g1' => ?_)
    · rw [e169] at rch'
      have eY := rch'.det rch (Or.inr ⟨g2', g3'⟩) (Or.inr ⟨g2, g3⟩)
      rw [eY] at m1 m2 ⊢
      refine ⟨rfl, ?_⟩
      have hO05 : Off (fun b j => (b = 0 ∧ j = 0) ∨ b = 10 ∨ b = 11 ∨ b = 22 ∨ b = 28 ∨ b = 29 ∨ b = 30 ∨ (b = 161 ∧ (j = 0 ∨ j = 1 ∨ (8 ≤ j ∧ j ≤ 18) ∨ j = 70)) ∨ b = 169 ∨ (b = 166 ∧ 635 ≤ j ∧ j < 860)) σ t5 := Off_trans (Off_mono hOt (fun b j q => by omega)) (Off_mono hO5 (fun b j q => by unfold DRS2 at q; omega))
      have n5 : ∀ b j, b ≤ 160 → t5 b j = t b j := fun b j q => hO5 b j (by unfold DRS2; omega)
      refine ⟨?_, ?_, ⟨c, hK.cp (fun j _ _ => hO05 _ j (by omega)) (fun j _ _ => hO05 _ j (by omega)) (fun i _ _ => ⟨fun j _ _ => hO05 _ j (by omega), fun j _ _ => hO05 _ j (by omega)⟩), fun j j0 j1 => ?_, hD, Or.inr ⟨?_, ?_, xC Y, xM Y, xo Y, xl Y, xk Y, ?_, ?_, ?_, ?_, ?_, ?_, ?_⟩⟩, ?_⟩
      · rw [n5 0 0 (by omega), e, up_same, a0]
      · refine hI.2.1.gen (fun b j => (b = 22 ∧ (j = 0 ∨ j = 2 ∨ j = 3)) ∨ (b = 161 ∧ (j = 8 ∨ j = 10 ∨ j = 11))) (fun b j q1 q2 => hO05 b j (by unfold PR0 at q1; omega)) (Or.inr (fun b j q => by omega)) (Or.inr (fun b j q => by omega)) (Or.inr (fun b j q => by omega)) (Or.inr (fun b j q => by omega)) (Or.inr (fun b j q => by omega)) (Or.inl ⟨fun q q0 q1 => ?_, ?_⟩) (Or.inl ⟨?_, ?_⟩) (Or.inr (fun b j q => by omega)) (Or.inr (fun b j q => by omega)) (fun j => by omega)
        · rw [hO05 23 q (by omega), hO05 165 q (by omega)]; exact pf.1 q q0 q1
        · rw [n5 22 0 (by omega), w22, a8]; omega
        · rw [n5 22 2 (by omega), w2, a10]
        · rw [n5 22 3 (by omega), w3, a11]
      · rw [hO05 166 _ (by omega)]; exact hM j j0 j1
      · exact (n5 10 0 (by omega)).trans u0
      · exact m0
      · have := hXI; unfold XI at this; rw [g3] at this; exact this
      · obtain ⟨_, y1, y2, y3, y4, y5, y6⟩ := hXB; omega
      · exact (n5 10 1 (by omega)).trans u1
      · exact (n5 10 2 (by omega)).trans u2
      · exact fun l k l0 l1 k0 k1 => (n5 _ _ (by omega)).trans (u3 l k l0 l1 k0 k1)
      · exact m1
      · intro q c q0 q1 c0 c1
        have := m2 q c q0 q1 c0 c1
        rw [show (0 : Int) + 637 + 7 * q + c = 637 + 7 * q + c by omega]; exact this
      · exact hI.2.2.2.off hO05 (fun y hy => by have := ech_list hy; omega)
    · rw [e169] at rch'
      have eY := rch'.det rch (Or.inl g1') (Or.inr ⟨g2, g3⟩)
      rw [eY, g1] at g1'
      omega
  · intro t3 e3
    refine ⟨fun y => absurd rfl y, fun _ => t_X_fail (fun _ t e => ?_)⟩
    have hOt : Off (fun b j => (b = 0 ∧ j = 0) ∨ b = 22 ∨ b = 28 ∨ b = 29 ∨ b = 30) σ t := Off_trans (Off_mono hO1 (fun b j q => Or.inr (Or.inl q.1))) (Off_trans (Off_mono hO2 (fun b j q => by unfold DSc at q; omega)) (by rw [e, e3]; exact Off_trans (Off_up (Or.inr (Or.inl rfl))) (Off_up (Or.inl ⟨rfl, rfl⟩))))
    have e8 : t 161 8 = σ 22 0 := by rw [hOt 161 8 (by omega)]; exact pf.2.1.symm
    have w22 : t 22 0 = 0 := by rw [e, up_ne (by omega), e3, up_same]
    have w2 : t 22 2 = Y.1.1 := by rw [e, up_ne (by omega), e3, up_ne (by omega)]; exact hF.1
    have w3 : t 22 3 = Y.1.2.1 := by rw [e, up_ne (by omega), e3, up_ne (by omega)]; exact hF.2
    have e169 : (fun q k => t 169 (7 * q + k)) = (fun q k => σ 169 (7 * q + k)) := by funext q k; exact hOt 169 _ (by omega)
    refine R_script_s (f := σ 23) hB (fun q q0 q1 => by rw [hOt 165 q (by omega)]; exact ((pf.1 q q0 q1).1).symm) (by rw [e8]; exact pf.2.2) (fun a => by rw [e8] at a; omega) (fun _ _ _ Y' t5 rch' g1' g2' g3' => ?_) (fun _ _ _ Y' t5 rch' g1' a0 a8 a10 a11 hO5 => ⟨rfl, ?_⟩)
    · rw [e169] at rch'
      have eY := rch'.det rch (Or.inr ⟨g2', g3'⟩) (Or.inl g1)
      rw [eY] at g1'
      omega
    · rw [e169] at rch'
      have eY := rch'.det rch (Or.inl g1') (Or.inl g1)
      rw [eY] at a10 a11
      have hO05 : Off (fun b j => (b = 0 ∧ j = 0) ∨ b = 22 ∨ b = 28 ∨ b = 29 ∨ b = 30 ∨ (b = 161 ∧ (j = 0 ∨ j = 1 ∨ (8 ≤ j ∧ j ≤ 18) ∨ j = 70)) ∨ b = 169) σ t5 := Off_trans (Off_mono hOt (fun b j q => by omega)) (Off_mono hO5 (fun b j q => by unfold DRS2 at q; omega))
      have n5 : ∀ b j, b ≤ 160 → t5 b j = t b j := fun b j q => hO5 b j (by unfold DRS2; omega)
      refine IVT_g hI ?_ (fun b j q1 q2 _ => hO05 b j (by omega)) (fun j _ => hO05 166 j (by omega)) (fun y j q1 q2 => hO05 y j (by omega)) (by rw [n5 0 0 (by omega), e, up_same, a0])
      refine hI.2.1.gen (fun b j => (b = 22 ∧ (j = 0 ∨ j = 2 ∨ j = 3)) ∨ (b = 161 ∧ (j = 8 ∨ j = 10 ∨ j = 11))) (fun b j q1 q2 => hO05 b j (by unfold PR0 at q1; omega)) (Or.inr (fun b j q => by omega)) (Or.inr (fun b j q => by omega)) (Or.inr (fun b j q => by omega)) (Or.inr (fun b j q => by omega)) (Or.inr (fun b j q => by omega)) (Or.inl ⟨fun q q0 q1 => ?_, ?_⟩) (Or.inl ⟨?_, ?_⟩) (Or.inr (fun b j q => by omega)) (Or.inr (fun b j q => by omega)) (fun j => by omega)
      · rw [hO05 23 q (by omega), hO05 165 q (by omega)]; exact pf.1 q q0 q1
      · rw [n5 22 0 (by omega), w22, a8]; omega
      · rw [n5 22 2 (by omega), w2, a10]
      · rw [n5 22 3 (by omega), w3, a11]
/-- desks -/
theorem dsk {x : Int} (hx : x = 6 ∨ x = 116 ∨ x = 131 ∨ x = 146) : obok 1 x ∧ obok 10 (x + 1) ∧ obok 6 (x + 4) ∧ kd (x + 3) = (105, 4) ∧ ∀ k, 0 ≤ k → k < 4 → obok 10 (x + 7 + 2 * k) := by
  rcases hx with h | h | h | h <;> subst h <;> refine ⟨⟨by decide, by decide +kernel⟩, ⟨by decide, by decide +kernel⟩, ⟨by decide, by decide +kernel⟩, by decide +kernel, fun k k0 k1 => ?_⟩ <;> (have hk : k = 0 ∨ k = 1 ∨ k = 2 ∨ k = 3 := by omega) <;> rcases hk with h | h | h | h <;> subst h <;> exact ⟨by decide, by decide +kernel⟩
theorem De_copyFrom_s {x y : Int} {c : Int → Int} (hx : x = 6 ∨ x = 116 ∨ x = 131 ∨ x = 146) (hy : y = 6 ∨ y = 116 ∨ y = 131 ∨ y = 146) (hxy : x ≠ y) (hK : KC σ y c) (hb : σ (y + 4) 0 = 0 ∨ σ (y + 4) 0 = 1)
    (h : ∀ t, KC t x c → (∀ j, 0 ≤ j → j ≤ 2 → t (x + 4) j = σ (y + 4) j) → (∀ j, 0 ≤ j → j < 360 → t (x + 4 + 1) j = σ (y + 4 + 1) j) → Off (fun b j => x + 1 ≤ b ∧ b ≤ x + 14) σ t → Q 0 t) : Tri (d + 2) M_De_copyFrom [vA x, vA y] σ Q := by
  obtain ⟨x1, x2, x3, x4, x5⟩ := dsk hx
  obtain ⟨y1, y2, y3, y4, y5⟩ := dsk hy
  refine t_De_copyFrom ⟨x1, y1, x2, Wd_copyFrom_s x2 y2 ⟨x1, y1, x3, ?_⟩⟩
  have hA : Off (fun b j => x + 1 ≤ b ∧ b ≤ x + 2) σ (cpy (up (up σ (x + 1) 1 (σ (y + 1) 1)) (x + 1) 2 (σ (y + 1) 2)) (y + 1 + 1) 0 (x + 1 + 1) 0 125) := fun b j q => by rw [cpy_ne (by omega), up_ne (by omega), up_ne (by omega)]
  have hA1 : ∀ j, 1 ≤ j → j ≤ 2 → (cpy (up (up σ (x + 1) 1 (σ (y + 1) 1)) (x + 1) 2 (σ (y + 1) 2)) (y + 1 + 1) 0 (x + 1 + 1) 0 125) (x + 1) j = σ (y + 1) j := fun j j0 j1 => by
    rw [cpy_ne (by omega)]
    have hj : j = 1 ∨ j = 2 := by omega
    rcases hj with e | e <;> subst e
    · rw [up_ne (by omega), up_same]
    · rw [up_same]
  have hA2 : ∀ j, 0 ≤ j → j < 125 → (cpy (up (up σ (x + 1) 1 (σ (y + 1) 1)) (x + 1) 2 (σ (y + 1) 2)) (y + 1 + 1) 0 (x + 1 + 1) 0 125) (x + 1 + 1) j = σ (y + 1 + 1) j := fun j j0 j1 => by
    rw [cpy_in (by omega) (by omega), show (0 : Int) + (j - 0) = j by omega, up_ne (by omega), up_ne (by omega)]
  generalize cpy (up (up σ (x + 1) 1 (σ (y + 1) 1)) (x + 1) 2 (σ (y + 1) 2)) (y + 1 + 1) 0 (x + 1 + 1) 0 125 = s1 at hA hA1 hA2 ⊢
  refine Sc_copyFrom_s x3 y3 (by rw [hA _ _ (by omega)]; exact hb) (by omega) (by omega) (by omega) (fun s2 c1 c2 hO2 => ?_)
  have hO02 : Off (fun b j => x + 1 ≤ b ∧ b ≤ x + 5) σ s2 := Off_trans (Off_mono hA (fun b j q => by omega)) (Off_mono hO2 (fun b j q => by omega))
  refine loop_up (P := fun k s => L (d + 2) M_De_copyFrom 24 [vA x, vA y, vI k] [] s Q) (fun k s => 0 ≤ k ∧ (∀ i, 1 ≤ i → i ≤ k → (∀ j, 1 ≤ j → j ≤ 3 → s (x + 5 + 2 * i) j = σ (y + 5 + 2 * i) j) ∧ ∀ j, 0 ≤ j → j < 125 → s (x + 5 + 2 * i + 1) j = σ (y + 5 + 2 * i + 1) j) ∧ Off (fun b j => x + 7 ≤ b ∧ b ≤ x + 14) s2 s) 4 ?_ ?_ 0 (by omega) s2 ⟨Int.le_refl _, fun i i0 i1 => by omega, Off_rfl⟩
  · rintro s ⟨_, a1, a2⟩
    refine s_De_copyFrom_24 ⟨fun _ => h s ?_ (fun j j0 j2 => ?_) (fun j j0 j1 => ?_) (Off_trans (Off_mono hO02 (fun b j q => by omega)) (Off_mono a2 (fun b j q => by omega))), fun z => by omega⟩
    · refine hK.cp (fun j j0 j1 => ?_) (fun j j0 j1 => ?_) (fun i i0 i1 => a1 i i0 i1)
      · rw [a2 _ _ (by omega), hO2 _ _ (by omega)]; exact hA1 j j0 j1
      · rw [a2 _ _ (by omega), hO2 _ _ (by omega)]; exact hA2 j j0 j1
    · rw [a2 _ _ (by omega), c1 j j0 j2]; exact hA _ _ (by omega)
    · rw [a2 _ _ (by omega), c2 j j0 j1]; exact hA _ _ (by omega)
  · rintro k s hk ⟨k0, a1, a2⟩ next
    have es : ∀ b j, (y + 7 ≤ b ∧ b ≤ y + 14) → s b j = σ b j := fun b j q => by rw [a2 b j (by omega)]; exact hO02 b j (by omega)
    have xk := x5 k k0 hk
    have yk := y5 k k0 hk
    refine s_De_copyFrom_24 ⟨fun z => by omega, fun _ => ⟨x1, rd_of x4 k0 (by omega), y1, rd_of y4 k0 (by omega), xk, Wd_copyFrom_s xk yk ⟨x1, rd_of x4 k0 (by omega), y1, rd_of y4 k0 (by omega), yk, ?_, xk, fun s3 e3 => ?_⟩⟩⟩
    · rw [cpy_ne (by omega), up_ne (by omega), up_ne (by omega), es _ _ (by omega), show y + 7 + 2 * k = y + 5 + 2 * (k + 1) by omega, (hK.2 (k + 1) (by omega) (by omega)).1]
      by_cases q : c (127 * (k + 1)) = 0
      · exact Or.inl (if_pos q)
      · exact Or.inr (if_neg q)
    · rw [w32_id (by omega) (by omega)]
      refine next s3 ⟨by omega, fun i i0 i1 => ?_, Off_trans a2 (fun b j q => by rw [e3, up_ne (by omega), cpy_ne (by omega), up_ne (by omega), up_ne (by omega)])⟩
      by_cases q : i = k + 1
      · subst q
        rw [show x + 5 + 2 * (k + 1) = x + 7 + 2 * k by omega, show y + 5 + 2 * (k + 1) = y + 7 + 2 * k by omega]
        refine ⟨fun j j0 j1 => ?_, fun j j0 j1 => ?_⟩
        · have hj : j = 1 ∨ j = 2 ∨ j = 3 := by omega
          rcases hj with e | e | e <;> subst e
          · rw [e3, up_ne (by omega), cpy_ne (by omega), up_ne (by omega), up_same]; exact es _ _ (by omega)
          · rw [e3, up_ne (by omega), cpy_ne (by omega), up_same]; exact es _ _ (by omega)
          · rw [e3, up_same, cpy_ne (by omega), up_ne (by omega), up_ne (by omega)]; exact es _ _ (by omega)
        · rw [e3, up_ne (by omega), cpy_in (by omega) (by omega), show (0 : Int) + (j - 0) = j by omega, up_ne (by omega), up_ne (by omega)]; exact es _ _ (by omega)
      · refine ⟨fun j j0 j1 => ?_, fun j j0 j1 => ?_⟩
        · rw [e3, up_ne (by omega), cpy_ne (by omega), up_ne (by omega), up_ne (by omega)]; exact (a1 i i0 (by omega)).1 j j0 j1
        · rw [e3, up_ne (by omega), cpy_ne (by omega), up_ne (by omega), up_ne (by omega)]; exact (a1 i i0 (by omega)).2 j j0 j1
theorem R_copy_s {a b : Int} (ha : 0 ≤ a ∧ a < 4) (hb : 0 ≤ b ∧ b < 4) (hab : a ≠ b) (h : ∀ t, (∀ j, 0 ≤ j → j < 860 → t 166 (860 * b + j) = σ 166 (860 * a + j)) → Off (fun x j => x = 166 ∧ 860 * b ≤ j ∧ j < 860 * b + 860) σ t → Q 0 t) : Tri (d + 1) M_R_copy [vA 161, vI a, vI b] σ Q := by
  refine t_R_copy (fun _ _ => ?_)
  refine loop_up (P := fun k s => L (d + 1) M_R_copy 2 [vA 161, vI a, vI b, vI k] [] s Q) (fun k s => 0 ≤ k ∧ (∀ j, 0 ≤ j → j < k → s 166 (860 * b + j) = σ 166 (860 * a + j)) ∧ Off (fun x j => x = 166 ∧ 860 * b ≤ j ∧ j < 860 * b + 860) σ s) 860 ?_ ?_ 0 (by omega) σ ⟨Int.le_refl _, fun j j0 j1 => by omega, Off_rfl⟩
  · rintro s ⟨_, a1, a2⟩
    exact s_R_copy_2 ⟨fun _ => h s a1 a2, fun z => by omega⟩
  · rintro k s hk ⟨k0, a1, a2⟩ next
    refine s_R_copy_2 ⟨fun z => by omega, fun _ => ?_⟩
    rw [w32_id (x := 860 * a) (by omega) (by omega), w32_id (x := 860 * b) (by omega) (by omega), w32_id (x := 860 * a + k) (by omega) (by omega), w32_id (x := 860 * b + k) (by omega) (by omega), w32_id (x := k + 1) (by omega) (by omega)]
    refine ⟨⟨by omega, by omega⟩, ⟨by omega, by omega⟩, fun s2 e => next s2 ⟨by omega, fun j j0 j1 => ?_, Off_trans a2 (by rw [e]; exact Off_up ⟨rfl, by omega, by omega⟩)⟩⟩
    by_cases q : j = k
    · rw [q, e, up_same]; exact a2 _ _ (by omega)
    · rw [e, up_ne (by omega)]; exact a1 j j0 (by omega)
theorem c_mark (hI : IVT σ) : CAL d M_X_mark M_R_mark [] σ := by
  obtain ⟨c, hK, hM, hD, hS⟩ := hI.2.2.1
  obtain ⟨pc1, pc2, pc3⟩ := hI.2.1.2.2.1
  have ph : Ph σ := hI.2.1.2.2.2.2.2.2.2.1
  refine t_X_mark ⟨fun z => ?_, fun z => t_X_fail (fun _ t e => t_R_mark (fun t1 e1 t2 e2 => ?_))⟩
  · have hm : 116 + 15 * σ 0 4 = 6 ∨ 116 + 15 * σ 0 4 = 116 ∨ 116 + 15 * σ 0 4 = 131 ∨ 116 + 15 * σ 0 4 = 146 := by omega
    refine ⟨rd_of kd_21 pc2 (by omega), (dsk hm).1, De_copyFrom_s hm (Or.inl rfl) (by omega) hK hS.fl (fun t2 hK2 c1 c2 hO2 => ?_)⟩
    intro t3 e3
    have m2 : t2 0 4 = σ 0 4 := hO2 0 4 (by omega)
    rw [m2, w32_id (by omega) (by omega)] at e3
    refine t_X_answer (fun _ t e => ?_)
    have hOt : Off (fun b j => (b = 0 ∧ (j = 0 ∨ j = 4)) ∨ (116 + 15 * σ 0 4 + 1 ≤ b ∧ b ≤ 116 + 15 * σ 0 4 + 14)) σ t := Off_trans (Off_mono hO2 (fun b j q => Or.inr q)) (by rw [e, e3]; exact Off_trans (Off_up (Or.inl ⟨rfl, Or.inr rfl⟩)) (Off_up (Or.inl ⟨rfl, Or.inl rfl⟩)))
    have hOt2 : ∀ b j, b ≠ 0 → t b j = t2 b j := fun b j q => by rw [e, e3, up_ne (by omega), up_ne (by omega)]
    have em : t3 0 4 = σ 0 4 + 1 := by rw [e3, up_same]
    have em2 : t 0 4 = σ 0 4 + 1 := by rw [e, up_ne (by omega)]; exact em
    rw [em]
    refine t_R_mark (fun t4 e4 t5 e5 => ?_)
    have n5 : t5 161 23 = σ 0 4 := by rw [e5, up_ne (by omega), e4, up_ne (by omega), hOt 161 23 (by omega)]; exact pc1.symm
    refine ⟨fun _ => ?_, fun y => by omega⟩
    rw [n5, w32_id (by omega) (by omega)]
    intro t6 e6
    have n6 : t6 161 23 = σ 0 4 + 1 := by rw [e6, up_same]
    have hO6 : Off (fun b j => b = 161 ∧ (j = 0 ∨ j = 1 ∨ j = 23)) t t6 := by
      rw [e6, e5, e4]; exact Off_trans (Off_up ⟨rfl, by omega⟩) (Off_trans (Off_up ⟨rfl, by omega⟩) (Off_up ⟨rfl, by omega⟩))
    rw [n6]
    refine R_copy_s ⟨by omega, by omega⟩ ⟨by omega, by omega⟩ (by omega) (fun t7 cp hO7 => ?_)
    have n7 : t7 161 23 = σ 0 4 + 1 := (hO7 161 23 (by omega)).trans n6
    have hOa : Off (fun b j => (b = 0 ∧ (j = 0 ∨ j = 4)) ∨ (116 + 15 * σ 0 4 + 1 ≤ b ∧ b ≤ 116 + 15 * σ 0 4 + 14) ∨ (b = 161 ∧ (j = 0 ∨ j = 1 ∨ j = 23)) ∨ (b = 166 ∧ 860 * (σ 0 4 + 1) ≤ j ∧ j < 860 * (σ 0 4 + 1) + 860)) σ t7 := Off_trans (Off_mono hOt (fun b j q => by omega)) (Off_trans (Off_mono hO6 (fun b j q => by omega)) (Off_mono hO7 (fun b j q => by omega)))
    have e7 : ∀ b j, 1 ≤ b → b ≤ 160 → t7 b j = t2 b j := fun b j q1 q2 => by rw [hO7 b j (by omega), hO6 b j (by omega)]; exact hOt2 b j (by omega)
    have cp2 : ∀ j, 0 ≤ j → j < 860 → t7 166 (860 * (σ 0 4 + 1) + j) = σ 166 (0 + j) := fun j j0 j1 => by
      rw [cp j j0 j1, hO6 166 _ (by omega), hOt 166 _ (by omega)]; congr 1
    rw [n7]
    refine ⟨rfl, ?_, ?_, ?_, ?_⟩
    · rw [hO7 0 0 (by omega), hO6 0 0 (by omega), e, up_same, hO7 161 0 (by omega), e6, up_ne (by omega), e5, up_same]
    · have m7 : t7 0 4 = σ 0 4 + 1 := by rw [hO7 0 4 (by omega), hO6 0 4 (by omega)]; exact em2
      refine hI.2.1.gen (fun b j => (b = 0 ∧ j = 4) ∨ (b = 161 ∧ j = 23) ∨ (116 ≤ b ∧ b ≤ 160) ∨ (b = 166 ∧ 860 ≤ j)) (fun b j q1 q2 => hOa b j (by unfold PR0 at q1; omega)) (Or.inr (fun b j q => by omega)) (Or.inr (fun b j q => by omega)) (Or.inl ⟨by rw [m7, n7], by omega, by omega⟩) (Or.inr (fun b j q => by omega)) (Or.inr (fun b j q => by omega)) (Or.inr (fun b j q => by omega)) (Or.inr (fun b j q => by omega)) (Or.inl (fun i i0 i1 => ?_)) (Or.inr (fun b j q => by omega)) (fun j => by omega)
      rw [m7] at i1
      by_cases q : i = σ 0 4
      · subst q
        exact ⟨c, hK2.off (OffN_of (D := fun b j => ¬ (1 ≤ b ∧ b ≤ 160)) (fun b j q => e7 b j (by omega) (by omega))) (fun b j q1 q2 => by omega), hM.cp (fun j j0 j1 => cp2 j j0 (by omega)), hD, hS.cp (fun j j0 j1 => (e7 _ j (by omega) (by omega)).trans (c1 j j0 j1)) (fun j j0 j1 => (e7 _ j (by omega) (by omega)).trans (c2 j j0 j1)) (fun j j0 j1 => cp2 j (by omega) j1)⟩
      · exact (ph i i0 (by omega)).fr (by omega) (fun b j q1 q2 _ => hOa b j (by omega)) (fun j q1 q2 => hOa 166 j (by omega))
    · exact hI.2.2.1.fr (Or.inl rfl) (fun b j q1 q2 _ => hOa b j (by omega)) (fun j q1 q2 => hOa 166 j (by omega))
    · exact hI.2.2.2.off hOa (fun y hy => by have := ech_list hy; omega)
  · have n5 : t2 161 23 = σ 0 4 := by rw [e2, up_ne (by omega), e1, up_ne (by omega), e, up_ne (by omega)]; exact pc1.symm
    exact ⟨fun y => by omega, fun _ => R_ref (fun t3 h3 hO => ⟨rfl, no_no hI (QX0 hI e) e1 e2 h3 hO⟩)⟩
theorem c_back (hI : IVT σ) : CAL d M_X_back M_R_back [] σ := by
  obtain ⟨pc1, pc2, pc3⟩ := hI.2.1.2.2.1
  have ph : Ph σ := hI.2.1.2.2.2.2.2.2.2.1
  refine t_X_back ⟨fun z => ?_, fun z => t_X_fail (fun _ t e => t_R_back (fun t1 e1 t2 e2 => ?_))⟩
  · intro t2 e2
    rw [w32_id (by omega) (by omega)] at e2
    have m2 : t2 0 4 = σ 0 4 - 1 := by rw [e2, up_same]
    obtain ⟨c, hK, hM, hD, hS⟩ := ph (σ 0 4 - 1) (by omega) (by omega)
    have hm : 116 + 15 * (σ 0 4 - 1) = 6 ∨ 116 + 15 * (σ 0 4 - 1) = 116 ∨ 116 + 15 * (σ 0 4 - 1) = 131 ∨ 116 + 15 * (σ 0 4 - 1) = 146 := by omega
    have hO2 : Off (fun b j => b = 0 ∧ j = 4) σ t2 := by rw [e2]; exact Off_up ⟨rfl, rfl⟩
    rw [m2]
    refine ⟨rd_of kd_21 (by omega) (by omega), De_copyFrom_s (Or.inl rfl) hm (by omega) (hK.off (OffN_of hO2) (fun b j q1 q2 => by omega)) (by rw [hO2 _ _ (by omega)]; exact hS.fl) (fun t3 hK3 c1 c2 hO3 => t_X_answer (fun _ t e => ?_))⟩
    have em : t3 0 4 = σ 0 4 - 1 := by rw [hO3 0 4 (by omega)]; exact m2
    have hOt : Off (fun b j => (b = 0 ∧ (j = 0 ∨ j = 4)) ∨ (7 ≤ b ∧ b ≤ 20)) σ t := Off_trans (Off_mono hO2 (fun b j q => by omega)) (Off_trans (Off_mono hO3 (fun b j q => by omega)) (by rw [e]; exact Off_up (Or.inl ⟨rfl, Or.inl rfl⟩)))
    have hOt3 : ∀ b j, b ≠ 0 → t b j = t3 b j := fun b j q => by rw [e, up_ne (by omega)]
    rw [em]
    refine t_R_back (fun t4 e4 t5 e5 => ?_)
    have n5 : t5 161 23 = σ 0 4 := by rw [e5, up_ne (by omega), e4, up_ne (by omega), hOt 161 23 (by omega)]; exact pc1.symm
    have hO5 : Off (fun b j => b = 161 ∧ (j = 0 ∨ j = 1)) t t5 := by
      rw [e5, e4]; exact Off_trans (Off_up ⟨rfl, by omega⟩) (Off_up ⟨rfl, by omega⟩)
    refine ⟨fun _ => ?_, fun y => by omega⟩
    rw [n5]
    refine R_copy_s ⟨by omega, by omega⟩ ⟨by omega, by omega⟩ (by omega) (fun t6 cp hO6 => ?_)
    have n6 : t6 161 23 = σ 0 4 := (hO6 161 23 (by omega)).trans n5
    rw [n6, w32_id (by omega) (by omega)]
    intro t7 e7
    have n7 : t7 161 23 = σ 0 4 - 1 := by rw [e7, up_same]
    have hOa : Off (fun b j => (b = 0 ∧ (j = 0 ∨ j = 4)) ∨ (7 ≤ b ∧ b ≤ 20) ∨ (b = 161 ∧ (j = 0 ∨ j = 1 ∨ j = 23)) ∨ (b = 166 ∧ 0 ≤ j ∧ j < 860)) σ t7 := Off_trans (Off_mono hOt (fun b j q => by omega)) (Off_trans (Off_mono hO5 (fun b j q => by omega)) (Off_trans (Off_mono hO6 (fun b j q => by omega)) (by rw [e7]; exact Off_up (Or.inr (Or.inr (Or.inl ⟨rfl, by omega⟩))))))
    have e7t : ∀ b j, 1 ≤ b → b ≤ 160 → t7 b j = t3 b j := fun b j q1 q2 => by rw [e7, up_ne (by omega), hO6 b j (by omega), hO5 b j (by omega)]; exact hOt3 b j (by omega)
    have cp2 : ∀ j, 0 ≤ j → j < 860 → t7 166 (0 + j) = σ 166 (860 * (σ 0 4 - 1 + 1) + j) := fun j j0 j1 => by
      have := cp j j0 j1
      rw [show (860 : Int) * 0 + j = 0 + j by omega] at this
      rw [e7, up_ne (by omega), this, hO5 166 _ (by omega), hOt 166 _ (by omega)]; congr 1; omega
    rw [n7]
    refine ⟨rfl, ?_, ?_, ?_, ?_⟩
    · rw [e7, up_ne (by omega), up_ne (by omega), hO6 0 0 (by omega), hO5 0 0 (by omega), e, up_same, hO6 161 0 (by omega), e5, up_same]
    · have m7 : t7 0 4 = σ 0 4 - 1 := by rw [e7, up_ne (by omega), hO6 0 4 (by omega), hO5 0 4 (by omega), e, up_ne (by omega)]; exact em
      refine hI.2.1.gen (fun b j => (b = 0 ∧ j = 4) ∨ (b = 161 ∧ j = 23)) (fun b j q1 q2 => hOa b j (by unfold PR0 at q1; omega)) (Or.inr (fun b j q => by omega)) (Or.inr (fun b j q => by omega)) (Or.inl ⟨by rw [m7, n7], by omega, by omega⟩) (Or.inr (fun b j q => by omega)) (Or.inr (fun b j q => by omega)) (Or.inr (fun b j q => by omega)) (Or.inr (fun b j q => by omega)) (Or.inl (fun i i0 i1 => ?_)) (Or.inr (fun b j q => by omega)) (fun j => by omega)
      rw [m7] at i1
      exact (ph i i0 (by omega)).fr (by omega) (fun b j q1 q2 _ => hOa b j (by omega)) (fun j q1 q2 => hOa 166 j (by omega))
    · exact ⟨c, hK3.off (OffN_of (D := fun b j => ¬ (1 ≤ b ∧ b ≤ 160)) (fun b j q => e7t b j (by omega) (by omega))) (fun b j q1 q2 => by omega), hM.cp (fun j j0 j1 => cp2 j j0 (by omega)), hD, hS.cp (fun j j0 j1 => (e7t _ j (by omega) (by omega)).trans ((c1 j j0 j1).trans (hO2 _ _ (by omega)))) (fun j j0 j1 => (e7t _ j (by omega) (by omega)).trans ((c2 j j0 j1).trans (hO2 _ _ (by omega)))) (fun j j0 j1 => cp2 j (by omega) j1)⟩
    · exact hI.2.2.2.off hOa (fun y hy => by have := ech_list hy; omega)
  · have n5 : t2 161 23 = σ 0 4 := by rw [e2, up_ne (by omega), e1, up_ne (by omega), e, up_ne (by omega)]; exact pc1.symm
    exact ⟨fun y => by omega, fun _ => R_ref (fun t3 h3 hO => ⟨rfl, no_no hI (QX0 hI e) e1 e2 h3 hO⟩)⟩
end CMK
