/-! ===== calls: pour ===== -/
section CPO
variable {d : Nat} {σ : SG}
def prc (σ : SG) (x1 x2 x3 x4 x5 : Int) : Int := if ¬ ((0 ≤ x1 ∧ x1 < 4) ∧ 0 ≤ x3 ∧ x3 < 4) then 1 else if σ 3 x1 < 0 ∨ σ 3 x3 < 0 then 3 else if σ 2 x1 ≠ σ 2 x3 then 11 else if x5 < 0 then 6 else if x2 < 0 ∨ x4 < 0 ∨ σ 3 x1 < x2 + x5 ∨ σ 3 x3 < x4 + x5 then 4 else 0
/-- the model's numbers go over one by one -/
theorem R_pour_l {x1 x2 x3 x4 x5 rs : Int} {t : SG} {Q : Int → SG → Prop} (h1 : 0 ≤ x1 ∧ x1 < 4) (h3 : 0 ≤ x3 ∧ x3 < 4) (h2 : 0 ≤ x2) (h4 : 0 ≤ x4) (h5 : 0 ≤ x5) (l1 : x2 + x5 ≤ 60) (l3 : x4 + x5 ≤ 60) (hr : (rs = 1 ∧ x2 < x4) ∨ (rs = 0 ∧ x4 ≤ x2))
    (h : ∀ t2, (∀ p, 0 ≤ p → p < x5 → t2 164 (60 * x3 + x4 + p) = t 164 (60 * x1 + x2 + p)) → Off (fun b j => b = 164 ∧ 60 * x3 + x4 ≤ j ∧ j < 60 * x3 + x4 + x5) t t2 → Q 1 t2) : L (d + 1) M_R_pour 158 [vA 161, vI x1, vI x2, vI x3, vI x4, vI x5, vI rs, vI 0, vU] [] t Q := by
  have dj : ∀ n n', 0 ≤ n → n < x5 → 0 ≤ n' → n' < x5 → ((rs = 1 ∧ n < n') ∨ (rs = 0 ∧ n' < n)) → 60 * x1 + x2 + n ≠ 60 * x3 + x4 + n' := fun n n' a0 a1 b0 b1 hh => by omega
  have st : ∀ (x n : Int) (s : SG), 0 ≤ x → x < x5 → 0 ≤ n → n < x5 → (∀ s2, s2 = up s 164 (60 * x3 + x4 + n) (s 164 (60 * x1 + x2 + n)) → L (d + 1) M_R_pour 158 [vA 161, vI x1, vI x2, vI x3, vI x4, vI x5, vI rs, vI (x + 1), vU] [] s2 Q) → L (d + 1) M_R_pour 182 [vA 161, vI x1, vI x2, vI x3, vI x4, vI x5, vI rs, vI x, vU] [vI n] s Q := fun x n s x0 x1' n0 n1 next => by
    refine s_R_pour_182 ?_
    rw [w32_id (x := 60 * x1) (by omega) (by omega), w32_id (x := 60 * x1 + x2) (by omega) (by omega), w32_id (x := 60 * x1 + x2 + n) (by omega) (by omega), w32_id (x := 60 * x3) (by omega) (by omega), w32_id (x := 60 * x3 + x4) (by omega) (by omega), w32_id (x := 60 * x3 + x4 + n) (by omega) (by omega), w32_id (x := x + 1) (by omega) (by omega)]
    exact ⟨⟨by omega, by omega⟩, ⟨by omega, by omega⟩, next⟩
  -- what is done after x turns
  refine loop_up (P := fun x s => L (d + 1) M_R_pour 158 [vA 161, vI x1, vI x2, vI x3, vI x4, vI x5, vI rs, vI x, vU] [] s Q) (fun x s => 0 ≤ x ∧ (∀ p, 0 ≤ p → p < x5 → ((rs = 0 ∧ p < x) ∨ (rs = 1 ∧ x5 - x ≤ p)) → s 164 (60 * x3 + x4 + p) = t 164 (60 * x1 + x2 + p)) ∧ Off (fun b j => b = 164 ∧ 60 * x3 + x4 ≤ j ∧ j < 60 * x3 + x4 + x5) t s ∧ ∀ p, 0 ≤ p → p < x5 → ¬ ((rs = 0 ∧ p < x) ∨ (rs = 1 ∧ x5 - x ≤ p)) → s 164 (60 * x3 + x4 + p) = t 164 (60 * x3 + x4 + p)) x5 ?_ ?_ 0 (by omega) t ⟨Int.le_refl _, fun p p0 p1 hp => by omega, Off_rfl, fun _ _ _ _ => rfl⟩
  · intro s ⟨y0, hs, hO, hn⟩
    exact s_R_pour_158 ⟨fun _ => h s (fun p p0 p1 => hs p p0 p1 (by omega)) hO, fun y => by omega⟩
  · intro x s hx ⟨y0, hs, hO, hn⟩ next
    have go : ∀ n, 0 ≤ n → n < x5 → ((rs = 0 ∧ n = x) ∨ (rs = 1 ∧ n = x5 - 1 - x)) → L (d + 1) M_R_pour 182 [vA 161, vI x1, vI x2, vI x3, vI x4, vI x5, vI rs, vI x, vU] [vI n] s Q := fun n n0 n1 hnn => by
      refine st x n s y0 hx n0 n1 (fun s2 e2 => next s2 ⟨by omega, fun p p0 p1 hp => ?_, fun b j q => ?_, fun p p0 p1 hp => ?_⟩)
      · -- what is read was not yet written
        have src : s 164 (60 * x1 + x2 + n) = t 164 (60 * x1 + x2 + n) := by
          by_cases g : 60 * x3 + x4 ≤ 60 * x1 + x2 + n ∧ 60 * x1 + x2 + n < 60 * x3 + x4 + x5
          · have e : 60 * x1 + x2 + n = 60 * x3 + x4 + (60 * x1 + x2 + n - (60 * x3 + x4)) := by omega
            rw [e]
            refine hn _ (by omega) (by omega) (fun w => ?_)
            exact dj n (60 * x1 + x2 + n - (60 * x3 + x4)) n0 n1 (by omega) (by omega) (by omega) (by omega)
          · exact hO 164 _ (by omega)
        by_cases qp : p = n
        · rw [qp, e2, up_same]; exact src
        · rw [e2, up_ne (by omega)]; exact hs p p0 p1 (by omega)
      · rw [e2, up_ne (by omega)]; exact hO b j q
      · rw [e2, up_ne (by omega)]; exact hn p p0 p1 (by omega)
    refine s_R_pour_158 ⟨fun y => by omega, fun _ => ⟨fun y => go x y0 hx (by omega), fun y => ?_⟩⟩
    rw [w32_id (x := x5 - 1) (by omega) (by omega), w32_id (x := x5 - 1 - x) (by omega) (by omega)]
    exact go (x5 - 1 - x) (by omega) (by omega) (by omega)
theorem c_pour {x1 x2 x3 x4 x5 : Int} (hI : IVT σ) : CAL d M_X_pour M_R_pour [vI x1, vI x2, vI x3, vI x4, vI x5] σ := by
  obtain ⟨a1, b1, c1, d1, e1, f1, g1, i1, j1, k1⟩ := hI.2.1
  -- the model refuses with the same word
  have mod : ∀ s t2, s = prc σ x1 x2 x3 x4 x5 → s ≠ 0 → t2 = up σ 0 0 s → Tri (d + 30) M_R_pour [vA 161, vI x1, vI x2, vI x3, vI x4, vI x5] t2 (fun r u => 0 = r ∧ IVT u) := fun s t2 hs hs0 e => by
    have hx := QX0 hI e
    refine t_R_pour (fun y1 y2 y3 y4 y5 t3 e3 t4 e4 => ?_)
    have lf : ∀ s', prc σ x1 x2 x3 x4 x5 = s' → Tri (d + 29) M_R_no [vA 161, vI s'] t4 (fun r u => (r = 0 ∨ r = 1) ∧ 0 = r ∧ IVT u) := fun s' h => R_nr (fun t5 h5 hO => ⟨rfl, no_no hI hx e3 e4 (by rw [h5, hs, h]) hO⟩)
    have k3 : ∀ i, 0 ≤ i → i < 4 → t4 163 i = σ 3 i := fun i i0 i1 => by rw [e4, up_ne (by omega), e3, up_ne (by omega), e, up_ne (by omega)]; exact (d1 i i0 i1).2.1.symm
    have k2 : ∀ i, 0 ≤ i → i < 4 → t4 162 i = σ 2 i := fun i i0 i1 => by rw [e4, up_ne (by omega), e3, up_ne (by omega), e, up_ne (by omega)]; exact (d1 i i0 i1).1.symm
    have g : ∀ P : Prop, (¬ ((0 ≤ x1 ∧ x1 < 4) ∧ 0 ≤ x3 ∧ x3 < 4)) → prc σ x1 x2 x3 x4 x5 = 1 := fun _ z => by unfold prc; rw [if_pos z]
    unfold inI at y1 y2 y3 y4 y5
    refine ⟨fun z => lf 1 (g True (by omega)), fun z1 => ⟨fun z => lf 1 (g True (by omega)), fun z2 => ⟨fun z => lf 1 (g True (by omega)), fun z3 => ⟨fun z4 => ⟨⟨z1, z2⟩, ?_⟩, fun z => lf 1 (g True (by omega))⟩⟩⟩⟩
    rw [k3 x1 z1 z2, k3 x3 z3 z4, k2 x1 z1 z2, k2 x3 z3 z4, w64_id (x := x2 + x5) (by omega) (by omega), w64_id (x := x4 + x5) (by omega) (by omega)]
    have g2 : prc σ x1 x2 x3 x4 x5 = if σ 3 x1 < 0 ∨ σ 3 x3 < 0 then 3 else if σ 2 x1 ≠ σ 2 x3 then 11 else if x5 < 0 then 6 else if x2 < 0 ∨ x4 < 0 ∨ σ 3 x1 < x2 + x5 ∨ σ 3 x3 < x4 + x5 then 4 else 0 := by unfold prc; rw [if_neg (by omega)]
    have p4 : ¬ (σ 3 x1 < 0 ∨ σ 3 x3 < 0) → ¬ σ 2 x1 ≠ σ 2 x3 → ¬ x5 < 0 → (x2 < 0 ∨ x4 < 0 ∨ σ 3 x1 < x2 + x5 ∨ σ 3 x3 < x4 + x5) → prc σ x1 x2 x3 x4 x5 = 4 := fun u1 u2 u3 u4 => by rw [g2, if_neg u1, if_neg u2, if_neg u3, if_pos u4]
    refine ⟨fun z => lf 3 (by rw [g2, if_pos (Or.inl z)]), fun z5 => ⟨⟨z3, z4⟩, fun z6 => ⟨⟨z1, z2⟩, ⟨z3, z4⟩, fun z7 => ⟨fun z8 => ⟨fun z => lf 4 (p4 (by omega) (by omega) (by omega) (Or.inl z)), fun z9 => ⟨fun z => lf 4 (p4 (by omega) (by omega) (by omega) (Or.inr (Or.inl z))), fun z10 => ⟨⟨z1, z2⟩, fun z => lf 4 (p4 (by omega) (by omega) (by omega) (Or.inr (Or.inr (Or.inl (cmp3_gt.mp z))))), fun z11 => ⟨⟨z3, z4⟩, fun z12 => ?_, fun z => lf 4 (p4 (by omega) (by omega) (by omega) (Or.inr (Or.inr (Or.inr (cmp3_gt.mp z)))))⟩⟩⟩⟩, fun z => lf 6 (by rw [g2, if_neg (by omega), if_neg (by omega), if_pos z])⟩, fun z => lf 11 (by rw [g2, if_neg (by omega), if_pos z])⟩, fun z => lf 3 (by rw [g2, if_pos (Or.inr z)])⟩⟩
    exfalso
    apply hs0
    rw [hs, g2, if_neg (by omega), if_neg (by omega), if_neg (by omega), if_neg (by have := cmp3_le.mp z11; have := cmp3_le.mp z12; omega)]
  have lx : ∀ s', prc σ x1 x2 x3 x4 x5 = s' → s' ≠ 0 → Tri (d + 29) M_X_refuse [vA 0, vI s'] σ (fun r u => (r = 0 ∨ r = 1) ∧ Tri (d + 30) M_R_pour [vA 161, vI x1, vI x2, vI x3, vI x4, vI x5] u (fun r2 u2 => r = r2 ∧ IVT u2)) := fun s' h h0 => X_rf (fun t2 e => mod s' t2 h.symm h0 e)
  have g : ∀ P : Prop, (¬ ((0 ≤ x1 ∧ x1 < 4) ∧ 0 ≤ x3 ∧ x3 < 4)) → prc σ x1 x2 x3 x4 x5 = 1 := fun _ z => by unfold prc; rw [if_pos z]
  refine t_X_pour (fun y1 y2 y3 y4 y5 => X_isTray_s (fun z1 z2 => ⟨fun y => by omega, fun _ => X_isTray_s (fun z3 z4 => ⟨fun _ => ⟨⟨z1, z2⟩, ?_⟩, fun y => by omega⟩) (fun hn => ⟨fun y => absurd rfl y, fun _ => lx 1 (g True (fun z => hn z.2)) (by omega)⟩)⟩) (fun hn => ⟨fun _ => lx 1 (g True (fun z => hn z.1)) (by omega), fun y => absurd rfl y⟩))
  unfold inI at y1 y2 y3 y4 y5
  have g2 : prc σ x1 x2 x3 x4 x5 = if σ 3 x1 < 0 ∨ σ 3 x3 < 0 then 3 else if σ 2 x1 ≠ σ 2 x3 then 11 else if x5 < 0 then 6 else if x2 < 0 ∨ x4 < 0 ∨ σ 3 x1 < x2 + x5 ∨ σ 3 x3 < x4 + x5 then 4 else 0 := by unfold prc; rw [if_neg (by omega)]
  have p4 : ¬ (σ 3 x1 < 0 ∨ σ 3 x3 < 0) → ¬ σ 2 x1 ≠ σ 2 x3 → ¬ x5 < 0 → (x2 < 0 ∨ x4 < 0 ∨ σ 3 x1 < x2 + x5 ∨ σ 3 x3 < x4 + x5) → prc σ x1 x2 x3 x4 x5 = 4 := fun u1 u2 u3 u4 => by rw [g2, if_neg u1, if_neg u2, if_neg u3, if_pos u4]
  refine ⟨fun z => lx 3 (by rw [g2, if_pos (Or.inl z)]) (by omega), fun z5 => ⟨⟨z3, z4⟩, fun z6 => ⟨⟨z1, z2⟩, ⟨z3, z4⟩, fun z7 => ⟨fun z8 => ?_, fun z => lx 6 (by rw [g2, if_neg (by omega), if_neg (by omega), if_pos z]) (by omega)⟩, fun z => lx 11 (by rw [g2, if_neg (by omega), if_pos z]) (by omega)⟩, fun z => lx 3 (by rw [g2, if_pos (Or.inr z)]) (by omega)⟩⟩
  have l1 := (d1 x1 z1 z2).2.2.2
  have l3 := (d1 x3 z3 z4).2.2.2
  refine t_X_reaches (fun _ _ _ => ⟨fun z9 => ⟨fun _ => lx 4 (p4 (by omega) (by omega) (by omega) (Or.inl z9)) (by omega), fun y => absurd rfl y⟩, fun z9 => ⟨⟨z1, z2⟩, ?_⟩⟩)
  rw [w64_id (x := x2 + x5) (by omega) (by omega)]
  refine ⟨fun z10 => ⟨fun _ => lx 4 (p4 (by omega) (by omega) (by omega) (Or.inr (Or.inr (Or.inl (cmp3_gt.mp z10))))) (by omega), fun y => absurd rfl y⟩, fun z10 => ⟨fun y => by omega, fun _ => ?_⟩⟩
  have z10' := cmp3_le.mp z10
  refine t_X_reaches (fun _ _ _ => ⟨fun z11 => ⟨fun y => absurd rfl y, fun _ => lx 4 (p4 (by omega) (by omega) (by omega) (Or.inr (Or.inl z11))) (by omega)⟩, fun z11 => ⟨⟨z3, z4⟩, ?_⟩⟩)
  rw [w64_id (x := x4 + x5) (by omega) (by omega)]
  refine ⟨fun z12 => ⟨fun y => absurd rfl y, fun _ => lx 4 (p4 (by omega) (by omega) (by omega) (Or.inr (Or.inr (Or.inr (cmp3_gt.mp z12))))) (by omega)⟩, fun z12 => ⟨fun _ => ?_, fun y => by omega⟩⟩
  have z12' := cmp3_le.mp z12
  rw [w32_id (x := x1 * 60) (by omega) (by omega), w32_id (x := x1 * 60 + x2) (by omega) (by omega), w32_id (x := x3 * 60) (by omega) (by omega), w32_id (x := x3 * 60 + x4) (by omega) (by omega), kd_1]
  refine ⟨⟨by omega, by omega, rfl, rfl, by omega, by omega, by omega, by show x1 * 60 + x2 + x5 ≤ (240 : Int); omega, by show x3 * 60 + x4 + x5 ≤ (240 : Int); omega⟩, fun t1 et1 => t_X_agree (fun t2 et2 => ⟨Or.inr rfl, ?_⟩)⟩
  have rr : ∀ b j, (b ≠ 0 ∨ j ≠ 0) → ¬ (b = 1 ∧ x3 * 60 + x4 ≤ j ∧ j < x3 * 60 + x4 + x5) → t2 b j = σ b j := fun b j q1 q2 => by rw [et2, up_ne q1, et1]; unfold cpy; rw [if_neg q2]
  have s1 : ∀ p, 0 ≤ p → p < x5 → t2 1 (x3 * 60 + x4 + p) = σ 1 (x1 * 60 + x2 + p) := fun p p0 p1 => by
    rw [et2, up_ne (by omega), et1]
    unfold cpy
    rw [if_pos (by omega)]
    congr 1; omega
  refine t_R_pour (fun _ _ _ _ _ t3 e3 t4 e4 => ?_)
  have r4 : ∀ b j, (b ≠ 161 ∨ (j ≠ 0 ∧ j ≠ 1)) → t4 b j = t2 b j := fun b j q => by rw [e4, up_ne (by omega), e3, up_ne (by omega)]
  have k3 : ∀ i, 0 ≤ i → i < 4 → t4 163 i = σ 3 i := fun i i0 i1 => by rw [r4 _ _ (by omega), rr _ _ (by omega) (by omega)]; exact (d1 i i0 i1).2.1.symm
  have k2 : ∀ i, 0 ≤ i → i < 4 → t4 162 i = σ 2 i := fun i i0 i1 => by rw [r4 _ _ (by omega), rr _ _ (by omega) (by omega)]; exact (d1 i i0 i1).1.symm
  have fin : ∀ rs, ((rs = 1 ∧ x2 < x4) ∨ (rs = 0 ∧ x4 ≤ x2)) → L (d + 30) M_R_pour 158 [vA 161, vI x1, vI x2, vI x3, vI x4, vI x5, vI rs, vI 0, vU] [] t4 (fun r2 σ2 => 1 = r2 ∧ IVT σ2) := fun rs hrs => by
    refine R_pour_l ⟨z1, z2⟩ ⟨z3, z4⟩ z9 z11 z8 (by omega) (by omega) hrs (fun t5 h5 hO => ⟨rfl, ?_⟩)
    have fr : ∀ b j, ¬ (b = 164 ∧ 60 * x3 + x4 ≤ j ∧ j < 60 * x3 + x4 + x5) → (b ≠ 161 ∨ (j ≠ 0 ∧ j ≠ 1)) → (b ≠ 0 ∨ j ≠ 0) → ¬ (b = 1 ∧ x3 * 60 + x4 ≤ j ∧ j < x3 * 60 + x4 + x5) → t5 b j = σ b j := fun b j q1 q2 q3 q4 => by rw [hO b j q1, r4 b j q2, rr b j q3 q4]
    refine IVT_g hI (hI.2.1.gen (fun b j => b = 1 ∨ b = 164) (fun b j q1 q2 => fr b j (by omega) (by unfold PR0 at q1; omega) (by unfold PR0 at q1; omega) (by omega)) (Or.inr (fun b j q => by omega)) (Or.inr (fun b j q => by omega)) (Or.inr (fun b j q => by omega)) (Or.inr (fun b j q => by omega)) (Or.inl (fun j j0 j1 => ?_)) (Or.inr (fun b j q => by omega)) (Or.inr (fun b j q => by omega)) (Or.inr (fun b j q => by omega)) (Or.inr (fun b j q => by omega)) (fun j => by omega)) (fun b j q1 q2 q3 => fr b j (by omega) (by omega) (by omega) (by omega)) (fun j _ => fr 166 j (by omega) (by omega) (by omega) (by omega)) (fun e j q1 q2 => fr e j (by omega) (by omega) (by omega) (by omega)) ?_
    · by_cases qj : 60 * x3 + x4 ≤ j ∧ j < 60 * x3 + x4 + x5
      · have e5 := h5 (j - (60 * x3 + x4)) (by omega) (by omega)
        have e6 := s1 (j - (60 * x3 + x4)) (by omega) (by omega)
        rw [show 60 * x3 + x4 + (j - (60 * x3 + x4)) = j by omega] at e5
        rw [show x3 * 60 + x4 + (j - (60 * x3 + x4)) = j by omega] at e6
        rw [e5, hO 1 j (by omega), r4 1 j (by omega), e6, r4 164 _ (by omega), rr 164 _ (by omega) (by omega), show x1 * 60 + x2 + (j - (60 * x3 + x4)) = 60 * x1 + x2 + (j - (60 * x3 + x4)) by omega]
        exact e1 _ (by omega) (by omega)
      · rw [fr 1 j (by omega) (by omega) (by omega) (by omega), fr 164 j (by omega) (by omega) (by omega) (by omega)]; exact e1 j j0 j1
    · rw [hO 0 0 (by omega), hO 161 0 (by omega), r4 0 0 (by omega), et2, up_same, e4, up_same]
  refine ⟨fun z => by omega, fun _ => ⟨fun z => by omega, fun _ => ⟨fun z => by omega, fun _ => ⟨fun _ => ⟨⟨z1, z2⟩, ?_⟩, fun z => by omega⟩⟩⟩⟩
  rw [k3 x1 z1 z2, k3 x3 z3 z4, k2 x1 z1 z2, k2 x3 z3 z4, w64_id (x := x2 + x5) (by omega) (by omega), w64_id (x := x4 + x5) (by omega) (by omega)]
  exact ⟨fun z => by omega, fun _ => ⟨⟨z3, z4⟩, fun _ => ⟨⟨z1, z2⟩, ⟨z3, z4⟩, fun _ => ⟨fun _ => ⟨fun z => by omega, fun _ => ⟨fun z => by omega, fun _ => ⟨⟨z1, z2⟩, fun z => absurd (cmp3_gt.mp z) (by omega), fun _ => ⟨⟨z3, z4⟩, fun _ => ⟨fun z => fin 0 (by omega), fun z => fin 1 (by omega)⟩, fun z => absurd (cmp3_gt.mp z) (by omega)⟩⟩⟩⟩, fun z => by omega⟩, fun z => absurd z7 z⟩, fun z => by omega⟩⟩
end CPO
