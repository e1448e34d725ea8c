/-! ===== the model's world() ===== -/
section RWR
variable {d : Nat} {σ : SG} {Q : Int → SG → Prop} {f : Int → Int}
theorem R_opens_s {x m : Int} (hB : BYT f) (hm : m ≤ 600) (hf : ∀ q, 0 ≤ q → q < 600 → σ 165 q = f q) (h5 : (x < 0 ∨ σ 161 8 < x ∨ m < x) → ∀ t, t = up σ 161 0 5 → Q 0 t) (h : 0 ≤ x → x ≤ σ 161 8 → x ≤ m → ∀ t, RB t f x (0, 0, 0) → t 161 8 = 0 → Off (fun b j => b = 161 ∧ 8 ≤ j ∧ j ≤ 18) σ t → Q 1 t) : Tri (d + 3) M_R_opens [vA 161, vI x, vI m] σ Q := by
  have no : (x < 0 ∨ σ 161 8 < x ∨ m < x) → Tri (d + 2) M_R_no [vA 161, vI 5] σ (fun r2 σ2 => (r2 = 0 ∨ r2 = 1) ∧ Q r2 σ2) := fun z => t_R_no (fun _ s1 e1 => ⟨Or.inl rfl, h5 z s1 e1⟩)
  refine t_R_opens (fun _ _ => ⟨fun z => no (Or.inl z), fun z => ⟨fun z2 => no (Or.inr (Or.inl z2)), fun z2 => ⟨fun z3 s6 e6 s7 e7 s8 e8 s9 e9 => ?_, fun z3 => no (Or.inr (Or.inr z3))⟩⟩⟩)
  have hO9 : Off (fun b j => b = 161 ∧ 8 ≤ j ∧ j ≤ 18) σ s9 := by
    rw [e9, e8, e7, e6]
    exact Off_trans (Off_up ⟨rfl, by omega, by omega⟩) (Off_trans (Off_up ⟨rfl, by omega, by omega⟩) (Off_trans (Off_up ⟨rfl, by omega, by omega⟩) (Off_up ⟨rfl, by omega, by omega⟩)))
  refine R_next_s (f := f) (N := x) (e := 0) hB (fun q q0 q1 => (hO9 165 q (by omega)).trans (hf q q0 q1)) (by rw [e9, up_ne (by omega), e8, up_ne (by omega), e7, up_ne (by omega), e6, up_same]) ⟨z, by omega⟩ (by rw [e9, up_ne (by omega), e8, up_same]) ⟨by omega, z⟩ (fun t hT hO => h z z2 z3 t ⟨?_, Int.le_refl _, fun y => absurd y (Int.lt_irrefl _), hT⟩ ?_ (Off_trans hO9 (Off_mono hO (fun b j q => by omega))))
  · rw [hO 161 12 (by omega), e9, up_same]
  · rw [hO 161 8 (by omega), e9, up_ne (by omega), e8, up_ne (by omega), e7, up_same]
theorem R_world_s {x : Int} (hB : BYT f) (hf : ∀ q, 0 ≤ q → q < 600 → σ 165 q = f q) (htp : 0 ≤ σ 161 8 ∧ σ 161 8 ≤ 600)
    (h5 : (x < 0 ∨ σ 161 8 < x) → ∀ t, t 161 0 = 5 → Off (fun b j => b = 161 ∧ (j = 0 ∨ j = 1)) σ t → Q (-1) t)
    (h1 : 0 ≤ x → x ≤ σ 161 8 → (wdR f x).1.1 = 0 → PN (wdp f x) (wdn f x) → ∀ t, t 161 0 = 0 → t 161 8 = 0 → t 161 10 = 0 → t 161 11 = -1 → t 166 0 = wdp f x → t 166 1 = wdn f x → (∀ q, 0 ≤ q → q < 125 → t 166 (0 + 2 + q) = MK (wdp f x) (wdn f x) (wdR f x).2 q) → Off (fun b j => (b = 161 ∧ (j = 0 ∨ j = 1 ∨ (8 ≤ j ∧ j ≤ 18))) ∨ b = 167 ∨ (b = 166 ∧ 0 ≤ j ∧ j < 127)) σ t → Q (wdn f x) t)
    (h0 : 0 ≤ x → x ≤ σ 161 8 → 0 < (wdR f x).1.1 → ∀ t, t 161 0 = 10 → t 161 8 = 0 → t 161 10 = (wdR f x).1.1 → t 161 11 = (wdR f x).1.2.1 → Off (fun b j => (b = 161 ∧ (j = 0 ∨ j = 1 ∨ (8 ≤ j ∧ j ≤ 18))) ∨ b = 167) σ t → Q (-1) t) : Tri (d + 6) M_R_world [vA 161, vI x] σ Q := by
  refine t_R_world (fun _ s1 e1 s2 e2 => ?_)
  have hO2 : Off (fun b j => b = 161 ∧ (j = 0 ∨ j = 1)) σ s2 := by rw [e2, e1]; exact Off_trans (Off_up ⟨rfl, by omega⟩) (Off_up ⟨rfl, by omega⟩)
  have e8 : s2 161 8 = σ 161 8 := hO2 161 8 (by omega)
  have e0 : s2 161 0 = 0 := by rw [e2, up_same]
  refine R_opens_s hB (by omega) (fun q q0 q1 => (hO2 165 q (by omega)).trans (hf q q0 q1)) (fun z t et => ⟨fun y => absurd rfl y, fun _ => h5 (by omega) t (by rw [et, up_same]) (Off_trans hO2 (by rw [et]; exact Off_up ⟨rfl, by omega⟩))⟩) (fun x0 x1 x2 t3 hR3 h83 hO3 => ⟨fun _ => ?_, fun y => by omega⟩)
  rw [e8] at x1
  have hN : 0 ≤ x ∧ x ≤ 600 := ⟨x0, x2⟩
  have of : ∀ {t t2 : SG}, Off (fun b j => (b = 161 ∧ (j = 0 ∨ j = 1 ∨ (8 ≤ j ∧ j ≤ 18))) ∨ b = 167) σ t → Off (fun b j => b = 161 ∧ 12 ≤ j ∧ j ≤ 18) t t2 → Off (fun b j => (b = 161 ∧ (j = 0 ∨ j = 1 ∨ (8 ≤ j ∧ j ≤ 18))) ∨ b = 167) σ t2 := fun h1 h2 => Off_trans h1 (Off_mono h2 (fun b j q => by omega))
  have kp : ∀ {t t2 : SG}, (t 161 0 = 0 ∧ t 161 8 = 0) → Off (fun b j => b = 161 ∧ 12 ≤ j ∧ j ≤ 18) t t2 → (t2 161 0 = 0 ∧ t2 161 8 = 0) := fun h1 h2 => ⟨(h2 161 0 (by omega)).trans h1.1, (h2 161 8 (by omega)).trans h1.2⟩
  have hO3' : Off (fun b j => (b = 161 ∧ (j = 0 ∨ j = 1 ∨ (8 ≤ j ∧ j ≤ 18))) ∨ b = 167) σ t3 := Off_trans (Off_mono hO2 (fun b j q => by omega)) (Off_mono hO3 (fun b j q => by omega))
  have k3 : t3 161 0 = 0 ∧ t3 161 8 = 0 := ⟨(hO3 161 0 (by omega)).trans e0, h83⟩
  have at66 : ∀ t, RB t f x (wd2 f x) → (t 161 0 = 0 ∧ t 161 8 = 0) → Off (fun b j => (b = 161 ∧ (j = 0 ∨ j = 1 ∨ (8 ≤ j ∧ j ≤ 18))) ∨ b = 167) σ t → L (d + 6) M_R_world 66 [vA 161, vU, vU, vU, vU, vU] [] t Q := by
    intro t hR hk hO
    refine s_R_world_66 (R_count_s hB hR (fun t4 hR4 hO4 => ?_))
    have hR4' : RB t4 f x (wd3 f x) := hR4
    have k4 := kp hk hO4
    have o4 := of hO hO4
    have m5 : ∀ b, b = (if zb (isS f x (wd3 f x).2.2 59) = true then 1 else 0) → Tri (d + 5) M_R_must [vA 161, vI b] t4 (fun r3 σ3 => Tri (d + 5) M_R_isSizeWord [vA 161] σ3 (fun r4 σ4 => Tri (d + 5) M_R_must [vA 161, vI r4] σ4 (fun r5 σ5 => Tri (d + 5) M_R_greatest [vI (cnv f x 2 7 (wd2 f x))] σ5 (fun r6 σ6 => Tri (d + 5) M_R_count [vA 161, vI 1, vI r6] σ6 (fun r7 σ7 => Tri (d + 5) M_R_isSign [vA 161, vI 59] σ7 (fun r8 σ8 => Tri (d + 5) M_R_must [vA 161, vI r8] σ8 (fun r9 σ9 => Tri (d + 5) M_R_clear [vA 167, vI 0, vI (cnv f x 2 7 (wd2 f x)), vI r7] σ9 (fun r10 σ10 => L (d + 6) M_R_world 122 [vA 161, vU, vU, vI r7, vU, vU] [] σ10 Q)))))))) := by
      intro b hb
      refine R_must_s hB hb hR4' (fun t5 hR5 hO5 => ?_)
      have hR5' : RB t5 f x (wd4 f x) := hR5
      have k5 := kp k4 hO5
      have o5 := of o4 hO5
      have m6 : ∀ b, b = (if zb (isU f x (wd4 f x).2.2 (strI 1)) = true then 1 else 0) → Tri (d + 5) M_R_must [vA 161, vI b] t5 (fun r5 σ5 => Tri (d + 5) M_R_greatest [vI (cnv f x 2 7 (wd2 f x))] σ5 (fun r6 σ6 => Tri (d + 5) M_R_count [vA 161, vI 1, vI r6] σ6 (fun r7 σ7 => Tri (d + 5) M_R_isSign [vA 161, vI 59] σ7 (fun r8 σ8 => Tri (d + 5) M_R_must [vA 161, vI r8] σ8 (fun r9 σ9 => Tri (d + 5) M_R_clear [vA 167, vI 0, vI (cnv f x 2 7 (wd2 f x)), vI r7] σ9 (fun r10 σ10 => L (d + 6) M_R_world 122 [vA 161, vU, vU, vI r7, vU, vU] [] σ10 Q)))))) := by
        intro b hb
        refine R_must_s hB hb hR5' (fun t6 hR6 hO6 => ?_)
        have hR6' : RB t6 f x (wd5 f x) := hR6
        have k6 := kp k5 hO6
        have o6 := of o5 hO6
        have gr : ∀ (Q9 : Int → SG → Prop), Q9 (grt (wdp f x)) t6 → Tri (d + 5) M_R_greatest [vI (cnv f x 2 7 (wd2 f x))] t6 Q9 := fun Q9 hq => by
          have ep : cnv f x 2 7 (wd2 f x) = wdp f x := rfl
          rw [ep]
          unfold grt at hq
          refine t_R_greatest (fun _ => ⟨fun z => ⟨fun z2 => ?_, fun z2 => ?_⟩, fun z => ?_⟩)
          · rw [if_neg z, if_neg z2] at hq; exact hq
          · rw [if_neg z, if_pos z2] at hq; exact hq
          · rw [if_pos z] at hq; exact hq
        refine gr _ (R_count_s hB hR6' (fun t7 hR7 hO7 => ?_))
        have hR7' : RB t7 f x (wd6 f x) := hR7
        have k7 := kp k6 hO7
        have o7 := of o6 hO7
        have en : cnv f x 1 (grt (wdp f x)) (wd5 f x) = wdn f x := rfl
        have ep : cnv f x 2 7 (wd2 f x) = wdp f x := rfl
        rw [en, ep]
        have m8 : ∀ b, b = (if zb (isS f x (wd6 f x).2.2 59) = true then 1 else 0) → Tri (d + 5) M_R_must [vA 161, vI b] t7 (fun r9 σ9 => Tri (d + 5) M_R_clear [vA 167, vI 0, vI (wdp f x), vI (wdn f x)] σ9 (fun r10 σ10 => L (d + 6) M_R_world 122 [vA 161, vU, vU, vI (wdn f x), vU, vU] [] σ10 Q)) := by
          intro b hb
          refine R_must_s hB hb hR7' (fun t8 hR8 hO8 => ?_)
          have hR8' : RB t8 f x (wd7 f x) := hR8
          have k8 := kp k7 hO8
          have o8 := of o7 hO8
          refine R_clear_s (by omega) kd_167 (by omega) (by omega) (by omega) (fun t9 c0 c1 c2 hO9 => ?_)
          have hR9 : RB t9 f x (wd7 f x) := hR8'.fr (fun q => hO9 165 q (by omega)) (fun q _ _ => hO9 161 q (by omega))
          have k9 : t9 161 0 = 0 ∧ t9 161 8 = 0 := ⟨(hO9 161 0 (by omega)).trans k8.1, (hO9 161 8 (by omega)).trans k8.2⟩
          have o9 : Off (fun b j => (b = 161 ∧ (j = 0 ∨ j = 1 ∨ (8 ≤ j ∧ j ≤ 18))) ∨ b = 167) σ t9 := Off_trans o8 (Off_mono hO9 (fun b j q => by omega))
          refine R_couples hB hN 601 (wd7 f x) 0 (fun _ _ _ => 0) t9 (fun g => ⟨wd_pn x0 g, c0, c1, fun i j k i0 i1 j0 j1 k0 k1 ij => ?_, fun i j i0 ij jn => ?_⟩) (by have := hR9.pb.2.1; omega) ⟨by omega, by omega⟩ hR9 k9.1 o9 (fun g t2 q0 q1 q2 q3 q4 q5 q6 hO2 => ?_) (fun g t2 q0 q1 q2 q3 hO2 => h0 x0 x1 g t2 q0 (q3.trans k9.2) q1 q2 hO2)
          · rw [MK_0]
            have := c2 (25 * i + 5 * j + k) (by omega) (by omega)
            rw [show (0 : Int) + 2 + (25 * i + 5 * j + k) = 2 + 25 * i + 5 * j + k by omega] at this
            exact this
          · have hb5 := (wd_pn x0 g).b
            have := c2 (25 * j + 5 * j + i) (by omega) (by omega)
            rw [show (0 : Int) + 2 + (25 * j + 5 * j + i) = 2 + 25 * j + 5 * j + i by omega] at this
            rw [this, tb_zero]
            constructor
            · intro y; omega
            · intro y; cases y
          · have hg7 : (wd7 f x).1 = 0 := by
              by_cases y : 0 < (wd7 f x).1
              · have g' : (wdR f x).1.1 = 0 := g
                rw [wdR_bad y] at g'
                have g'' : (wd7 f x).1 = 0 := g'
                omega
              · have := hR9.2.1; omega
            exact h1 x0 x1 g (wd_pn x0 hg7) t2 q0 (q6.trans k9.2) q1 q2 q3 q4 q5 hO2
        exact R_isSign_s hR7'.2.2.2 (fun y => m8 1 (by rw [if_pos (zb_t y)])) (fun y => m8 0 (by rw [if_neg (by rw [zb_f y]; exact Bool.false_ne_true)]))
      exact R_isSizeWord_s hR5'.2.2.2 (fun y => m6 1 (by rw [if_pos (zb_t y)])) (fun y => m6 0 (by rw [if_neg (by rw [zb_f y]; exact Bool.false_ne_true)]))
    exact R_isSign_s hR4'.2.2.2 (fun y => m5 1 (by rw [if_pos (zb_t y)])) (fun y => m5 0 (by rw [if_neg (by rw [zb_f y]; exact Bool.false_ne_true)]))
  have m1 : ∀ b, b = (if zb (isU f x 0 (strI 0)) = true then 1 else 0) → Tri (d + 5) M_R_must [vA 161, vI b] t3 (fun r6 σ6 => (σ6 161 12 ≠ 0 → L (d + 6) M_R_world 66 [vA 161, vU, vU, vU, vU, vU] [] σ6 Q) ∧ (σ6 161 12 = 0 → (σ6 161 14 ≠ 2 → L (d + 6) M_R_world 66 [vA 161, vU, vU, vU, vU, vU] [] σ6 Q) ∧ (σ6 161 14 = 2 → Tri (d + 5) M_R_isPrimeNumber [vA 161, vI (σ6 161 17)] σ6 (fun r9 σ9 => (r9 ≠ 0 → L (d + 6) M_R_world 66 [vA 161, vU, vU, vU, vU, vU] [] σ9 Q) ∧ (r9 = 0 → Tri (d + 5) M_R_fail [vA 161, vI 4, vI (σ9 161 15)] σ9 (fun r11 σ11 => L (d + 6) M_R_world 66 [vA 161, vU, vU, vU, vU, vU] [] σ11 Q)))))) := by
    intro b hb
    refine R_must_s hB hb hR3 (fun t4 hR4 hO4 => ?_)
    have hR4' : RB t4 f x (wd1 f x) := hR4
    have k4 := kp k3 hO4
    have o4 := of hO3' hO4
    have h12 := hR4'.1
    have hnn := hR4'.2.1
    have h14 : t4 161 14 = tK f x (wd1 f x).2.2 := hR4'.2.2.2.2.2.2.2.2.2.1
    have same : ¬ (¬ 0 < (wd1 f x).1 ∧ tK f x (wd1 f x).2.2 = 2 ∧ ¬ isPr (tV f x (wd1 f x).2.2)) → wd2 f x = wd1 f x := fun y => by
      unfold wd2
      by_cases q : 0 < (wd1 f x).1
      · rw [if_pos q]
      · rw [if_neg q, if_neg (by rw [zb_f (fun w => y ⟨q, w⟩)]; exact Bool.false_ne_true)]
    refine ⟨fun z => at66 t4 (by rw [same (fun y => y.1 (by omega))]; exact hR4') k4 o4, fun z => ⟨fun z2 => at66 t4 (by rw [same (fun y => z2 (by rw [h14]; exact y.2.1))]; exact hR4') k4 o4, fun z2 => ?_⟩⟩
    have hk2 : tK f x (wd1 f x).2.2 = 2 := by rw [← h14]; exact z2
    have h17 : t4 161 17 = tV f x (wd1 f x).2.2 := hR4'.2.2.2.2.2.2.2.2.2.2.1 hk2
    have h15 : t4 161 15 = tS f x (wd1 f x).2.2 := hR4'.2.2.2.2.2.2.2.1
    have g1 : (wd1 f x).1 = 0 := by omega
    rw [h17]
    have yes : isPr (tV f x (wd1 f x).2.2) → ((1 : Int) ≠ 0 → L (d + 6) M_R_world 66 [vA 161, vU, vU, vU, vU, vU] [] t4 Q) ∧ ((1 : Int) = 0 → Tri (d + 5) M_R_fail [vA 161, vI 4, vI (t4 161 15)] t4 (fun r11 σ11 => L (d + 6) M_R_world 66 [vA 161, vU, vU, vU, vU, vU] [] σ11 Q)) := fun y => ⟨fun _ => at66 t4 (by rw [same (fun w => w.2.2 y)]; exact hR4') k4 o4, fun w => by omega⟩
    refine t_R_isPrimeNumber (fun _ => ⟨fun y => yes (Or.inl y), fun y => ⟨fun y2 => yes (Or.inr (Or.inl y2)), fun y2 => ⟨fun y3 => yes (Or.inr (Or.inr (Or.inl y3))), fun y3 => ⟨fun y4 => ⟨fun w => absurd rfl w, fun _ => ?_⟩, fun y4 => yes (Or.inr (Or.inr (Or.inr y4)))⟩⟩⟩⟩)
    rw [h15]
    refine R_fail_s (e9 := 0) (by omega) g1 hR4' (fun t5 hR5 hO5 => at66 t5 ?_ ⟨(hO5 161 0 (by omega)).trans k4.1, (hO5 161 8 (by omega)).trans k4.2⟩ (Off_trans o4 (Off_mono hO5 (fun b j q => by omega))))
    have e2 : wd2 f x = (4, tS f x (wd1 f x).2.2, (wd1 f x).2.2) := by
      unfold wd2
      rw [if_neg (by omega), if_pos (zb_t ⟨hk2, fun w => by unfold isPr at w; omega⟩)]
    rw [e2]; exact hR5
  exact R_isPrime_s hR3.2.2.2 (fun y => m1 1 (by rw [if_pos (zb_t y)])) (fun y => m1 0 (by rw [if_neg (by rw [zb_f y]; exact Bool.false_ne_true)]))
end RWR
