/-! ===== the model reads a WORLD ===== -/
theorem wd_pn {f : Int → Int} {N : Int} (hN : 0 ≤ N) (h : (wd7 f N).1 = 0) : PN (wdp f N) (wdn f N) := by
  have p0 : PB N (0, 0, 0) := ⟨Int.le_refl _, Int.le_refl _, hN⟩
  have p1 : PB N (wd1 f N) := mst_pb p0
  have p2 : PB N (wd2 f N) := by
    unfold wd2
    split
    · exact p1
    · split
      · exact ⟨by show (0 : Int) ≤ 4; omega, p1.2⟩
      · exact p1
  have p3 : PB N (wd3 f N) := cns_pb p2
  have p4 : PB N (wd4 f N) := mst_pb p3
  have p5 : PB N (wd5 f N) := mst_pb p4
  have p6 : PB N (wd6 f N) := cns_pb p5
  have g6 : (wd6 f N).1 = 0 := (mst_ok p6.1 h).1
  obtain ⟨g5, hk, l1, l2⟩ := cns_ok p5.1 g6
  have en : wdn f N = tV f N (wd5 f N).2.2 := cnv_go g5 hk l1 l2
  have g4 : (wd4 f N).1 = 0 := (mst_ok p4.1 g5).1
  have g3 : (wd3 f N).1 = 0 := (mst_ok p3.1 g4).1
  obtain ⟨g2, hk2, m1, m2⟩ := cns_ok p2.1 g3
  have ep : wdp f N = tV f N (wd2 f N).2.2 := cnv_go g2 hk2 m1 m2
  have hpr : isPr (wdp f N) := by
    rw [ep]
    have e2 : wd2 f N = wd1 f N := by
      unfold wd2 at g2 ⊢
      by_cases q : 0 < (wd1 f N).1
      · rw [if_pos q]
      · rw [if_neg q] at g2 ⊢
        by_cases q2 : zb (tK f N (wd1 f N).2.2 = 2 ∧ ¬ isPr (tV f N (wd1 f N).2.2)) = true
        · rw [if_pos q2] at g2; have : (4 : Int) = 0 := g2; omega
        · rw [if_neg q2]
    by_cases q : isPr (tV f N (wd2 f N).2.2)
    · exact q
    · exfalso
      have q3 : 0 < (wd2 f N).1 := by
        have q1 : ¬ 0 < (wd1 f N).1 := by rw [← e2]; omega
        unfold wd2
        rw [if_neg q1, if_pos (zb_t (by rw [← e2]; exact ⟨hk2, q⟩))]
        show (0 : Int) < 4
        omega
      omega
  rw [← en] at l1 l2
  unfold grt at l2
  unfold isPr at hpr
  unfold PN
  by_cases g5' : wdp f N = 5
  · rw [if_pos g5'] at l2; omega
  · rw [if_neg g5'] at l2
    by_cases g7 : wdp f N = 7
    · rw [if_pos g7] at l2; omega
    · rw [if_neg g7] at l2; omega
section RWO
variable {d : Nat} {σ : SG} {Q : Int → SG → Prop} {f : Int → Int} {N p n : Int}
theorem R_isWell_s {s : PS} (hR : RB σ f N s) (h0 : 0 < s.1 → ∀ t, t 161 0 = 10 → t 161 10 = s.1 → t 161 11 = s.2.1 → Off (fun b j => b = 161 ∧ (j = 0 ∨ j = 10 ∨ j = 11)) σ t → Q 0 t) (h1 : s.1 = 0 → ∀ t, t 161 10 = 0 → t 161 11 = -1 → Off (fun b j => b = 161 ∧ (j = 10 ∨ j = 11)) σ t → Q 1 t) : Tri (d + 2) M_R_isWell [vA 161] σ Q := by
  have h12 := hR.1
  have hnn := hR.2.1
  refine t_R_isWell (fun s1 e1 => ?_)
  have e12 : s1 161 12 = s.1 := by rw [e1, up_ne (by omega)]; exact h12
  rw [h12] at e1
  rw [e12]
  refine ⟨fun z => s_R_isWell_24 (fun s2 e2 => ?_), fun z => s_R_isWell_24 (fun s2 e2 => ?_)⟩
  · have e13 : s1 161 13 = s.2.1 := by rw [e1, up_ne (by omega)]; exact hR.2.2.1 (by omega)
    rw [e13] at e2
    have e12' : s2 161 12 = s.1 := by rw [e2, up_ne (by omega)]; exact e12
    rw [e12']
    refine ⟨fun y => absurd y z, fun _ => t_R_no (fun _ s3 e3 => ⟨fun _ => h0 (by omega) s3 (by rw [e3, up_same]) (by rw [e3, up_ne (by omega), e2, up_ne (by omega), e1, up_same]) (by rw [e3, up_ne (by omega), e2, up_same]) (by rw [e3, e2, e1]; exact Off_trans (Off_up ⟨rfl, by omega⟩) (Off_trans (Off_up ⟨rfl, by omega⟩) (Off_up ⟨rfl, by omega⟩))), fun y => absurd rfl y⟩)⟩
  · have e12' : s2 161 12 = s.1 := by rw [e2, up_ne (by omega)]; exact e12
    rw [e12']
    exact ⟨fun _ => h1 z s2 (by rw [e2, up_ne (by omega), e1, up_same]; exact z) (by rw [e2, up_same]) (by rw [e2, e1]; exact Off_trans (Off_up ⟨rfl, by omega⟩) (Off_up ⟨rfl, by omega⟩)), fun y => absurd z y⟩
/-- the marks of told couples are wiped, the WORLD is taken -/
theorem R_world_end {v : VV} {told : Int} {t : SG} (hpn : PN p n) (hF : FZ t p n v told) (h : ∀ t2, t2 166 0 = p → t2 166 1 = n → (∀ q, 0 ≤ q → q < 125 → t2 166 (0 + 2 + q) = MK p n v q) → Off (fun b j => b = 167 ∨ (b = 166 ∧ 0 ≤ j ∧ j < 127)) t t2 → Q n t2) : L (d + 2) M_R_world 179 [vA 161, vU, vU, vI n, vI 0, vU] [] t Q := by
  obtain ⟨a1, a2, a3, a4⟩ := hF
  refine loop_up (P := fun x s => L (d + 2) M_R_world 179 [vA 161, vU, vU, vI n, vI x, vU] [] s Q) (fun x s => 0 ≤ x ∧ (∀ q, ¬ (∃ a c, 0 ≤ a ∧ a < x ∧ 0 ≤ c ∧ c < 5 ∧ q = 2 + 25 * a + 5 * a + c) → s 167 q = t 167 q) ∧ (∀ a c, 0 ≤ a → a < x → 0 ≤ c → c < 5 → s 167 (2 + 25 * a + 5 * a + c) = 0) ∧ Off (fun b j => b = 167) t s) 5 ?_ ?_ 0 (by omega) t ⟨by omega, fun q _ => rfl, fun a c _ _ => by omega, Off_rfl⟩
  · rintro s ⟨_, hs1, hs2, hO⟩
    refine s_R_world_179 ⟨fun _ => R_move_s kd_167 (by omega) kd_166 (by omega) (by omega) (by omega) (by omega) (by omega) (by omega) (Or.inl (by omega)) (fun t2 h2 hO2 => h t2 ?_ ?_ (fun q q0 q1 => ?_) (Off_trans (Off_mono hO (fun b j q => Or.inl q)) (Off_mono hO2 (fun b j q => by omega)))), fun z => by omega⟩
    · have := h2 0 (by omega) (by omega)
      rw [show (0 : Int) + 0 = 0 by omega] at this
      rw [this, hs1 0 (fun ⟨a, c, w⟩ => by omega)]; exact a1
    · have := h2 1 (by omega) (by omega)
      rw [show (0 : Int) + 1 = 1 by omega] at this
      rw [this, hs1 1 (fun ⟨a, c, w⟩ => by omega)]; exact a2
    · have := h2 (2 + q) (by omega) (by omega)
      rw [show (0 : Int) + (2 + q) = 0 + 2 + q by omega] at this
      rw [this]
      have hq : q = 25 * (q / 25) + 5 * (q / 5 % 5) + q % 5 := by omega
      have x0 : 0 ≤ q / 25 ∧ q / 25 < 5 := by omega
      have y0 : 0 ≤ q / 5 % 5 ∧ q / 5 % 5 < 5 := by omega
      have z0 : 0 ≤ q % 5 ∧ q % 5 < 5 := by omega
      generalize q / 25 = a at hq x0
      generalize q / 5 % 5 = b at hq y0
      generalize q % 5 = c at hq z0
      rw [hq, show 0 + 2 + (25 * a + 5 * b + c) = 2 + 25 * a + 5 * b + c by omega]
      by_cases g : a = b
      · subst g
        rw [hs2 a c x0.1 x0.2 z0.1 z0.2, MK_at x0.1 x0.2 x0.1 x0.2 z0.1 z0.2, if_neg (by omega), if_neg (by omega)]
      · rw [hs1 _ (fun ⟨a', c', w1, w2, w3, w4, w5⟩ => absurd w5.symm (dia_ne z0.1 z0.2 w3 w4 y0.1 y0.2 w1 w2 g))]
        exact a3 a b c x0.1 x0.2 y0.1 y0.2 z0.1 z0.2 g
  · rintro x s hx ⟨x0, hs1, hs2, hO⟩ ih
    refine s_R_world_179 ⟨fun z => by omega, fun _ => ?_⟩
    refine loop_up (P := fun y s => L (d + 2) M_R_world 188 [vA 161, vU, vU, vI n, vI x, vI y] [] s Q) (fun y s => 0 ≤ y ∧ (∀ q, ¬ (∃ a c, 0 ≤ a ∧ a ≤ x ∧ 0 ≤ c ∧ c < 5 ∧ q = 2 + 25 * a + 5 * a + c) → s 167 q = t 167 q) ∧ (∀ a c, 0 ≤ a → a < x → 0 ≤ c → c < 5 → s 167 (2 + 25 * a + 5 * a + c) = 0) ∧ (∀ c, 0 ≤ c → c < y → s 167 (2 + 25 * x + 5 * x + c) = 0) ∧ Off (fun b j => b = 167) t s) 5 ?_ ?_ 0 (by omega) s ⟨by omega, fun q hq => hs1 q (fun ⟨a, c, w1, w2, w3⟩ => hq ⟨a, c, w1, by omega, w3⟩), hs2, fun c _ _ => by omega, hO⟩
    · rintro s2 ⟨_, r1, r2, r3, hO2⟩
      refine s_R_world_188 ⟨fun _ => ?_, fun z => by omega⟩
      rw [w32_id (by omega) (by omega)]
      refine ih s2 ⟨by omega, fun q hq => r1 q (fun ⟨a, c, w1, w2, w3⟩ => hq ⟨a, c, w1, by omega, w3⟩), fun a c w1 w2 w3 w4 => ?_, hO2⟩
      by_cases g : a = x
      · subst g; exact r3 c w3 w4
      · exact r2 a c w1 (by omega) w3 w4
    · rintro y s2 hy ⟨y0, r1, r2, r3, hO2⟩ ih2
      refine s_R_world_188 ⟨fun z => by omega, fun _ => R_cell_s ⟨x0, hx⟩ ⟨x0, hx⟩ ⟨y0, hy⟩ ⟨by omega, fun s3 e3 => ?_⟩⟩
      rw [w32_id (by omega) (by omega)]
      refine ih2 s3 ⟨by omega, fun q hq => ?_, fun a c w1 w2 w3 w4 => by rw [e3, up_ne (by omega)]; exact r2 a c w1 w2 w3 w4, fun c w1 w2 => ?_, Off_trans hO2 (by rw [e3]; exact Off_up rfl)⟩
      · rw [e3, up_ne (Or.inr (fun w => hq ⟨x, y, x0, by omega, y0, hy, w⟩))]; exact r1 q hq
      · by_cases g : c = y
        · rw [g, e3, up_same]
        · rw [e3, up_ne (by omega)]; exact r3 c w1 (by omega)
/-- all couples -/
theorem R_couples (hB : BYT f) (hN : 0 ≤ N ∧ N ≤ 600) : ∀ (k : Nat) (s : PS) (told : Int) (v : VV) (t : SG), (s.1 = 0 → PN p n ∧ FZ t p n v told) → N - s.2.2 < k → 0 ≤ told ∧ told < 33554432 → RB t f N s → t 161 0 = 0 → Off (fun b j => (b = 161 ∧ (j = 0 ∨ j = 1 ∨ (8 ≤ j ∧ j ≤ 18))) ∨ b = 167) σ t →
    ((cps f N p n k s told v).1.1 = 0 → ∀ t2, t2 161 0 = 0 → t2 161 10 = 0 → t2 161 11 = -1 → t2 166 0 = p → t2 166 1 = n → (∀ q, 0 ≤ q → q < 125 → t2 166 (0 + 2 + q) = MK p n (cps f N p n k s told v).2 q) → t2 161 8 = t 161 8 → Off (fun b j => (b = 161 ∧ (j = 0 ∨ j = 1 ∨ (8 ≤ j ∧ j ≤ 18))) ∨ b = 167 ∨ (b = 166 ∧ 0 ≤ j ∧ j < 127)) σ t2 → Q n t2) →
    (0 < (cps f N p n k s told v).1.1 → ∀ t2, t2 161 0 = 10 → t2 161 10 = (cps f N p n k s told v).1.1 → t2 161 11 = (cps f N p n k s told v).1.2.1 → t2 161 8 = t 161 8 → Off (fun b j => (b = 161 ∧ (j = 0 ∨ j = 1 ∨ (8 ≤ j ∧ j ≤ 18))) ∨ b = 167) σ t2 → Q (-1) t2) →
    L (d + 5) M_R_world 122 [vA 161, vU, vU, vI n, vU, vU] [] t Q := by
  intro k
  induction k with
  | zero => intro s told v t _ hk _ hR; have := hR.pb.2.2; omega
  | succ k ih =>
    intro s told v t hF hk htold hR h00 hO h1 h0
    have h12 := hR.1
    have hnn := hR.2.1
    have pbs := hR.pb
    have es : cps f N p n (k + 1) s told v = if 0 < s.1 then (s, v) else if tK f N s.2.2 = 0 then (s, v) else cps f N p n k (cp7 f N p n told s v) (or32 told (shl32 1 (5 * cpi f N n s + cpj f N n s))) (cp6 f N p n told s v).2 := rfl
    refine s_R_world_122 ⟨fun z => ?_, fun z => ?_⟩
    · have hb : 0 < s.1 := by omega
      rw [es, if_pos hb] at h0
      exact R_isWell_s hR (fun _ t2 q0 q1 q2 hO2 => ⟨fun y => absurd rfl y, fun _ => h0 hb t2 q0 q1 q2 (hO2 161 8 (by omega)) (Off_trans hO (Off_mono hO2 (fun b j q => by omega)))⟩) (fun y => by omega)
    · have g0 : s.1 = 0 := by omega
      obtain ⟨hpn, hFz⟩ := hF g0
      rw [hR.2.2.2.2.2.2.2.2.2.1]
      refine ⟨fun z2 => ?_, fun z2 => ?_⟩
      · rw [es, if_neg (by omega), if_pos z2] at h1
        refine R_isWell_s hR (fun y => by omega) (fun _ t2 q1 q2 hO2 => ⟨fun _ => ?_, fun y => by omega⟩)
        refine R_world_end hpn (hFz.fr (fun q => hO2 167 q (by omega))) (fun t3 w0 w1 w2 hO3 => h1 g0 t3 ?_ ?_ ?_ w0 w1 w2 ?_ ?_)
        · rw [hO3 161 0 (by omega), hO2 161 0 (by omega)]; exact h00
        · rw [hO3 161 10 (by omega)]; exact q1
        · rw [hO3 161 11 (by omega)]; exact q2
        · rw [hO3 161 8 (by omega), hO2 161 8 (by omega)]
        · exact Off_trans (Off_mono hO (fun b j q => by omega)) (Off_trans (Off_mono hO2 (fun b j q => by omega)) (Off_mono hO3 (fun b j q => by omega)))
      · rw [es, if_neg (by omega), if_neg z2] at h1 h0
        have stepN : ∀ t3, RB t3 f N (cp7 f N p n told s v) → ((cp7 f N p n told s v).1 = 0 → FZ t3 p n (cp6 f N p n told s v).2 (or32 told (shl32 1 (5 * cpi f N n s + cpj f N n s))) ∧ s.2.2 + 1 ≤ (cp7 f N p n told s v).2.2 ∧ 0 ≤ cpi f N n s ∧ cpi f N n s < cpj f N n s ∧ cpj f N n s < n) → Off (fun b j => (b = 161 ∧ 12 ≤ j ∧ j ≤ 18) ∨ (b = 167 ∧ 2 ≤ j ∧ j < 127)) t t3 → L (d + 5) M_R_world 122 [vA 161, vU, vU, vI n, vU, vU] [] t3 Q := by
          intro t3 hR3 hF3 hO3
          have h8 : t3 161 8 = t 161 8 := hO3 161 8 (by omega)
          have h00' : t3 161 0 = 0 := (hO3 161 0 (by omega)).trans h00
          have hO3' : Off (fun b j => (b = 161 ∧ (j = 0 ∨ j = 1 ∨ (8 ≤ j ∧ j ≤ 18))) ∨ b = 167) σ t3 := Off_trans hO (Off_mono hO3 (fun b j q => by omega))
          by_cases g7 : 0 < (cp7 f N p n told s v).1
          · have h12' := hR3.1
            rw [cps_bad g7] at h0
            exact s_R_world_122 ⟨fun _ => R_isWell_s hR3 (fun _ t4 q0 q1 q2 hO4 => ⟨fun y => absurd rfl y, fun _ => h0 g7 t4 q0 q1 q2 ((hO4 161 8 (by omega)).trans h8) (Off_trans hO3' (Off_mono hO4 (fun b j q => by omega)))⟩) (fun y => by omega), fun y => by omega⟩
          · have g7' : (cp7 f N p n told s v).1 = 0 := by have := hR3.2.1; omega
            obtain ⟨hFz3, le7, i0, ij, jn⟩ := hF3 g7'
            have b4 := hpn.b
            obtain ⟨o1, o2, _⟩ := or_bit (m := told) (l := 5 * cpi f N n s + cpj f N n s) (w := 25) (by omega) htold.1 (by have := htold.2; omega) (by omega) (by omega)
            exact ih _ _ _ t3 (fun _ => ⟨hpn, hFz3⟩) (by omega) ⟨o1, by simpa using o2⟩ hR3 h00' hO3' (fun w t4 q0 q1 q2 q3 q4 q5 q6 hO4 => h1 w t4 q0 q1 q2 q3 q4 q5 (q6.trans h8) hO4) (fun w t4 q0 q1 q2 q3 hO4 => h0 w t4 q0 q1 q2 (q3.trans h8) hO4)
        have mustS : ∀ (t2 : SG) (s6 : PS), RB t2 f N s6 → (∀ t3, RB t3 f N (mst f N (zb (isS f N s6.2.2 59)) s6) → Off (fun b j => b = 161 ∧ 12 ≤ j ∧ j ≤ 18) t2 t3 → L (d + 5) M_R_world 122 [vA 161, vU, vU, vI n, vU, vU] [] t3 Q) → Tri (d + 4) M_R_isSign [vA 161, vI 59] t2 (fun r10 σ10 => Tri (d + 4) M_R_must [vA 161, vI r10] σ10 (fun r11 σ11 => L (d + 5) M_R_world 122 [vA 161, vU, vU, vI n, vU, vU] [] σ11 Q)) := fun t2 s6 hR6 hk6 =>
          R_isSign_s hR6.2.2.2 (fun y => R_must_s hB (t := zb (isS f N s6.2.2 59)) (by rw [if_pos (zb_t y)]) hR6 hk6) (fun y => R_must_s hB (t := zb (isS f N s6.2.2 59)) (by rw [if_neg (by rw [zb_f y]; exact Bool.false_ne_true)]) hR6 hk6)
        refine R_isBracket_s hR.2.2.2 (fun y => ⟨fun w => by omega, fun _ => ?_⟩) (fun y => ⟨fun _ => ?_, fun w => absurd rfl w⟩)
        · refine R_readBracket_s hB hpn g0 y htold hR hFz (fun t2 hR2 hF2 hO2 => mustS t2 _ hR2 (fun t3 hR3 hO3 => stepN t3 hR3 (fun g7 => ?_) (Off_trans hO2 (Off_mono hO3 (fun b j q => by omega)))))
          have g6 : (cp6 f N p n told s v).1.1 = 0 := (mst_ok hR2.2.1 g7).1
          obtain ⟨w1, w2, w3, w4⟩ := hF2 g6
          refine ⟨w1.fr (fun q => hO3 167 q (by omega)), ?_, w2, w3, w4⟩
          have p1 : PL N s (cp1 f N s) := mst_pl pbs
          have e1 : cp1 f N s = adv f N s := mst_go g0 (zb_t y)
          have lt1 := tE_lt (f := f) pbs.2.2 (by have := y.1; omega : tK f N s.2.2 ≠ 0)
          have p2 : PL N (cp1 f N s) (cp2 f N n s) := cns_pl p1.1
          have p3 : PL N (cp2 f N n s) (cp3 f N n s) := cns_pl p2.1
          have p4 : PL N (cp3 f N n s) (cp4 f N n told s) := by
            unfold cp4
            split
            · exact ⟨p3.1, Int.le_refl _⟩
            · split
              · exact ⟨⟨by show (0 : Int) ≤ 5; omega, p3.1.2⟩, Int.le_refl _⟩
              · exact ⟨p3.1, Int.le_refl _⟩
          have p5 : PL N (cp4 f N n told s) (cp5 f N n told s) := mst_pl p4.1
          have p6 : PL N (cp5 f N n told s) (cp6 f N p n told s v).1 := by
            unfold cp6
            split
            · exact ⟨p5.1, Int.le_refl _⟩
            · exact trm_pl _ _ _ _ p5.1
          have p7 : PL N (cp6 f N p n told s v).1 (cp7 f N p n told s v) := mst_pl p6.1
          have q1 : (cp1 f N s).2.2 = tE f N s.2.2 := by rw [e1]; rfl
          have := p2.2; have := p3.2; have := p4.2; have := p5.2; have := p6.2; have := p7.2
          omega
        · refine R_wrong_s g0 hR (fun t2 hR2 hO2 => ?_)
          have e1 : cp1 f N s = (bk f N s.2.2 2, tS f N s.2.2, s.2.2) := mst_no g0 (zb_f y)
          have hb : 0 < (cp1 f N s).1 := by rw [e1]; exact bk_p (by omega)
          have e5 := cp5_1 (n := n) (told := told) hb
          have e7 : cp7 f N p n told s v = (bk f N s.2.2 2, tS f N s.2.2, s.2.2) := by rw [cp7_bad (by rw [e5]; exact hb), e5, e1]
          refine mustS t2 _ hR2 (fun t3 hR3 hO3 => stepN t3 ?_ (fun g7 => ?_) (Off_trans (Off_mono hO2 (fun b j q => by omega)) (Off_mono hO3 (fun b j q => by omega))))
          · rw [mst_bad (by exact bk_p (by omega))] at hR3
            rw [e7]; exact hR3
          · rw [e7] at g7
            have := bk_p (f := f) (N := N) (e := s.2.2) (k := 2) (by omega)
            have g7' : bk f N s.2.2 2 = 0 := g7
            omega
end RWO
