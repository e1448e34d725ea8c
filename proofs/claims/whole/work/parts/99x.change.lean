/-! ===== call: change ===== -/
section CCH
variable {d : Nat} {σ : SG} {Q : Int → SG → Prop} {c : Int → Int}
theorem sq5 {n : Int} (h : 1 ≤ n ∧ n ≤ 5) : 1 ≤ n * n ∧ n * n ≤ 25 ∧ w32 (n * n) = n * n := by
  have hn : n = 1 ∨ n = 2 ∨ n = 3 ∨ n = 4 ∨ n = 5 := by omega
  rcases hn with h | h | h | h | h <;> subst h <;> decide
theorem sqc {n i k : Int} (h : 1 ≤ n ∧ n ≤ 5) (i0 : 0 ≤ i) (i1 : i < n) (k0 : 0 ≤ k) (k1 : k < n) : 0 ≤ i * n ∧ i * n ≤ 25 ∧ i * n + k < n * n ∧ (i * n + k) / n = i ∧ (i * n + k) % n = k := by
  have hn : n = 1 ∨ n = 2 ∨ n = 3 ∨ n = 4 ∨ n = 5 := by omega
  rcases hn with h | h | h | h | h <;> subst h <;> omega
theorem sqd {n q : Int} (h : 1 ≤ n ∧ n ≤ 5) (q0 : 0 ≤ q) (q1 : q < n * n) : 0 ≤ q / n ∧ q / n < n ∧ 0 ≤ q % n ∧ q % n < n ∧ q = n * (q / n) + q % n := by
  have hn : n = 1 ∨ n = 2 ∨ n = 3 ∨ n = 4 ∨ n = 5 := by omega
  rcases hn with h | h | h | h | h <;> subst h <;> omega
theorem Wo_layBase_s {n : Int} (hn : 1 ≤ n ∧ n ≤ 5) (h : ∀ t, (∀ i k, 0 ≤ i → i < n → 0 ≤ k → k < n → t 110 (i * 5 + k) = σ 4 (i * n + k)) → Off (fun b j => b = 110) σ t → Q 0 t) : Tri (d + 1) M_Wo_layBase [vA 104, vI n, vA 4] σ Q := by
  obtain ⟨s1, s2, s3⟩ := sq5 hn
  refine t_Wo_layBase (fun _ => ?_)
  refine loop_up (P := fun i s => L (d + 1) M_Wo_layBase 2 [vA 104, vI n, vA 4, vI i, vU] [] s Q) (fun i s => 0 ≤ i ∧ (∀ a k, 0 ≤ a → a < i → 0 ≤ k → k < n → s 110 (a * 5 + k) = σ 4 (a * n + k)) ∧ Off (fun b j => b = 110) σ s) n ?_ ?_ 0 (by omega) σ ⟨Int.le_refl _, fun a k a0 a1 => by omega, Off_rfl⟩
  · rintro s ⟨i0, a1, a2⟩
    exact s_Wo_layBase_2 ⟨fun _ => h s (fun i k i0 i1 k0 k1 => a1 i k i0 i1 k0 k1) a2, fun y => by omega⟩
  · rintro i s hi ⟨i0, a1, a2⟩ next
    refine s_Wo_layBase_2 ⟨fun y => by omega, fun _ => ⟨fun y => by omega, fun _ => ?_⟩⟩
    have nx : ∀ s2, (∀ a k, 0 ≤ a → a < i → 0 ≤ k → k < n → s2 110 (a * 5 + k) = σ 4 (a * n + k)) → (∀ k, 0 ≤ k → k < n → s2 110 (i * 5 + k) = σ 4 (i * n + k)) → Off (fun b j => b = 110) σ s2 → L (d + 1) M_Wo_layBase 2 [vA 104, vI n, vA 4, vI (w32 (i + 1)), vU] [] s2 Q := fun s2 c1 c2 c3 => by
      rw [w32_id (by omega) (by omega)]
      refine next s2 ⟨by omega, fun a k a0 a1 k0 k1 => ?_, c3⟩
      by_cases q : a = i
      · rw [q]; exact c2 k k0 k1
      · exact c1 a k a0 (by omega) k0 k1
    refine loop_up (P := fun k s => L (d + 1) M_Wo_layBase 15 [vA 104, vI n, vA 4, vI i, vI k] [] s Q) (fun k s => 0 ≤ k ∧ (∀ a k, 0 ≤ a → a < i → 0 ≤ k → k < n → s 110 (a * 5 + k) = σ 4 (a * n + k)) ∧ (∀ q, 0 ≤ q → q < k → s 110 (i * 5 + q) = σ 4 (i * n + q)) ∧ Off (fun b j => b = 110) σ s) n ?_ ?_ 0 (by omega) s ⟨Int.le_refl _, a1, fun q q0 q1 => by omega, a2⟩
    · rintro s2 ⟨k0, c1, c2, c3⟩
      exact s_Wo_layBase_15 ⟨fun _ => nx s2 c1 c2 c3, fun y => by omega⟩
    · rintro k s2 hk ⟨k0, c1, c2, c3⟩ next2
      obtain ⟨e1, e2, e3, e4, e5⟩ := sqc hn i0 hi k0 hk
      refine s_Wo_layBase_15 ⟨fun y => by omega, fun _ => ⟨fun y => by omega, fun _ => ?_⟩⟩
      rw [kd_4, w32_id (x := i * n) (by omega) (by omega), w32_id (x := i * n + k) (by omega) (by omega), w32_id (x := i * 5) (by omega) (by omega), w32_id (x := i * 5 + k) (by omega) (by omega), w32_id (x := k + 1) (by omega) (by omega)]
      refine ⟨rfl, fun y => absurd (show (25 : Int) ≤ i * n + k from y) (by omega), fun _ => ⟨rd_of kd_4 (by omega) (by omega), ⟨by omega, by omega⟩, fun s3 e => next2 s3 ⟨by omega, fun a q a0 a1 q0 q1 => ?_, fun q q0 q1 => ?_, Off_trans c3 (by rw [e]; exact Off_up rfl)⟩⟩⟩
      · rw [e, up_ne (by omega)]; exact c1 a q a0 a1 q0 q1
      · by_cases y : q = k
        · rw [y, e, up_same]; exact c3 4 _ (by omega)
        · rw [e, up_ne (by omega)]; exact c2 q q0 (by omega)
theorem c_change {x : Int} (hI : IVT σ) : CAL d M_X_change M_R_change [vI x] σ := by
  obtain ⟨c, hK, hM, hD, hS⟩ := hI.2.2.1
  have hW := WD7 hK hD
  obtain ⟨b1, b2, b3, b4⟩ := hW.pn.b
  have hS0 := ST_n hI.2.2.2
  have hK' := KC_n hK rfl
  have l6 := l60 hI
  obtain ⟨q1, q2, q3⟩ := sq5 ⟨b3, b4⟩
  -- the model's checks of the numbers
  have chk : ∀ (v : Int) t5, RW t5 (c 0) (c 1) (TBc c 0) → trys σ t5 → 0 ≤ x → x < 4 → c 1 * c 1 ≤ σ 3 x → (gAll σ x (c 1 * c 1) 0 (c 0 - 1) → L (d + 30) M_R_change 116 [vA 161, vI x, vI 0] [] t5 (fun r2 u2 => v = r2 ∧ IVT u2)) → (¬ gAll σ x (c 1 * c 1) 0 (c 0 - 1) → Tri (d + 29) M_R_no [vA 161, vI 5] t5 (fun r6 σ6 => (r6 = 0 ∨ r6 = 1) ∧ v = r6 ∧ IVT σ6)) → L (d + 30) M_R_change 69 [vA 161, vI x, vI 0] [] t5 (fun r2 u2 => v = r2 ∧ IVT u2) := fun v t5 hR ht5 x0 x1 z4 hy hn => by
    have e27 := hR.2.2.1
    have e26 := hR.2.1
    have s60 := l6 x x0 x1
    have ew : w32 (t5 161 27 * t5 161 27) = c 1 * c 1 := by rw [e27, q3]
    refine loop_up (S := Unit) (P := fun k _ => L (d + 30) M_R_change 69 [vA 161, vI x, vI k] [] t5 (fun r2 u2 => v = r2 ∧ IVT u2)) (fun k _ => 0 ≤ k ∧ ∀ j, 0 ≤ j → j < k → 0 ≤ σ 1 (60 * x + j) ∧ σ 1 (60 * x + j) ≤ c 0 - 1) (c 1 * c 1) ?_ ?_ 0 (by omega) () ⟨Int.le_refl _, fun j j0 j1 => by omega⟩
    · rintro _ ⟨k0, a1⟩
      exact s_R_change_69 ⟨fun _ => hy (fun k k0 k1 => a1 k k0 k1), fun y => by omega⟩
    · rintro k _ hk ⟨k0, a1⟩ next
      refine s_R_change_69 ⟨fun y => by omega, fun _ => R_numberOf_s ⟨x0, x1⟩ ⟨k0, by omega⟩ ?_⟩
      rw [ht5.2 _ (by omega) (by omega), w32_id (x := k + 1) (by omega) (by omega), e26, w32_id (x := c 0 - 1) (by omega) (by omega)]
      refine R_isIn_s (fun y1 y2 => ⟨fun _ => next () ⟨by omega, fun j j0 j1 => ?_⟩, fun y => by omega⟩) (fun y => ⟨fun q => absurd rfl q, fun _ => hn (fun w => ?_)⟩)
      · by_cases q : j = k
        · rw [q]; exact ⟨y1, y2⟩
        · exact a1 j j0 (by omega)
      · have := w k k0 hk; omega
  -- the model up to its checks
  have beg : ∀ (v : Int) t, KM t 0 c → trys σ t → (∀ t5, RW t5 (c 0) (c 1) (TBc c 0) → KM t5 0 c → Off DR t t5 → t5 161 0 = 0 → trys σ t5 → (¬ (0 ≤ x ∧ x < 4) → Tri (d + 29) M_R_no [vA 161, vI 1] t5 (fun r6 σ6 => (r6 = 0 ∨ r6 = 1) ∧ v = r6 ∧ IVT σ6)) ∧ (0 ≤ x → x < 4 → σ 3 x < 0 → Tri (d + 29) M_R_no [vA 161, vI 3] t5 (fun r6 σ6 => (r6 = 0 ∨ r6 = 1) ∧ v = r6 ∧ IVT σ6)) ∧ (0 ≤ x → x < 4 → 0 ≤ σ 3 x → σ 3 x < c 1 * c 1 → Tri (d + 29) M_R_no [vA 161, vI 4] t5 (fun r6 σ6 => (r6 = 0 ∨ r6 = 1) ∧ v = r6 ∧ IVT σ6)) ∧ (0 ≤ x → x < 4 → 0 ≤ σ 3 x → c 1 * c 1 ≤ σ 3 x → L (d + 30) M_R_change 69 [vA 161, vI x, vI 0] [] t5 (fun r2 u2 => v = r2 ∧ IVT u2))) → Tri (d + 30) M_R_change [vA 161, vI x] t (fun r2 u2 => v = r2 ∧ IVT u2) := fun v t hMt htr h => by
    refine t_R_change (fun _ t3 e3 t4 e4 => R_now e3 e4 hMt hD (fun t5 hR hO h0 hM5 => ?_))
    have ht5 := trys_o htr hO (fun j => by unfold DR; omega)
    obtain ⟨g1, g3, g4, g0⟩ := h t5 hR hM5 hO h0 ht5
    refine R_isTray_s (fun x0 x1 => ⟨fun _ => ⟨⟨x0, x1⟩, ?_⟩, fun y => by omega⟩) (fun hn => ⟨fun y => absurd rfl y, fun _ => g1 hn⟩)
    rw [ht5.1 x x0 x1, hR.2.2.1, q3]
    exact ⟨fun z => ⟨⟨x0, x1⟩, fun z2 => g0 x0 x1 z z2, fun z2 => g4 x0 x1 z z2⟩, fun z => g3 x0 x1 z⟩
  have ref : ∀ s t1, gCod σ x (c 1 * c 1) 0 (c 0 - 1) s → Off (fun b j => b = 4) (nrm σ) t1 → L (d + 30) M_X_change 40 [vA 0, vU, vA 7, vI s] [] t1 (fun r u => Tri (d + 30) M_R_change [vA 161, vI x] u (fun r2 u2 => r = r2 ∧ IVT u2)) := fun s t1 hs' hO1 => by
    have s0 : s ≠ 0 := by unfold gCod at hs'; omega
    refine s_X_change_40 ⟨fun y => absurd y s0, fun _ => X_rf (fun t e => ?_)⟩
    have hS1 : ST t1 := hS0.off hO1 (fun e he => by have := ech_list he; omega)
    have hx : QX σ t s := QXn hS1 hO1 (fun b j q => by unfold DX; omega) e
    refine beg 0 t (KM_qx hM hx) (trys_x hI hx) (fun t5 hR hM5 hO h0 ht5 => ?_)
    have rf : ∀ r, r = s → Tri (d + 29) M_R_no [vA 161, vI r] t5 (fun r6 σ6 => (r6 = 0 ∨ r6 = 1) ∧ 0 = r6 ∧ IVT σ6) := fun r hr => R_nr (fun t6 h6 hO6 => ⟨rfl, IVT_q hI hx (Off_trans hO hO6) (by rw [h6, hr])⟩)
    refine ⟨fun z => rf 1 (by unfold gCod at hs'; omega), fun x0 x1 z => rf 3 (by unfold gCod at hs'; omega), fun x0 x1 z z2 => rf 4 (by unfold gCod at hs'; omega), fun x0 x1 z z2 => chk 0 t5 hR ht5 x0 x1 z2 (fun w => ?_) (fun w => rf 5 (by unfold gCod at hs'; omega))⟩
    rcases hs' with h | h | h | h
    · exact absurd ⟨x0, x1⟩ h.2
    · omega
    · omega
    · exact absurd w h.2.2.2.2
  refine Tri_n (t_X_change (fun _ => X_trayTrouble_s (fun z => ⟨fun _ => ref 1 _ (Or.inl ⟨rfl, z⟩) Off_rfl, fun y => by omega⟩) (fun x0 x1 z => ⟨fun _ => ref 3 _ (Or.inr (Or.inl ⟨rfl, ⟨x0, x1⟩, by rw [n3] at z; exact z⟩)) Off_rfl, fun y => by omega⟩) (fun x0 x1 z => ⟨fun y => absurd rfl y, fun _ => ?_⟩)))
  rw [n3] at z
  rw [hW.2.2.1, hW.2.1, q3, w32_id (x := c 0 - 1) (by omega) (by omega)]
  refine X_gatherNumbers_s x0 x1 (by omega) (by omega) (by omega) (by omega) (by rw [n3]; exact l6 x x0 x1) (fun q => ref 4 _ (Or.inr (Or.inr (Or.inl ⟨rfl, ⟨x0, x1⟩, z, by rw [n3] at q; exact q⟩))) Off_rfl) (fun q q2 t1 hO1 => ref 5 t1 (Or.inr (Or.inr (Or.inr ⟨rfl, ⟨x0, x1⟩, z, by rw [n3] at q; exact q, fun w => q2 (fun k k0 k1 => by rw [n1]; exact w k k0 k1)⟩))) hO1) (fun q q4 t1 h4 hO1 => ?_)
  rw [n3] at q
  have za := gAll_n q4
  have s60 := l6 x x0 x1
  -- the model's half, up to its changing
  have mod : ∀ (v : Int) t, KM t 0 c → trys σ t → (∀ t6, RW t6 (c 0) (c 1) (TBc c 0) → KM t6 0 c → Off DR t t6 → t6 161 0 = 0 → (∀ i k, 0 ≤ i → i < c 1 → 0 ≤ k → k < c 1 → t6 193 (5 * i + k) = σ 1 (60 * x + (i * c 1 + k))) → Tri (d + 29) M_R_changeInto [vA 161] t6 (fun r2 σ2 => (r2 ≠ 0 → Tri (d + 29) M_R_takeOther [vA 161] σ2 (fun r4 σ4 => v = 1 ∧ IVT σ4)) ∧ (r2 = 0 → Tri (d + 29) M_R_no [vA 161, vI 9] σ2 (fun r5 σ5 => (r5 = 0 ∨ r5 = 1) ∧ v = r5 ∧ IVT σ5)))) → Tri (d + 30) M_R_change [vA 161, vI x] t (fun r2 u2 => v = r2 ∧ IVT u2) := fun v t hMt htr h => by
    refine beg v t hMt htr (fun t5 hR hM5 hO h0 ht5 => ⟨fun z => absurd ⟨x0, x1⟩ z, fun _ _ y => by omega, fun _ _ _ y => by omega, fun _ _ _ z2 => chk v t5 hR ht5 x0 x1 z2 (fun _ => ?_) (fun w => absurd za w)⟩)
    have fr : ∀ t6, Off (fun b j => b = 193) t5 t6 → RW t6 (c 0) (c 1) (TBc c 0) := fun t6 hO6 => hR.fr (fun k _ _ => hO6 161 k (by omega)) (fun k => hO6 166 k (by omega)) (fun k => hO6 196 k (by omega))
    refine loop_up (P := fun k s => L (d + 30) M_R_change 116 [vA 161, vI x, vI k] [] s (fun r2 u2 => v = r2 ∧ IVT u2)) (fun k s => 0 ≤ k ∧ (∀ j, 0 ≤ j → j < k → s 193 (5 * (j / c 1) + j % c 1) = σ 1 (60 * x + j)) ∧ Off (fun b j => b = 193) t5 s) (c 1 * c 1) ?_ ?_ 0 (by omega) t5 ⟨Int.le_refl _, fun j j0 j1 => by omega, Off_rfl⟩
    · rintro t6 ⟨k0, a1, hO6⟩
      have hR6 := fr t6 hO6
      have ew : w32 (t6 161 27 * t6 161 27) = c 1 * c 1 := by rw [hR6.2.2.1, q3]
      refine s_R_change_116 ⟨fun _ => h t6 hR6 (hM5.fr (fun j => hO6 166 j (by omega))) (Off_trans hO (Off_mono hO6 (fun b j q => by unfold DR; omega))) ((hO6 161 0 (by omega)).trans h0) (fun i k i0 i1 k0 k1 => ?_), fun y => by omega⟩
      obtain ⟨e1, e2, e3, e4, e5⟩ := sqc ⟨b3, b4⟩ i0 i1 k0 k1
      have := a1 (i * c 1 + k) (by omega) e3
      rw [e4, e5] at this; exact this
    · rintro k t6 hk ⟨k0, a1, hO6⟩ next
      have hR6 := fr t6 hO6
      have ew : w32 (t6 161 27 * t6 161 27) = c 1 * c 1 := by rw [hR6.2.2.1, q3]
      have ht6 := trys_o ht5 hO6 (fun j => by omega)
      obtain ⟨d1, d2, d3, d4, d5⟩ := sqd ⟨b3, b4⟩ k0 hk
      have zk := za k k0 hk
      refine s_R_change_116 ⟨fun y => by omega, fun _ => ?_⟩
      rw [hR6.2.2.1]
      refine ⟨by omega, by omega, R_numberOf_s ⟨x0, x1⟩ ⟨k0, by omega⟩ ?_⟩
      rw [ht6.2 _ (by omega) (by omega), Int.tdiv_eq_ediv_of_nonneg k0, Int.tmod_eq_emod_of_nonneg k0, w32_id (x := k / c 1) (by omega) (by omega), w32_id (x := 5 * (k / c 1)) (by omega) (by omega), w32_id (x := 5 * (k / c 1) + k % c 1) (by omega) (by omega), w32_id (x := k + 1) (by omega) (by omega), w32_id (x := σ 1 (60 * x + k)) (by omega) (by omega)]
      refine ⟨⟨by omega, by omega⟩, fun t7 e => next t7 ⟨by omega, fun j j0 j1 => ?_, Off_trans hO6 (by rw [e]; exact Off_up rfl)⟩⟩
      by_cases y : j = k
      · rw [y, e, up_same]
      · obtain ⟨f1, f2, f3, f4, f5⟩ := sqd ⟨b3, b4⟩ j0 (by omega)
        rw [e, up_ne (Or.inr (fun w => y ?_))]
        · exact a1 j j0 (by omega)
        · have w1 : j / c 1 = k / c 1 := by omega
          have w2 : j % c 1 = k % c 1 := by omega
          rw [f5, d5, w1, w2]
  have hBb : ∀ i k, 0 ≤ i → i < c 1 → 0 ≤ k → k < c 1 → 0 ≤ σ 1 (60 * x + (i * c 1 + k)) ∧ σ 1 (60 * x + (i * c 1 + k)) < c 0 := fun i k i0 i1 k0 k1 => by
    obtain ⟨e1, e2, e3, e4, e5⟩ := sqc ⟨b3, b4⟩ i0 i1 k0 k1
    have := za (i * c 1 + k) (by omega) e3
    omega
  have hW1 : WD t1 7 (c 0) (c 1) (TBc c 0) := hW.cg (fun k => hO1 7 k (by omega)) (fun k => hO1 (7 + 1) k (by omega))
  refine s_X_change_40 ⟨fun _ => ⟨ob_7, ?_⟩, fun y => absurd rfl y⟩
  rw [hW1.2.2.1]
  refine Wo_layBase_s ⟨b3, b4⟩ (fun t2 hl hO2 => ?_)
  have hO02 : Off (fun b j => b = 4 ∨ b = 110) (nrm σ) t2 := Off_trans (Off_mono hO1 (fun b j q => Or.inl q)) (Off_mono hO2 (fun b j q => Or.inr q))
  have hW2 : WD t2 7 (c 0) (c 1) (TBc c 0) := hW.cg (fun k => hO02 7 k (by omega)) (fun k => hO02 (7 + 1) k (by omega))
  have hS2 : ST t2 := hS0.off hO02 (fun e he => by have := ech_list he; omega)
  have hK2 : KC t2 6 c := hK'.off (OffN_of hO02) (fun b j q1 q2 => by omega)
  have hB2 : ∀ i k, 0 ≤ i → i < c 1 → 0 ≤ k → k < c 1 → t2 110 (i * 5 + k) = (fun i k => σ 1 (60 * x + (i * c 1 + k))) i k ∧ 0 ≤ (fun i k => σ 1 (60 * x + (i * c 1 + k))) i k ∧ (fun i k => σ 1 (60 * x + (i * c 1 + k))) i k < c 0 := fun i k i0 i1 k0 k1 => by
    obtain ⟨e1, e2, e3, e4, e5⟩ := sqc ⟨b3, b4⟩ i0 i1 k0 k1
    refine ⟨?_, hBb i k i0 i1 k0 k1⟩
    rw [hl i k i0 i1 k0 k1, h4 _ (by omega) e3, n1]
  have hB6 : ∀ t6 : SG, (∀ i k, 0 ≤ i → i < c 1 → 0 ≤ k → k < c 1 → t6 193 (5 * i + k) = σ 1 (60 * x + (i * c 1 + k))) → ∀ i k, 0 ≤ i → i < c 1 → 0 ≤ k → k < c 1 → t6 193 (5 * i + k) = (fun i k => σ 1 (60 * x + (i * c 1 + k))) i k ∧ 0 ≤ (fun i k => σ 1 (60 * x + (i * c 1 + k))) i k ∧ (fun i k => σ 1 (60 * x + (i * c 1 + k))) i k < c 0 := fun t6 h6 i k i0 i1 k0 k1 => ⟨h6 i k i0 i1 k0 k1, hBb i k i0 i1 k0 k1⟩
  refine Wo_changeBase_s hW2 (by omega) (by rw [hS2 107 ob_107]; rfl) hB2 (fun hok t3 hWN hO3 => ⟨fun y => by omega, fun _ => t_X_agree (fun t e => ⟨Or.inr rfl, ?_⟩)⟩) (fun hok t3 hO3 => ⟨fun _ => X_rf (fun t e => ?_), fun y => absurd rfl y⟩)
  · have hO03 : Off (fun b j => (b = 0 ∧ j = 0) ∨ b = 4 ∨ (7 ≤ b ∧ b ≤ 8) ∨ (b = 105 ∧ (j = 1 ∨ j = 2)) ∨ b = 106 ∨ (b = 107 ∧ 3 ≤ j) ∨ (108 ≤ b ∧ b ≤ 112)) (nrm σ) t := Off_trans (Off_mono hO02 (fun b j q => by omega)) (Off_trans (Off_mono hO3 (fun b j q => by omega)) (by rw [e]; exact Off_up (Or.inl ⟨rfl, rfl⟩)))
    have hOa : OffN (fun b j => (b = 0 ∧ j = 0) ∨ b = 4 ∨ b = 5 ∨ (7 ≤ b ∧ b ≤ 8) ∨ (13 ≤ b ∧ b ≤ 20) ∨ (39 ≤ b ∧ b ≤ 113)) σ t := OffN_n (Off_mono hO03 (fun b j q => by omega))
    have hSt : ST t := hS0.off hO03 (fun y hy => by have := ech_list hy; omega)
    have hK3 : KC t 6 (ptW c 0 (c 0) (c 1) (MK (c 0) (c 1) (BCH (c 0) (c 1) (TBc c 0) (fun i k => σ 1 (60 * x + (i * c 1 + k)))))) := by
      have h1 : KC t3 6 (ptW c 0 (c 0) (c 1) (MK (c 0) (c 1) (BCH (c 0) (c 1) (TBc c 0) (fun i k => σ 1 (60 * x + (i * c 1 + k)))))) := KC_w0 hK2 hWN.1 hWN.2.1 hWN.2.2 (OffN_of (Off_mono hO3 (fun b j q => by omega)))
      exact h1.off (D := fun b j => b = 0) (OffN_of (by rw [e]; exact Off_up rfl)) (fun b j q1 q2 => by omega)
    have hMt := KM_nx hM hOa (fun j => by omega)
    have htr : trys σ t := ⟨fun i i0 i1 => by rw [hOa 163 i (by omega) (by omega)]; exact (hI.2.1.2.2.2.1 i i0 i1).2.1.symm, fun j j0 j1 => by rw [hOa 164 j (by omega) (by omega)]; exact (hI.2.1.2.2.2.2.1 j j0 j1).symm⟩
    refine mod 1 t hMt htr (fun t6 hR6 hM6 hO6 h06 h193 => R_changeInto_s hR6 (hB6 t6 h193) (fun _ t7 m0 m1 m2 hO7 => ⟨fun _ => R_takeOther_s (TW_MK hW.pn) m0 m1 m2 (fun t8 hWt hO8 => ⟨rfl, ?_⟩), fun y => by omega⟩) (fun w => absurd hok w))
    have hM7 : KM t7 0 c := hM6.fr (fun j => hO7 166 j (by omega))
    exact IVT_2 hI hOa (Off_trans (Off_mono hO6 (fun b j q => Or.inl q)) (Off_trans (Off_mono hO7 (fun b j q => by unfold DR; omega)) (Off_mono hO8 (fun b j q => by omega)))) hK3 (KM_pt0 hM7 hWt (fun j jj => hO8 166 j (by omega))) (DC_pt hD (TW_MK hW.pn) (by omega) (by omega)) hSt (by rw [e, up_same]) ((hO8 161 0 (by omega)).trans ((hO7 161 0 (by omega)).trans h06))
  · have hO03 : Off (fun b j => b = 4 ∨ (b = 107 ∧ 3 ≤ j) ∨ (108 ≤ b ∧ b ≤ 111)) (nrm σ) t3 := Off_trans (Off_mono hO02 (fun b j q => by omega)) (Off_mono hO3 (fun b j q => by omega))
    have hx : QX σ t 9 := QXn (hS0.off hO03 (fun y hy => by have := ech_list hy; omega)) hO03 (fun b j q => by unfold DX; omega) e
    refine mod 0 t (KM_qx hM hx) (trys_x hI hx) (fun t6 hR6 hM6 hO6 h06 h193 => R_changeInto_s hR6 (hB6 t6 h193) (fun w => absurd w hok) (fun _ t7 hO7 => ⟨fun y => absurd rfl y, fun _ => R_nr (fun t8 h8 hO8 => ⟨rfl, ?_⟩)⟩))
    exact IVT_q hI hx (Off_trans hO6 (Off_trans (Off_mono hO7 (fun b j q => by unfold DR; omega)) hO8)) h8
end CCH
