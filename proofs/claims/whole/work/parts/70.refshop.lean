/-! ===== the model: squeezing, growth, sums ===== -/
section RSH
variable {d : Nat} {σ : SG} {Q : Int → SG → Prop}
theorem R_squeeze_l {p n tr : Int} {T wt : Int → Int} (hR : RW σ p n T) (ht : 0 ≤ tr ∧ tr < 4) (hw : ∀ q, 0 ≤ q → q < n → σ 164 (60 * tr + q) = wt q ∧ -20 ≤ wt q ∧ wt q ≤ 20) (m0 : σ 168 0 = p) (m1 : σ 168 1 = n) (m2 : ∀ t, 0 ≤ t → t < 125 → σ 168 (0 + 2 + t) = T t)
    (h1 : SQok n T wt → ∀ σ', WM σ' 0 p n (MK p n (SQZ T wt)) → Off (fun b j => b = 168 ∨ (b = 166 ∧ 0 ≤ j ∧ j < 127)) σ σ' → Q 1 σ') (h0 : ¬ SQok n T wt → ∀ σ', σ' 161 0 = 9 → Off (fun b j => b = 168 ∨ (b = 161 ∧ j = 0)) σ σ' → Q 0 σ') : L (d + 4) M_R_squeeze 118 [vA 161, vI tr, vI 0, vU, vU, vU, vU] [] σ Q := by
  obtain ⟨b1, b2, b3, b4⟩ := hR.1.1.b
  have hT := hR.1
  have rcg : ∀ t, Off (fun b j => b = 168 ∧ 2 ≤ j) σ t → RW t p n T := fun t h' => hR.fr (fun k _ _ => h' 161 k (by omega)) (fun k => h' 166 k (by omega)) (fun k => h' 196 k (by omega))
  have f0 : ∀ t, Off (fun b j => b = 168 ∧ 2 ≤ j) σ t → t 168 0 = p ∧ t 168 1 = n := fun t h' => ⟨(h' 168 0 (by omega)).trans m0, (h' 168 1 (by omega)).trans m1⟩
  refine loop_up (P := fun i t => L (d + 4) M_R_squeeze 118 [vA 161, vI tr, vI i, vU, vU, vU, vU] [] t Q)
    (fun i t => 0 ≤ i ∧ (∀ q, 0 ≤ q → q < 125 → t 168 (0 + 2 + q) = MK p n (wl (SQZ T wt) (fun x y z => T (25 * x + 5 * y + z)) i (i + 1) 0) q) ∧ (∀ x y z, 0 ≤ x → x < i → x < y → y < n → 0 ≤ z → z < n → ¬ (T (25 * x + 5 * y + z) ≠ 0 ∧ wt x + wt y - wt z < 0)) ∧ Off (fun b j => b = 168 ∧ 2 ≤ j) σ t) n ?_ ?_ 0 (by omega) σ ⟨by omega, fun q q0 q1 => by rw [m2 q q0 q1, wl_0 q0 q1, MK_self hT (Int.le_refl _) q0 q1], fun x y z _ _ => by omega, Off_rfl⟩
  · rintro t ⟨_, ht2, hok, hO⟩
    have e27 := (rcg t hO).2.2.1
    refine s_R_squeeze_118 ⟨fun _ => R_takeOther_s (TW_MK hT.1) (f0 t hO).1 (f0 t hO).2 (fun q q0 q1 => by rw [ht2 q q0 q1]; exact wl_m (Int.le_refl _) q0 q1) (fun t2 hN hO2 => h1 (fun i j k i0 ij jn k0 kn => hok i j k i0 (by omega) ij jn k0 kn) t2 hN (Off_trans (Off_mono hO (fun b j q => by omega)) (Off_mono hO2 (fun b j q => by omega)))), fun q => by omega⟩
  · rintro i t hi ⟨i0, ht2, hok, hO⟩ ih
    have e27 := (rcg t hO).2.2.1
    refine s_R_squeeze_118 ⟨fun q => by omega, fun _ => ?_⟩
    rw [w32_id (by omega) (by omega)]
    refine loop_up (P := fun j t => L (d + 4) M_R_squeeze 130 [vA 161, vI tr, vI i, vI j, vU, vU, vU] [] t Q)
      (fun j t => i + 1 ≤ j ∧ (∀ q, 0 ≤ q → q < 125 → t 168 (0 + 2 + q) = MK p n (wl (SQZ T wt) (fun x y z => T (25 * x + 5 * y + z)) i j 0) q) ∧ (∀ y z, i < y → y < j → 0 ≤ z → z < n → ¬ (T (25 * i + 5 * y + z) ≠ 0 ∧ wt i + wt y - wt z < 0)) ∧ Off (fun b j => b = 168 ∧ 2 ≤ j) σ t) n ?_ ?_ (i + 1) (by omega) t ⟨by omega, ht2, fun y z _ _ => by omega, hO⟩
    · rintro t2 ⟨_, ht3, hok2, hO2⟩
      have e27 := (rcg t2 hO2).2.2.1
      refine s_R_squeeze_130 ⟨fun _ => ?_, fun q => by omega⟩
      rw [w32_id (by omega) (by omega)]
      refine ih t2 ⟨by omega, fun q q0 q1 => by rw [ht3 q q0 q1]; exact wl_j (Int.le_refl _) q0 q1, fun x y z x0 x1 xy yn z0 zn => ?_, hO2⟩
      by_cases g : x = i
      · subst g; exact hok2 y z xy yn z0 zn
      · exact hok x y z x0 (by omega) xy yn z0 zn
    · rintro j t2 hj ⟨j0, ht3, hok2, hO2⟩ ih2
      have e27 := (rcg t2 hO2).2.2.1
      refine s_R_squeeze_130 ⟨fun q => by omega, fun _ => ?_⟩
      refine loop_up (P := fun k t => L (d + 4) M_R_squeeze 141 [vA 161, vI tr, vI i, vI j, vI k, vU, vU] [] t Q)
        (fun k t => 0 ≤ k ∧ (∀ q, 0 ≤ q → q < 125 → t 168 (0 + 2 + q) = MK p n (wl (SQZ T wt) (fun x y z => T (25 * x + 5 * y + z)) i j k) q) ∧ (∀ z, 0 ≤ z → z < k → ¬ (T (25 * i + 5 * j + z) ≠ 0 ∧ wt i + wt j - wt z < 0)) ∧ Off (fun b j => b = 168 ∧ 2 ≤ j) σ t) n ?_ ?_ 0 (by omega) t2 ⟨by omega, ht3, fun z _ _ => by omega, hO2⟩
      · rintro t3 ⟨_, ht4, hok3, hO3⟩
        have e27 := (rcg t3 hO3).2.2.1
        refine s_R_squeeze_141 ⟨fun _ => ?_, fun q => by omega⟩
        rw [w32_id (by omega) (by omega)]
        refine ih2 t3 ⟨by omega, fun q q0 q1 => by rw [ht4 q q0 q1]; exact wl_k (Int.le_refl _) q0 q1, fun y z y0 y1 z0 zn => ?_, hO3⟩
        by_cases g : y = j
        · subst g; exact hok3 z z0 zn
        · exact hok2 y z y0 (by omega) z0 zn
      · rintro k t3 hk ⟨k0, ht4, hok3, hO3⟩ ih3
        have hR3 := rcg t3 hO3
        have e27 := hR3.2.2.1
        have w1 := hw i i0 hi
        have w2 := hw j (by omega) hj
        have w3' := hw k k0 hk
        have e164 : ∀ q, t3 164 q = σ 164 q := fun q => hO3 164 q (by omega)
        have next : ¬ (T (25 * i + 5 * j + k) ≠ 0 ∧ wt i + wt j - wt k < 0) → ∀ t4, (∀ q, 0 ≤ q → q < 125 → t4 168 (0 + 2 + q) = MK p n (wl (SQZ T wt) (fun x y z => T (25 * x + 5 * y + z)) i j (k + 1)) q) → Off (fun b j => b = 168 ∧ 2 ≤ j) σ t4 → L (d + 4) M_R_squeeze 141 [vA 161, vI tr, vI i, vI j, vI (w32 (k + 1)), vU, vU] [] t4 Q := fun hno t4 h4 hO4 => by
          rw [w32_id (by omega) (by omega)]
          refine ih3 t4 ⟨by omega, h4, fun z z0 z1 => ?_, hO4⟩
          by_cases g : z = k
          · subst g; exact hno
          · exact hok3 z z0 (by omega)
        have at198 : ¬ (T (25 * i + 5 * j + k) ≠ 0 ∧ wt i + wt j - wt k < 0) → L (d + 4) M_R_squeeze 198 [vA 161, vI tr, vI i, vI j, vI k, vJ (wt i + wt j - wt k), vU] [] t3 Q := fun hno => by
          refine s_R_squeeze_198 ⟨fun q => next hno t3 (fun r r0 r1 => ?_) hO3, fun q => ?_⟩
          · have q' := cmp3_le.mp q
            rw [ht4 r r0 r1, ← wl_next, MK_w3 i0 (by omega) hj k0 hk b4 r0 r1]
            have hv : SQZ T wt i j k = T (25 * i + 5 * j + k) := by unfold SQZ; rw [if_neg (by omega)]
            by_cases g : r = 25 * j + 5 * i + k
            · rw [if_pos g, g, MK_at (by omega) (by omega) (by omega) (by omega) k0 (by omega), if_neg (by omega), if_pos (by omega), hv]
              show (-(if i < i ∨ (i = i ∧ (j < j ∨ (j = j ∧ k < k))) then _ else T (25 * i + 5 * j + k))) % p = _
              rw [if_neg (by omega)]
            · rw [if_neg g]
              by_cases g2 : r = 25 * i + 5 * j + k
              · rw [if_pos g2, g2, MK_at (by omega) (by omega) (by omega) (by omega) k0 (by omega), if_pos (by omega), hv]
                show (if i < i ∨ (i = i ∧ (j < j ∨ (j = j ∧ k < k))) then _ else T (25 * i + 5 * j + k)) % p = _
                rw [if_neg (by omega)]
              · rw [if_neg g2]
          · have q' := cmp3_gt.mp q
            refine R_setMK (by omega) kd_168 (by omega) (by omega) (by omega) (f0 t3 hO3).1 hT.1 ht4 i0 (by omega) hj k0 hk (by omega) (fun t4 ht5 hO4 => next hno t4 (fun r r0 r1 => ?_) (Off_trans hO3 (Off_mono hO4 (fun b j q => by omega))))
            rw [ht5 r r0 r1, ← wl_next]
            have hv : SQZ T wt i j k = 0 := by unfold SQZ; rw [if_pos q']
            rw [hv]
        refine s_R_squeeze_141 ⟨fun q => by omega, fun _ => R_numberOf_s ht ⟨i0, by omega⟩ (R_numberOf_s ht ⟨by omega, by omega⟩ (R_numberOf_s ht ⟨k0, by omega⟩ (R_table_s hR3 ⟨i0, by omega⟩ ⟨by omega, by omega⟩ ⟨k0, by omega⟩ ?_)))⟩
        rw [e164, e164, e164, w1.1, w2.1, w3'.1, w64_id (x := wt i + wt j) (by omega) (by omega), w64_id (x := wt i + wt j - wt k) (by omega) (by omega)]
        refine ⟨fun q => at198 (by omega), fun q => ⟨fun q2 => at198 (by have := cmp3_ge.mp q2; omega), fun q2 => ?_⟩⟩
        have q2' := cmp3_lt.mp q2
        refine t_R_no (fun _ s2 e2 => ⟨Or.inl rfl, h0 (fun hok' => hok' i j k i0 (by omega) hj k0 hk ⟨q, q2'⟩) s2 (by rw [e2, up_same]) (fun b j hb => ?_)⟩)
        rw [e2, up_ne (by omega)]; exact hO3 b j (by omega)
theorem R_coupleOf_n {n i j : Int} (e27 : σ 161 27 = n) (b4 : n ≤ 5) (i0 : 0 ≤ i) (ij : i < j) (jn : j < n) (h : Q (ci n i j) σ) : Tri (d + 1) M_R_coupleOf [vA 161, vI i, vI j] σ Q := by
  refine t_R_coupleOf (fun _ _ => ?_)
  rw [e27]
  have h1 := kn_b i0 (show i < n by omega) b4 (m := 0) (by omega) (by omega)
  have h2 : 0 ≤ i * (i + 1) ∧ i * (i + 1) ≤ 4 * 5 := mul_small i0 (by omega) (by omega) (by omega)
  rw [w32_id (x := i + 1) (by omega) (by omega), w32_id (x := i * n) (by omega) (by omega), w32_id (x := i * (i + 1)) (by omega) (by omega), Int.tdiv_eq_ediv_of_nonneg h2.1, w32_id (x := i * (i + 1) / 2) (by omega) (by omega), w32_id (x := i * n - i * (i + 1) / 2) (by omega) (by omega), w32_id (x := i * n - i * (i + 1) / 2 + j) (by omega) (by omega), w32_id (x := i * n - i * (i + 1) / 2 + j - i) (by omega) (by omega), w32_id (by omega) (by omega)]
  exact h
theorem R_grow_l {p n tr : Int} {T c : Int → Int} (hW : WM σ 0 p n T) (e27 : σ 161 27 = n) (hpn : PN p (n + 1)) (ht : 0 ≤ tr ∧ tr < 4) (hc : ∀ q, 0 ≤ q → q < n * (n - 1) / 2 → σ 164 (60 * tr + q) = c q ∧ 0 ≤ c q ∧ c q < p)
    (h : ∀ σ', WM σ' 0 p (n + 1) (MK p (n + 1) (GRW n T c)) → Off (fun b j => b = 166 ∧ 0 ≤ j ∧ j < 127) σ σ' → Q (n + 1) σ') : L (d + 3) M_R_grow 103 [vA 161, vI tr, vU, vI n, vI 0, vU] [] σ Q := by
  obtain ⟨h1, h2, h3, hT⟩ := hW
  obtain ⟨b1, b2, b3, b4⟩ := hT.1.b
  obtain ⟨c1, c2, c3, c4⟩ := hpn.b
  refine loop_up (P := fun i t => L (d + 3) M_R_grow 103 [vA 161, vI tr, vU, vI n, vI i, vU] [] t Q)
    (fun i t => 0 ≤ i ∧ (∀ q, 0 ≤ q → q < 125 → t 166 (0 + 2 + q) = MK p (n + 1) (fun x y z => if z = n ∧ y < n ∧ x < i then c (ci n x y) else T (25 * x + 5 * y + z)) q) ∧ Off (fun b j => b = 166 ∧ 2 ≤ j ∧ j < 127) σ t) n ?_ ?_ 0 (by omega) σ ⟨by omega, fun q q0 q1 => ?_, Off_rfl⟩
  · rintro t ⟨_, ht2, hO⟩
    refine s_R_grow_103 ⟨fun _ s2 e2 => ?_, fun q => by omega⟩
    rw [w32_id (by omega) (by omega)] at e2 ⊢
    refine h s2 ⟨?_, ?_, fun q q0 q1 => ?_, TW_MK hpn⟩ (fun b j hb => ?_)
    · rw [e2, up_ne (by omega), hO 166 0 (by omega)]; exact h1
    · rw [e2]; exact up_same
    · rw [e2, up_ne (by omega), ht2 q q0 q1]
      refine MK_cg (fun x y z x0 xy ym z0 zm => ?_) q0 q1
      unfold GRW
      by_cases g : z = n ∧ y < n
      · rw [if_pos g, if_pos ⟨g.1, g.2, by omega⟩]
      · rw [if_neg g, if_neg (fun q => g ⟨q.1, q.2.1⟩)]
    · rw [e2, up_ne (by omega)]; exact hO b j (by omega)
  · rintro i t hi ⟨i0, ht2, hO⟩ ih
    refine s_R_grow_103 ⟨fun q => by omega, fun _ => ?_⟩
    rw [w32_id (by omega) (by omega)]
    refine loop_up (P := fun j t => L (d + 3) M_R_grow 115 [vA 161, vI tr, vU, vI n, vI i, vI j] [] t Q)
      (fun j t => i + 1 ≤ j ∧ (∀ q, 0 ≤ q → q < 125 → t 166 (0 + 2 + q) = MK p (n + 1) (fun x y z => if z = n ∧ y < n ∧ (x < i ∨ (x = i ∧ y < j)) then c (ci n x y) else T (25 * x + 5 * y + z)) q) ∧ Off (fun b j => b = 166 ∧ 2 ≤ j ∧ j < 127) σ t) n ?_ ?_ (i + 1) (by omega) t ⟨by omega, fun q q0 q1 => by
        rw [ht2 q q0 q1]
        refine MK_cg (fun x y z x0 xy ym z0 zm => ?_) q0 q1
        by_cases g : z = n ∧ y < n ∧ x < i
        · rw [if_pos g, if_pos (by omega)]
        · rw [if_neg g, if_neg (by omega)], hO⟩
    · rintro t2 ⟨_, ht3, hO2⟩
      refine s_R_grow_115 ⟨fun _ => ?_, fun q => by omega⟩
      rw [w32_id (by omega) (by omega)]
      refine ih t2 ⟨by omega, fun q q0 q1 => ?_, hO2⟩
      rw [ht3 q q0 q1]
      refine MK_cg (fun x y z x0 xy ym z0 zm => ?_) q0 q1
      by_cases g : z = n ∧ y < n ∧ (x < i ∨ (x = i ∧ y < n))
      · rw [if_pos g, if_pos (by omega)]
      · rw [if_neg g, if_neg (by omega)]
    · rintro j t2 hj ⟨j0, ht3, hO2⟩ ih2
      have hcb := ci_b i0 (show i < j by omega) (show j ≤ n by omega) (show n ≤ 5 by omega)
      have hcc := hc (ci n i j) hcb.1 (hcb.2.2 hj)
      have e27' : t2 161 27 = n := (hO2 161 27 (by omega)).trans e27
      have e164 : t2 164 (60 * tr + ci n i j) = c (ci n i j) := by rw [hO2 164 _ (by omega)]; exact hcc.1
      have e0 : t2 166 0 = p := (hO2 166 0 (by omega)).trans h1
      refine s_R_grow_115 ⟨fun q => by omega, fun _ => R_coupleOf_n e27' (by omega) i0 (by omega) hj (R_numberOf_s ht ⟨hcb.1, by omega⟩ ?_)⟩
      rw [e164, w32_id (by omega) (by omega), w32_id (x := j + 1) (by omega) (by omega)]
      refine R_setMK (by omega) kd_166 (by omega) (by omega) (by omega) e0 hpn ht3 i0 (by omega) (by omega) (by omega) (by omega) (by omega) (fun t4 ht5 hO4 => ih2 t4 ⟨by omega, fun q q0 q1 => ?_, Off_trans hO2 (Off_mono hO4 (fun b j q => by omega))⟩)
      rw [ht5 q q0 q1]
      refine MK_cg (fun x y z x0 xy ym z0 zm => ?_) q0 q1
      unfold w3
      by_cases g : x = i ∧ y = j ∧ z = n
      · rw [if_pos g, if_pos (by omega), g.1, g.2.1]
      · rw [if_neg g]
        show (if z = n ∧ y < n ∧ (x < i ∨ (x = i ∧ y < j)) then c (ci n x y) else T (25 * x + 5 * y + z)) = _
        by_cases g2 : z = n ∧ y < n ∧ (x < i ∨ (x = i ∧ y < j))
        · rw [if_pos g2, if_pos (by omega)]
        · rw [if_neg g2, if_neg (by omega)]
  · rw [h3 q q0 q1, ← MK_self hT (show n ≤ n + 1 by omega) q0 q1]
    refine MK_cg (fun x y z x0 xy ym z0 zm => ?_) q0 q1
    rw [if_neg (by omega)]
theorem R_sumWith_s {p n p2 n2 s : Int} {T T2 : Int → Int} (hs : 0 ≤ s ∧ s < 4) (hW : WM σ 0 p n T) (e26 : σ 161 26 = p) (e27 : σ 161 27 = n) (hW2 : WM σ (127 * (s + 1)) p2 n2 T2) (h5 : p ≠ p2 → Q 5 σ) (h7 : p = p2 → ¬ PN p (n + n2) → Q 7 σ)
    (h : p = p2 → PN p (n + n2) → ∀ σ', WM σ' 0 p (n + n2) (MK p (n + n2) (SUM2 n n2 T T2)) → Off (fun b j => b = 166 ∧ 0 ≤ j ∧ j < 127) σ σ' → Q 0 σ') : Tri (d + 3) M_R_sumWith [vA 161, vI s] σ Q := by
  obtain ⟨h1, h2, h3, hT⟩ := hW
  obtain ⟨g1, g2, g3, hT2⟩ := hW2
  obtain ⟨b1, b2, b3, b4⟩ := hT.1.b
  obtain ⟨c1, c2, c3, c4⟩ := hT2.1.b
  refine t_R_sumWith (fun _ => ?_)
  rw [w32_id (x := s + 1) (by omega) (by omega), w32_id (x := 127 * (s + 1)) (by omega) (by omega), w32_id (x := 127 * (s + 1) + 1) (by omega) (by omega), g1, g2, e26, e27, w32_id (x := n + n2) (by omega) (by omega)]
  refine ⟨⟨by omega, by omega⟩, fun q => ⟨⟨by omega, by omega⟩, R_greatest_s hT.1 (fun r r2 r3 r5 r7 => ?_)⟩, fun q => h5 (fun e => q e.symm)⟩
  have hiff : PN p (n + n2) ↔ n + n2 ≤ r := by
    have hq := hT.1
    unfold PN at hq ⊢
    constructor <;> intro y <;> omega
  refine ⟨fun z => ?_, fun z => h7 q.symm (fun y => by have := hiff.mp y; omega)⟩
  have hpn := hiff.mpr z
  obtain ⟨d1, d2, d3, d4⟩ := hpn.b
  refine loop_up (P := fun i t => L (d + 3) M_R_sumWith 53 [vA 161, vU, vI (127 * (s + 1)), vI n2, vI i, vU, vU] [] t Q)
    (fun i t => 0 ≤ i ∧ (∀ q, 0 ≤ q → q < 125 → t 166 (0 + 2 + q) = MK p (n + n2) (lyx T2 n n2 (fun x y z => T (25 * x + 5 * y + z)) i (i + 1) 0) q) ∧ Off (fun b j => b = 166 ∧ 2 ≤ j ∧ j < 127) σ t) n2 ?_ ?_ 0 (by omega) σ ⟨by omega, fun q q0 q1 => ?_, Off_rfl⟩
  · rintro t ⟨_, ht, hO⟩
    refine s_R_sumWith_53 ⟨fun _ s2 e2 => ?_, fun q => by omega⟩
    rw [hO 161 27 (by omega), e27, w32_id (by omega) (by omega)] at e2
    refine h q.symm hpn s2 ⟨?_, ?_, fun q q0 q1 => ?_, TW_MK hpn⟩ (fun b j hb => ?_)
    · rw [e2, up_ne (by omega), hO 166 0 (by omega)]; exact h1
    · rw [e2]; exact up_same
    · rw [e2, up_ne (by omega), ht q q0 q1]
      refine MK_cg (fun x y z x0 xy ym z0 zm => ?_) q0 q1
      unfold SUM2 lyd lyx
      by_cases g : n ≤ x ∧ n ≤ z ∧ y < n + n2 ∧ z < n + n2
      · rw [if_pos g, if_pos ⟨g.1, g.2.1, g.2.2.1, g.2.2.2, Or.inl (by omega)⟩]
      · rw [if_neg g, if_neg (fun z => g ⟨z.1, z.2.1, z.2.2.1, z.2.2.2.1⟩)]
    · rw [e2, up_ne (by omega)]; exact hO b j (by omega)
  · rintro i t hi ⟨i0, ht, hO⟩ ih
    refine s_R_sumWith_53 ⟨fun q => by omega, fun _ => ?_⟩
    rw [w32_id (by omega) (by omega)]
    refine loop_up (P := fun j t => L (d + 3) M_R_sumWith 65 [vA 161, vU, vI (127 * (s + 1)), vI n2, vI i, vI j, vU] [] t Q)
      (fun j t => i + 1 ≤ j ∧ (∀ q, 0 ≤ q → q < 125 → t 166 (0 + 2 + q) = MK p (n + n2) (lyx T2 n n2 (fun x y z => T (25 * x + 5 * y + z)) i j 0) q) ∧ Off (fun b j => b = 166 ∧ 2 ≤ j ∧ j < 127) σ t) n2 ?_ ?_ (i + 1) (by omega) t ⟨by omega, ht, hO⟩
    · rintro t2 ⟨_, ht2, hO2⟩
      refine s_R_sumWith_65 ⟨fun _ => ?_, fun q => by omega⟩
      rw [w32_id (by omega) (by omega)]
      refine ih t2 ⟨by omega, fun q q0 q1 => ?_, hO2⟩
      rw [ht2 q q0 q1]
      refine MK_cg (fun a b c a0 ab bm c0 cm => ?_) q0 q1
      unfold lyx
      by_cases g : n ≤ a ∧ n ≤ c ∧ b < n + n2 ∧ c < n + n2 ∧ (a - n < i ∨ (a - n = i ∧ (b - n < n2 ∨ (b - n = n2 ∧ c - n < 0))))
      · rw [if_pos g, if_pos (by omega)]
      · rw [if_neg g, if_neg (by omega)]
    · rintro j t2 hj ⟨j0, ht2, hO2⟩ ih2
      refine s_R_sumWith_65 ⟨fun q => by omega, fun _ => ?_⟩
      refine loop_up (P := fun k t => L (d + 3) M_R_sumWith 74 [vA 161, vU, vI (127 * (s + 1)), vI n2, vI i, vI j, vI k] [] t Q)
        (fun k t => 0 ≤ k ∧ (∀ q, 0 ≤ q → q < 125 → t 166 (0 + 2 + q) = MK p (n + n2) (lyx T2 n n2 (fun x y z => T (25 * x + 5 * y + z)) i j k) q) ∧ Off (fun b j => b = 166 ∧ 2 ≤ j ∧ j < 127) σ t) n2 ?_ ?_ 0 (by omega) t2 ⟨by omega, ht2, hO2⟩
      · rintro t3 ⟨_, ht3, hO3⟩
        refine s_R_sumWith_74 ⟨fun _ => ?_, fun q => by omega⟩
        rw [w32_id (by omega) (by omega)]
        refine ih2 t3 ⟨by omega, fun q q0 q1 => ?_, hO3⟩
        rw [ht3 q q0 q1]
        refine MK_cg (fun a b c a0 ab bm c0 cm => ?_) q0 q1
        unfold lyx
        by_cases g : n ≤ a ∧ n ≤ c ∧ b < n + n2 ∧ c < n + n2 ∧ (a - n < i ∨ (a - n = i ∧ (b - n < j ∨ (b - n = j ∧ c - n < n2))))
        · rw [if_pos g, if_pos (by omega)]
        · rw [if_neg g, if_neg (by omega)]
      · rintro k t3 hk ⟨k0, ht3, hO3⟩ ih3
        have hTb := hT2.2.1 (25 * i + 5 * j + k) (by omega) (by omega)
        have e27' : t3 161 27 = n := (hO3 161 27 (by omega)).trans e27
        have e0 : t3 166 0 = p := (hO3 166 0 (by omega)).trans h1
        have eT : t3 166 (127 * (s + 1) + (2 + 25 * i + 5 * j + k)) = T2 (25 * i + 5 * j + k) := by
          rw [hO3 166 _ (by omega), show 127 * (s + 1) + (2 + 25 * i + 5 * j + k) = 127 * (s + 1) + 2 + (25 * i + 5 * j + k) by omega]; exact g3 _ (by omega) (by omega)
        refine s_R_sumWith_74 ⟨fun q => by omega, fun _ => R_cell_s ⟨i0, by omega⟩ ⟨by omega, by omega⟩ ⟨k0, by omega⟩ ?_⟩
        rw [w32_id (x := 127 * (s + 1) + (2 + 25 * i + 5 * j + k)) (by omega) (by omega), e27', w32_id (x := n + i) (by omega) (by omega), w32_id (x := n + j) (by omega) (by omega), w32_id (x := n + k) (by omega) (by omega), eT, w32_id (x := k + 1) (by omega) (by omega)]
        refine ⟨⟨by omega, by omega⟩, R_setMK (by omega) kd_166 (by omega) (by omega) (by omega) e0 hpn ht3 (by omega) (by omega) (by omega) (by omega) (by omega) (by omega) (fun t4 ht5 hO4 => ih3 t4 ⟨by omega, fun q q0 q1 => ?_, Off_trans hO3 (Off_mono hO4 (fun b j q => by omega))⟩)⟩
        rw [ht5 q q0 q1]
        refine MK_cg (fun a b c a0 ab bm c0 cm => ?_) q0 q1
        unfold w3 lyx
        by_cases g : a = n + i ∧ b = n + j ∧ c = n + k
        · rw [if_pos g, if_pos (by omega), g.1, g.2.1, g.2.2]
          congr 1; omega
        · rw [if_neg g]
          by_cases g2 : n ≤ a ∧ n ≤ c ∧ b < n + n2 ∧ c < n + n2 ∧ (a - n < i ∨ (a - n = i ∧ (b - n < j ∨ (b - n = j ∧ c - n < k))))
          · rw [if_pos g2, if_pos (by omega)]
          · rw [if_neg g2, if_neg (by omega)]
  · rw [h3 q q0 q1, ← MK_self hT (show n ≤ n + n2 by omega) q0 q1]
    refine MK_cg (fun a b c a0 ab bm c0 cm => ?_) q0 q1
    unfold lyx
    rw [if_neg (by omega)]
end RSH
