/-! ===== all TABLES: the model's numbers of tables, what it has seen ===== -/
section RCO
variable {d : Nat} {σ : SG} {Q : Int → SG → Prop}
theorem R_codeOf_s {p n : Int} {T : Int → Int} (hs : SML p n) (hT : TW p n T) (h26 : σ 161 26 = p) (h27 : σ 161 27 = n) (hx : ∀ t, 0 ≤ t → t < 125 → σ 168 (0 + 2 + t) = T t) (h : ∀ r, 0 ≤ r → r < p ^ (nTB n).toNat → (∀ t, 0 ≤ t → t < 125 → TBY p n r t = T t) → Q r σ) : Tri (d + 2) M_R_codeOf [vA 161, vA 168] σ Q := by
  obtain ⟨hpn, n1, n3, nt0, hN, hN0⟩ := hs.b
  obtain ⟨b1, b2, b3, b4⟩ := hpn.b
  refine t_R_codeOf ?_
  rw [h27, w32_id (by omega) (by omega)]
  have hend : n * ci n (n - 1) n = nTB n := by
    have : n = 1 ∨ n = 2 ∨ n = 3 := by omega
    unfold ci nTB
    rcases this with rfl | rfl | rfl <;> omega
  refine loop_wf (P := fun s : Int × Int => L (d + 2) M_R_codeOf 9 [vA 161, vA 168, vI s.1, vI s.2, vU, vU] [] σ Q) (fun s => -1 ≤ s.2 ∧ s.2 < n ∧ CDi p n T s.1 (n * ci n s.2 n)) (fun s => (s.2 + 1).toNat) ?_ (0, n - 1) ⟨by simp only; omega, by simp only; omega, ?_⟩
  · rintro ⟨v, i⟩ ⟨i0, i1, hC⟩ ih
    simp only at i0 i1 hC ⊢
    refine s_R_codeOf_9 ⟨fun q => ?_, fun q => ?_⟩
    · have hi : i = -1 := by omega
      subst hi
      have e : n * ci n (-1) n = 0 := by
        have : ci n (-1) n = 0 := by unfold ci; omega
        rw [this]; simp
      rw [e] at hC
      obtain ⟨c1, c2, c3, c4, c5⟩ := hC
      refine h v c3 (by rw [Int.sub_zero] at c4; exact c4) (fun t t0 t1 => ?_)
      rw [← MK_self hT (Int.le_refl n) t0 t1]
      refine MK_cg (fun a b c a0 ab bn c0 cn => ?_) t0 t1
      have := c5 a b c a0 ab bn c0 cn (cin n3 a0 ab bn c0 cn).1
      rw [Int.sub_zero] at this; exact this
    · rw [h27, w32_id (by omega) (by omega)]
      refine loop_wf (P := fun s : Int × Int => L (d + 2) M_R_codeOf 21 [vA 161, vA 168, vI s.1, vI i, vI s.2, vU] [] σ Q) (fun s => i ≤ s.2 ∧ s.2 < n ∧ CDi p n T s.1 (n * ci n i (s.2 + 1))) (fun s => (s.2 + 1).toNat) ?_ (v, n - 1) ⟨by simp only; omega, by simp only; omega, by simp only; rw [show n - 1 + 1 = n by omega]; exact hC⟩
      rintro ⟨v2, j⟩ ⟨j0, j1, hC2⟩ ih2
      simp only at j0 j1 hC2 ⊢
      refine s_R_codeOf_21 ⟨fun q2 => ?_, fun q2 => ?_⟩
      · have hj : j = i := by omega
        subst hj
        rw [w32_id (by omega) (by omega)]
        refine ih (v2, j + -1) ⟨by simp only; omega, by simp only; omega, ?_⟩ (by simp only; omega)
        simp only
        by_cases g : j = 0
        · subst g
          have e1 : ci n (0 + -1) n = ci n 0 (0 + 1) := by unfold ci; omega
          rw [e1]; exact hC2
        · have e1 := ci_0 (n := n) (i := j - 1) (by omega) (by omega)
          rw [show j - 1 + 1 = j by omega] at e1
          rw [show j + -1 = j - 1 by omega, ← e1]; exact hC2
      · rw [h27, w32_id (by omega) (by omega)]
        refine loop_wf (P := fun s : Int × Int => L (d + 2) M_R_codeOf 35 [vA 161, vA 168, vI s.1, vI i, vI j, vI s.2] [] σ Q) (fun s => -1 ≤ s.2 ∧ s.2 < n ∧ CDi p n T s.1 (n * ci n i j + (s.2 + 1))) (fun s => (s.2 + 1).toNat) ?_ (v2, n - 1) ⟨by simp only; omega, by simp only; omega, by simp only; rw [show n - 1 + 1 = n by omega, ← ci_k, Int.add_zero]; exact hC2⟩
        rintro ⟨v3, k⟩ ⟨k0, k1, hC3⟩ ih3
        simp only at k0 k1 hC3 ⊢
        refine s_R_codeOf_35 ⟨fun q3 => ?_, fun q3 => ?_⟩
        · have hk : k = -1 := by omega
          subst hk
          rw [w32_id (by omega) (by omega)]
          refine ih2 (v3, j + -1) ⟨by simp only; omega, by simp only; omega, ?_⟩ (by simp only; omega)
          simp only
          rw [show n * ci n i j + (-1 + 1) = n * ci n i j by omega] at hC3
          rw [show j + -1 + 1 = j by omega]; exact hC3
        · obtain ⟨hC4, hv4⟩ := CDi_step hs hT (by omega) q2 (by omega) q3 k1 hC3
          have hTb := hT.2.1 (25 * i + 5 * j + k) (by omega) (by omega)
          have hv0 : 0 ≤ v3 * p := Int.mul_nonneg hC3.2.2.1 (by omega)
          refine R_cell_s ⟨by omega, by omega⟩ ⟨by omega, by omega⟩ ⟨q3, by omega⟩ ?_
          have e168 : σ 168 (2 + 25 * i + 5 * j + k) = T (25 * i + 5 * j + k) := by
            have := hx (25 * i + 5 * j + k) (by omega) (by omega)
            rw [show (0 : Int) + 2 + (25 * i + 5 * j + k) = 2 + 25 * i + 5 * j + k by omega] at this; exact this
          rw [h26, e168, w32_id (x := v3 * p) (by omega) (by omega), w32_id (x := v3 * p + T (25 * i + 5 * j + k)) (by omega) (by omega), w32_id (x := k + -1) (by omega) (by omega)]
          refine ⟨rd_of kd_168 (by omega) (by omega), ih3 (_, _) ⟨by simp only; omega, by simp only; omega, ?_⟩ (by simp only; omega)⟩
          simp only
          rw [show k + -1 + 1 = k by omega]; exact hC4
  · simp only
    rw [hend]
    exact ⟨nt0, Int.le_refl _, Int.le_refl _, by rw [Int.sub_self]; exact ppos b1 _, fun a b c a0 ab bn c0 cn hq => by have := cin n3 a0 ab bn c0 cn; omega⟩
/-- all that the TABLE becomes by other bases is marked -/
theorem R_seeAll_s {p n : Int} {w : Int → Int → Int → Int} (hs : SML p n) (hR : RT σ p n w) (h : ∀ σ', (∀ z, 0 ≤ z → z < p ^ (nTB n).toNat → (σ' 195 z ≠ 0 ↔ σ 195 z ≠ 0 ∨ SEE p n (TBY p n z) (MK p n w))) → RT σ' p n w → Off (fun b j => b = 168 ∨ b = 178 ∨ b = 190 ∨ b = 193 ∨ b = 194 ∨ b = 195) σ σ' → Q 0 σ') : Tri (d + 5) M_R_seeAll [vA 161] σ Q := by
  obtain ⟨hpn, n1, n3, nt0, hN, hN0⟩ := hs.b
  obtain ⟨b1, b2, b3, b4⟩ := hpn.b
  have hnn : 1 ≤ n * n ∧ n * n ≤ 9 := by
    have : n = 1 ∨ n = 2 ∨ n = 3 := by omega
    rcases this with rfl | rfl | rfl <;> omega
  have hM : p ^ (n * n).toNat ≤ 512 ∧ 0 < p ^ (n * n).toNat := by
    have : (p = 2 ∧ n = 1) ∨ (p = 2 ∧ n = 2) ∨ (p = 2 ∧ n = 3) ∨ (p = 3 ∧ n = 1) ∨ (p = 3 ∧ n = 2) := by unfold SML at hs; omega
    rcases this with ⟨rfl, rfl⟩ | ⟨rfl, rfl⟩ | ⟨rfl, rfl⟩ | ⟨rfl, rfl⟩ | ⟨rfl, rfl⟩ <;> decide
  have hfr : ∀ t, Off (fun b j => b = 168 ∨ b = 178 ∨ b = 190 ∨ b = 193 ∨ b = 194 ∨ b = 195) σ t → RT t p n w := fun t ht => hR.fr (fun k _ _ => ht 161 k (by omega)) (fun k => ht 196 k (by omega))
  refine t_R_seeAll ?_
  rw [hR.2.2.2.1, w32_id (by omega) (by omega)]
  refine R_powerOf_s hR.2.2.1 (by omega) (by omega) (by omega) ?_
  refine loop_up (P := fun b t => L (d + 5) M_R_seeAll 16 [vA 161, vI (p ^ (n * n).toNat), vI b, vU, vU] [] t Q) (fun b t => 0 ≤ b ∧ (∀ z, 0 ≤ z → z < p ^ (nTB n).toNat → (t 195 z ≠ 0 ↔ σ 195 z ≠ 0 ∨ ∃ b', 0 ≤ b' ∧ b' < b ∧ BOK p n (BB p n b') ∧ ∀ u, 0 ≤ u → u < 125 → TBY p n z u = MK p n (BCH p n (MK p n w) (BB p n b')) u)) ∧ Off (fun b j => b = 168 ∨ b = 178 ∨ b = 190 ∨ b = 193 ∨ b = 194 ∨ b = 195) σ t) (p ^ (n * n).toNat) ?_ ?_ 0 (by omega) σ ⟨by omega, fun z z0 z1 => ⟨Or.inl, fun g => g.elim id (fun ⟨b', x1, x2, _⟩ => by omega)⟩, Off_rfl⟩
  · rintro t ⟨_, ht, hO⟩
    refine s_R_seeAll_16 ⟨fun _ => h t (fun z z0 z1 => (ht z z0 z1).trans (or_congr Iff.rfl ⟨fun ⟨b', x1, x2, x3, x4⟩ => ⟨BB p n b', fun i c _ _ _ _ => dg_in b1, x3, x4⟩, fun ⟨B, hB, hok, hu⟩ => ?_⟩)) (hfr t hO) hO, fun q => by omega⟩
    have hf : ∀ j : Int, 0 ≤ (B (j / n) (j % n)) % p ∧ (B (j / n) (j % n)) % p < p := fun j => ⟨Int.emod_nonneg _ (by omega), Int.emod_lt_of_pos _ (by omega)⟩
    have hpb := pk_b (f := fun q => B (q / n) (q % n) % p) b1 hf (n * n) (by omega)
    have hBB : ∀ i c, 0 ≤ i → i < n → 0 ≤ c → c < n → B i c = BB p n (pk p (fun q => B (q / n) (q % n) % p) (n * n)) i c := fun i c i0 i1 c0 c1 => by
      obtain ⟨g1, g2, g3, g4, g5⟩ := pl_at n1 n3 i0 i1 c0 c1
      unfold BB
      rw [pk_dg b1 hf (n * n) (by omega) _ g2 g3, g4, g5]
      have := hB i c i0 i1 c0 c1
      exact (Int.emod_eq_of_lt this.1 this.2).symm
    exact ⟨_, hpb.1, hpb.2, BOK_cg (by omega) hBB hok, fun u u0 u1 => (hu u u0 u1).trans (MK_cg (fun i j k i0 ij jn k0 kn => BCH_cg (by omega) b4 (fun _ _ _ => rfl) hBB hok i0 (by omega) (by omega) jn k0 kn) u0 u1)⟩
  · rintro b t hb ⟨b0, ht, hO⟩ ih
    have hRt := hfr t hO
    refine s_R_seeAll_16 ⟨fun q => by omega, fun _ => ?_⟩
    have hpw : ∀ q, 0 ≤ b / p ^ q ∧ b / p ^ q ≤ b := fun q => by
      have := ppos (p := p) b1 q
      exact ⟨Int.ediv_nonneg b0 (by omega), Int.ediv_le_self _ b0⟩
    refine loop_up (P := fun q (s : Int × SG) => L (d + 5) M_R_seeAll 26 [vA 161, vI (p ^ (n * n).toNat), vI b, vI s.1, vI q] [] s.2 Q) (fun q s => 0 ≤ q ∧ s.1 = b / p ^ q.toNat ∧ (∀ r, 0 ≤ r → r < q → s.2 193 (pl n r) = dg p b r) ∧ Off (fun b j => b = 193) t s.2) (n * n) ?_ ?_ 0 (by omega) (b, t) ⟨by omega, by simp, fun r _ _ => by omega, Off_rfl⟩
    · rintro ⟨y, t2⟩ ⟨_, _, hv, hO2⟩
      simp only at hv hO2 ⊢
      have hO2' : Off (fun b j => b = 168 ∨ b = 178 ∨ b = 190 ∨ b = 193 ∨ b = 194 ∨ b = 195) σ t2 := Off_trans hO (Off_mono hO2 (fun b j q => by omega))
      have hR2 := hfr t2 hO2'
      have hBt : ∀ i c, 0 ≤ i → i < n → 0 ≤ c → c < n → t2 193 (5 * i + c) = BB p n b i c ∧ 0 ≤ BB p n b i c ∧ BB p n b i c < p := fun i c i0 i1 c0 c1 => by
        obtain ⟨g1, g2, g3, g4, g5⟩ := pl_at n1 n3 i0 i1 c0 c1
        refine ⟨?_, dg_in b1⟩
        have := hv (n * i + c) g2 g3
        rw [g1] at this; exact this
      refine s_R_seeAll_26 ⟨fun _ => ?_, fun q => by rw [hR2.2.2.2.1, w32_id (by omega) (by omega)] at q; omega⟩
      have h195 : ∀ z, t2 195 z = t 195 z := fun z => hO2 195 z (by omega)
      refine R_changeInto_s (hR2.rw' hpn) hBt (fun hok t3 z0 z1 z2 hO3 => ⟨fun q => by omega, fun _ => ?_⟩) (fun hno t3 hO3 => ⟨fun _ => ?_, fun q => absurd rfl q⟩)
      · have hO3' : Off (fun b j => b = 168 ∨ b = 178 ∨ b = 190 ∨ b = 193 ∨ b = 194 ∨ b = 195) σ t3 := Off_trans hO2' (Off_mono hO3 (fun b j q => by omega))
        have hR3 := hfr t3 hO3'
        refine R_codeOf_s hs (TW_MK hpn) hR3.2.2.1 hR3.2.2.2.1 z2 (fun r r0 r1 hr => ⟨⟨r0, by omega⟩, fun t4 e4 => ?_⟩)
        rw [w32_id (by omega) (by omega)]
        refine ih t4 ⟨by omega, fun z z0' z1' => ?_, fun b j hb => by rw [e4, up_ne (by omega)]; exact hO3' b j hb⟩
        by_cases g : z = r
        · subst g
          rw [e4, up_same]
          exact ⟨fun _ => Or.inr ⟨b, b0, by omega, hok, hr⟩, fun _ => by omega⟩
        · rw [e4, up_ne (by omega), hO3 195 z (by omega), h195 z, ht z z0' z1']
          refine or_congr Iff.rfl ⟨fun ⟨b', x1, x2, x3⟩ => ⟨b', x1, by omega, x3⟩, fun ⟨b', x1, x2, x3, x4⟩ => ⟨b', x1, ?_, x3, x4⟩⟩
          rcases Int.lt_or_le b' b with g2 | g2
          · exact g2
          · have : b' = b := by omega
            subst this
            exact absurd (TBY_inj hs z0' z1' r0 r1 (fun u u0 u1 => (x4 u u0 u1).trans (hr u u0 u1).symm)) g
      · have hO3' : Off (fun b j => b = 168 ∨ b = 178 ∨ b = 190 ∨ b = 193 ∨ b = 194 ∨ b = 195) σ t3 := Off_trans hO2' (Off_mono hO3 (fun b j q => by omega))
        rw [w32_id (by omega) (by omega)]
        refine ih t3 ⟨by omega, fun z z0' z1' => ?_, hO3'⟩
        rw [hO3 195 z (by omega), h195 z, ht z z0' z1']
        refine or_congr Iff.rfl ⟨fun ⟨b', x1, x2, x3⟩ => ⟨b', x1, by omega, x3⟩, fun ⟨b', x1, x2, x3, x4⟩ => ⟨b', x1, ?_, x3, x4⟩⟩
        rcases Int.lt_or_le b' b with g2 | g2
        · exact g2
        · have : b' = b := by omega
          subst this
          exact absurd x3 hno
    · rintro q ⟨y, t2⟩ hq ⟨q0, hy, hv, hO2⟩ ih2
      simp only at hy hv hO2 ⊢
      have hR2 : RT t2 p n w := hRt.fr (fun k _ _ => hO2 161 k (by omega)) (fun k => hO2 196 k (by omega))
      obtain ⟨c1, c2, c3, c4⟩ := pl_s n1 n3 q0 hq
      have hyb := hpw q.toNat
      refine s_R_seeAll_26 ⟨fun z => by rw [hR2.2.2.2.1, w32_id (by omega) (by omega)] at z; omega, fun _ => ?_⟩
      rw [hR2.2.2.2.1, hR2.2.2.1, Int.tdiv_eq_ediv_of_nonneg q0, Int.tmod_eq_emod_of_nonneg q0, Int.tmod_eq_emod_of_nonneg (a := y) (by omega), w32_id (x := q / n) (by omega) (by omega), w32_id (x := 5 * (q / n)) (by omega) (by omega), w32_id (x := 5 * (q / n) + q % n) (by omega) (by omega)]
      change n ≠ 0 ∧ n ≠ 0 ∧ p ≠ 0 ∧ (0 ≤ pl n q ∧ pl n q < 25) ∧ ∀ σ6, σ6 = up t2 193 (pl n q) (y % p) → _
      refine ⟨by omega, by omega, by omega, ⟨c1, c2⟩, fun t3 e3 => ?_⟩
      have f26 : t3 161 26 = p := by rw [e3, up_ne (by omega)]; exact hR2.2.2.1
      have e7 : 0 ≤ y / p ∧ y / p ≤ y := ⟨Int.ediv_nonneg (by omega) (by omega), Int.ediv_le_self _ (by omega)⟩
      rw [f26, Int.tdiv_eq_ediv_of_nonneg (by omega), w32_id (x := y / p) (by omega) (by omega), w32_id (x := q + 1) (by omega) (by omega)]
      refine ⟨by omega, ih2 (y / p, t3) ⟨by omega, by simp only; rw [hy, div_step b1 q0], fun r r0 r1 => ?_, fun b j hb => by simp only; rw [e3, up_ne (by omega)]; exact hO2 b j hb⟩⟩
      simp only
      by_cases g : r = q
      · subst g; rw [e3, up_same, dg_div r0, ← hy]
      · rw [e3, up_ne (Or.inr (pl_ne n1 n3 r0 (by omega) q0 hq g))]; exact hv r r0 (by omega)
theorem R_tables_l {p n wh : Int} {w : Int → Int → Int → Int} (hs : SML p n) (hwh : wh = 0 ∨ wh = 1) (hR : RT σ p n w) (h : ∀ r σ', TBLS p n wh r → Off (fun b j => b = 168 ∨ (175 ≤ b ∧ b ≤ 178) ∨ b = 186 ∨ b = 190 ∨ b = 193 ∨ b = 194 ∨ b = 195 ∨ b = 196) σ σ' → Q r σ') : L (d + 7) M_R_tables 103 [vA 161, vU, vU, vI wh, vU, vI (p ^ (nTB n).toNat), vI 0, vU] [] σ Q := by
  obtain ⟨hpn, n1, n3, nt0, hN, hN0⟩ := hs.b
  obtain ⟨b1, b2, b3, b4⟩ := hpn.b
  generalize hNN : p ^ (nTB n).toNat = N at *
  refine loop_up (P := fun x t => L (d + 7) M_R_tables 103 [vA 161, vU, vU, vI wh, vU, vI N, vI x, vU] [] t Q) (fun x t => 0 ≤ x ∧ (∀ z, 0 ≤ z → z < x → t 195 z = 0) ∧ Off (fun b j => b = 195) σ t) N ?_ ?_ 0 (by omega) σ ⟨by omega, fun z _ _ => by omega, Off_rfl⟩
  · rintro t0 ⟨_, ht0, hO0⟩
    refine s_R_tables_103 ⟨fun _ => ?_, fun q => by omega⟩
    refine loop_up (P := fun x (s : Int × SG) => L (d + 7) M_R_tables 130 [vA 161, vU, vU, vI wh, vU, vI N, vI s.1, vI x] [] s.2 Q) (fun x s => 0 ≤ x ∧ (wh = 0 → s.1 = LWS p n x.toNat) ∧ (wh = 1 → s.1 = ((FRS p n x.toNat).length : Int) ∧ ∀ z, 0 ≤ z → z < N → (s.2 195 z ≠ 0 ↔ ∃ y ∈ FRS p n x.toNat, SEE p n (TBY p n z) (TBY p n y))) ∧ (∃ w, RT s.2 p n w) ∧ Off (fun b j => b = 168 ∨ (175 ≤ b ∧ b ≤ 178) ∨ b = 186 ∨ b = 190 ∨ b = 193 ∨ b = 194 ∨ b = 195 ∨ b = 196) σ s.2) N ?_ ?_ 0 (by omega) (0, t0) ⟨by omega, fun _ => rfl, fun _ => ⟨rfl, fun z z0 z1 => ⟨fun g => absurd (ht0 z z0 z1) g, fun ⟨y, hy, _⟩ => by have : y ∈ ([] : List Int) := hy; simp at this⟩⟩, ⟨w, hR.fr (fun k _ _ => hO0 161 k (by omega)) (fun k => hO0 196 k (by omega))⟩, Off_mono hO0 (fun b j q => by omega)⟩
    · rintro ⟨c, t⟩ ⟨_, h0, h1, _, hO⟩
      simp only at h0 h1 hO ⊢
      refine s_R_tables_130 ⟨fun _ => h c t ?_ hO, fun q => by omega⟩
      unfold TBLS
      rw [hNN]
      rcases hwh with g | g
      · rw [if_pos g]; exact h0 g
      · rw [if_neg (by omega)]; exact (h1 g).1
    · rintro x ⟨c, t⟩ hx ⟨x0, h0, h1, ⟨w', hR'⟩, hO⟩ ih
      simp only at h0 h1 hR' hO ⊢
      have hlb := LWS_b (p := p) (n := n) x.toNat
      have hfb := FRS_b (p := p) (n := n) x.toNat
      have ex : (x + 1).toNat = x.toNat + 1 := by omega
      have exx : ((x.toNat : Nat) : Int) = x := by omega
      refine s_R_tables_130 ⟨fun q => by omega, fun _ => R_tableBy_s hR' hpn n3 x0 (by omega) (fun t2 hR2 hO2 => ?_)⟩
      have hO2' : Off (fun b j => b = 168 ∨ (175 ≤ b ∧ b ≤ 178) ∨ b = 186 ∨ b = 190 ∨ b = 193 ∨ b = 194 ∨ b = 195 ∨ b = 196) σ t2 := Off_trans hO (Off_mono hO2 (fun b j q => by omega))
      have hL1 : LAWF p n (TBY p n x) → LWS p n (x.toNat + 1) = LWS p n x.toNat + 1 := fun z => by
        rw [LWS]
        rw [exx, if_pos z]
      have hL0 : ¬ LAWF p n (TBY p n x) → LWS p n (x.toNat + 1) = LWS p n x.toNat := fun z => by
        rw [LWS]
        rw [exx, if_neg z]
      have hF1 : LAWF p n (TBY p n x) → (¬ ∃ y ∈ FRS p n x.toNat, SEE p n (TBY p n x) (TBY p n y)) → FRS p n (x.toNat + 1) = FRS p n x.toNat ++ [x] := fun z w => by
        rw [FRS]
        rw [exx, if_pos ⟨z, fun y hy hse => w ⟨y, hy, hse⟩⟩]
      have hF0 : (¬ LAWF p n (TBY p n x) ∨ ∃ y ∈ FRS p n x.toNat, SEE p n (TBY p n x) (TBY p n y)) → FRS p n (x.toNat + 1) = FRS p n x.toNat := fun z => by
        rw [FRS]
        rw [exx, if_neg (fun w => by
          rcases z with z | ⟨y, hy, hse⟩
          · exact z w.1
          · exact w.2 y hy hse)]
      have h195 : ∀ z, t2 195 z = t 195 z := fun z => hO2 195 z (by omega)
      rw [w32_id (x := x + 1) (by omega) (by omega)]
      refine R_isLawful_s (hR2.rw' hpn) (fun hyes t3 hO3 => ⟨fun q => by omega, fun _ => ?_⟩) (fun hno t3 hO3 => ⟨fun _ => ?_, fun q => absurd rfl q⟩)
      · change LAWF p n (TBY p n x) at hyes
        have hO3' : Off (fun b j => b = 168 ∨ (175 ≤ b ∧ b ≤ 178) ∨ b = 186 ∨ b = 190 ∨ b = 193 ∨ b = 194 ∨ b = 195 ∨ b = 196) σ t3 := Off_trans hO2' (Off_mono hO3 (fun b j q => by omega))
        have hR3 : RT t3 p n (fun i j k => dg p x (n * ci n i j + k)) := hR2.fr (fun k _ _ => hO3 161 k (by omega)) (fun k => hO3 196 k (by omega))
        have k195 : ∀ z, t3 195 z = t 195 z := fun z => (hO3 195 z (by omega)).trans (h195 z)
        refine ⟨fun g => ⟨fun _ => ?_, fun z => absurd z g⟩, fun g => ⟨⟨x0, by omega⟩, fun hz => ⟨fun z => absurd g z, fun _ => ?_⟩, fun hz => ?_⟩⟩
        · have hw0 : wh = 0 := by omega
          have hc := h0 hw0
          rw [w32_id (x := c + 1) (by omega) (by omega)]
          exact ih (c + 1, t3) ⟨by omega, fun _ => by simp only; rw [ex, hL1 hyes, hc], fun z => absurd z g, ⟨_, hR3⟩, hO3'⟩
        · obtain ⟨g1, g2⟩ := h1 g
          have hsee : ¬ ∃ y ∈ FRS p n x.toNat, SEE p n (TBY p n x) (TBY p n y) := fun z => by
            have := (g2 x x0 hx).mpr z
            rw [← k195] at this; exact this hz
          rw [w32_id (x := c + 1) (by omega) (by omega)]
          refine R_seeAll_s hs hR3 (fun t4 h4 hR4 hO4 => ih (c + 1, t4) ⟨by omega, fun z => by omega, fun _ => ?_, ⟨_, hR4⟩, Off_trans hO3' (Off_mono hO4 (fun b j q => by omega))⟩)
          simp only
          rw [ex, hF1 hyes hsee]
          refine ⟨by rw [List.length_append, g1]; simp, fun z z0 z1 => ?_⟩
          rw [h4 z z0 (by rw [hNN]; exact z1), k195, g2 z z0 z1]
          constructor
          · rintro (⟨y, hy, hse⟩ | hse)
            · exact ⟨y, List.mem_append.mpr (Or.inl hy), hse⟩
            · exact ⟨x, List.mem_append.mpr (Or.inr (by simp)), hse⟩
          · rintro ⟨y, hy, hse⟩
            rcases List.mem_append.mp hy with hy | hy
            · exact Or.inl ⟨y, hy, hse⟩
            · simp at hy
              subst hy
              exact Or.inr hse
        · obtain ⟨g1, g2⟩ := h1 g
          have hsee : ∃ y ∈ FRS p n x.toNat, SEE p n (TBY p n x) (TBY p n y) := (g2 x x0 hx).mp (by rw [← k195]; exact hz)
          refine ih (c, t3) ⟨by omega, fun z => by omega, fun _ => ?_, ⟨_, hR3⟩, hO3'⟩
          simp only
          rw [ex, hF0 (Or.inr hsee)]
          exact ⟨g1, fun z z0 z1 => by rw [k195]; exact g2 z z0 z1⟩
      · change ¬ LAWF p n (TBY p n x) at hno
        have hO3' : Off (fun b j => b = 168 ∨ (175 ≤ b ∧ b ≤ 178) ∨ b = 186 ∨ b = 190 ∨ b = 193 ∨ b = 194 ∨ b = 195 ∨ b = 196) σ t3 := Off_trans hO2' (Off_mono hO3 (fun b j q => by omega))
        have k195 : ∀ z, t3 195 z = t 195 z := fun z => (hO3 195 z (by omega)).trans (h195 z)
        refine ih (c, t3) ⟨by omega, fun z => ?_, fun z => ?_, ⟨_, hR2.fr (fun k _ _ => hO3 161 k (by omega)) (fun k => hO3 196 k (by omega))⟩, hO3'⟩
        · simp only; rw [ex, hL0 hno]; exact h0 z
        · simp only
          rw [ex, hF0 (Or.inl hno)]
          exact ⟨(h1 z).1, fun y y0 y1 => by rw [k195]; exact (h1 z).2 y y0 y1⟩
  · rintro x t hx ⟨x0, ht, hO⟩ ih
    refine s_R_tables_103 ⟨fun q => by omega, fun _ => ⟨⟨x0, by omega⟩, fun t2 e2 => ?_⟩⟩
    rw [w32_id (by omega) (by omega)]
    refine ih t2 ⟨by omega, fun z z0 z1 => ?_, fun b j hb => by rw [e2, up_ne (by omega)]; exact hO b j hb⟩
    by_cases g : z = x
    · subst g; rw [e2, up_same]
    · rw [e2, up_ne (by omega)]; exact ht z z0 (by omega)
end RCO
