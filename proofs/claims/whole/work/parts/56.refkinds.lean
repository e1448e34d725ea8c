/-! ===== the model: kinds of SPANS, counts, series' tests, closures ===== -/
theorem bnd_cg {p n : Int} {T v v' : Int → Int} {B X X' : ES} (hn : 0 ≤ n) (hv : ∀ c, 0 ≤ c → c < n → v c = v' c) (hX : ESm n X X') : ESm n (bnd p n T v B X) (bnd p n T v' B X') := by
  unfold bnd
  refine lp_rel (R := ESm n) hX (fun k u u' k0 k1 hu => hu.insv hn (fun i i0 i1 => rd_cg (fun c c0 c1 => br_cg (fun _ _ _ => rfl) hv) k0 k1))
theorem mvr_sel {σ : SG} {a ma p n : Int} {T : Int → Int} {A B : ES} (hn : 0 ≤ n) (hA : SP σ a ma p n A) : ESm n (lp (fun r X => bnd p n T (fun c => σ a (5 * r + c)) B X) 0 ma E0) (mvr p n T A B) := by
  rw [hA.1, lp_sel hn]
  unfold mvr
  refine lp_rel (R := ESm n) ESm.rfl' (fun l t t' l0 l1 ht => ?_)
  by_cases hl : A.1 l = true
  · rw [if_pos hl, if_pos hl]
    exact bnd_cg hn (fun c c0 c1 => hA.row l0 l1 hl c c0 c1) ht
  · rw [if_neg hl, if_neg hl]; exact ht
/-- what isSuch may change -/
def DI (b j : Int) : Prop := (170 ≤ b ∧ b ≤ 180 ∧ b ≠ 172) ∨ b = 185 ∨ (b = 161 ∧ j = 39)
theorem RW.di {σ σ' : SG} {p n : Int} {T : Int → Int} (h : RW σ p n T) (hO : Off DI σ σ') : RW σ' p n T := h.fr (fun k k0 k1 => hO 161 k (by unfold DI; omega)) (fun k => hO 166 k (by unfold DI; omega)) (fun k => hO 196 k (by unfold DI; omega))
theorem sR_mono {f : Int → Int} {lo a b : Int} (hf : ∀ k, 0 ≤ f k) (h0 : lo ≤ a) (h : a ≤ b) : sR f lo a ≤ sR f lo b := by
  rw [sR_split h0 h]
  have := sR_nn (f := f) (lo := a) (hi := b) (fun k _ _ => hf k)
  omega
theorem cds_b {p n m : Int} (h : PN p n) (m0 : 0 ≤ m) (m1 : m < 2 ^ n.toNat) : 1 ≤ cds p n m ∧ cds p n m < 4000 := by
  have hb := h.b
  have hc := cum_b (z := bt m) h
  unfold cum at hc
  have := sR_pos (f := fun x => if bt x = bt m then p ^ (nf n (tb x) n).toNat else 0) (fun k => by
    split
    · exact Int.le_of_lt (ppos hb.1 _)
    · exact Int.le_refl _) m0 m1
  simp only [if_true] at this
  have := ppos hb.1 (nf n (tb m) n).toNat
  unfold cds
  omega
theorem TT_ind_b {p n z : Int} {G : Int → Int → Prop} (h : PN p n) : TT p n z (fun m x => ind (G m x)) < 4000 := by
  have hc := cum_b (z := z) h
  rw [← TT_one h.b.1] at hc
  have : TT p n z (fun m x => ind (G m x)) ≤ TT p n z (fun _ _ => 1) := by
    unfold TT
    apply sR_le
    intro k k0 k1
    split
    · exact sR_le (fun j _ _ => ind_nn.2)
    · exact Int.le_refl _
  omega
theorem SM0_le {p n z m : Int} {F : Int → Int → Int} (hF : ∀ m x, 0 ≤ F m x) (m0 : 0 ≤ m) (m1 : m ≤ 2 ^ n.toNat) : 0 ≤ SM p n z F m 0 ∧ SM p n z F m 0 ≤ TT p n z F := by
  have hnn : ∀ k, 0 ≤ (if bt k = z then sR (F k) 0 (cds p n k) else 0) := fun k => by
    split
    · exact sR_nn (fun j _ _ => hF k j)
    · exact Int.le_refl _
  unfold SM TT
  rw [sR_nil (lo := 0) (hi := 0) (by omega), Int.add_zero]
  exact ⟨sR_nn (fun k _ _ => hnn k), sR_mono hnn m0 m1⟩
theorem TT_nn {p n z : Int} {F : Int → Int → Int} (hF : ∀ m x, 0 ≤ F m x) : 0 ≤ TT p n z F := sR_nn (fun k _ _ => by
  split
  · exact sR_nn (fun j _ _ => hF k j)
  · exact Int.le_refl _)
def SIMR (p n : Int) (T : Int → Int) : Prop := cd (brk p n T EU EU).1 n ≠ 0 ∧ ∀ z, 1 ≤ z → z < n → TT p n z (fun m x => ind (KD p n T 1 (spn p n (tb m) x))) = 0
def UNI (p n : Int) (T : Int → Int) : Prop := ∀ i, 0 ≤ i → i < n → sR (fun b => T (25 * i + 5 * b + b)) 0 n % p = 0
def SO (p n : Int) (T : Int → Int) (what : Int) : Prop :=
  if what = 0 then cd (brk p n T EU EU).1 n = 0 else if what = 1 then cd (ser p n T True EU (n + 1).toNat).1 n = 0 else if what = 2 then cd (ser p n T False EU (n + 1).toNat).1 n = 0
  else if what = 3 then cd (brk p n T EU EU).1 n = n else if what = 4 then SIMR p n T else UNI p n T
theorem ser1 {p n : Int} {T : Int → Int} {lo : Prop} [Decidable lo] {O : ES} : ser p n T lo O 1 = brk p n T O O := by
  show brk p n T O (if lo then O else O) = _
  split <;> rfl
section RKD
variable {d : Nat} {σ : SG} {Q : Int → SG → Prop}
theorem R_normalizerSize_s {p n many : Int} {T : Int → Int} {E : ES} (hR : RW σ p n T) (hE : SP σ 172 many p n E) (h : ∀ σ', Off DI σ σ' → Q (n - cd (mvr p n T E E).1 n) σ') : Tri (d + 4) M_R_normalizerSize [vA 161, vI many] σ Q := by
  obtain ⟨b1, b2, b3, b4⟩ := hR.1.1.b
  have hT := hR.1
  have hm := hE.b (show 0 ≤ n by omega)
  refine t_R_normalizerSize (fun _ => R_noRows_s (p := p) (w := n) (fun s1 hR1 hO1 => ?_))
  refine loop_up (P := fun r t => L (d + 4) M_R_normalizerSize 6 [vA 161, vI many, vI r, vU, vU] [] t Q)
    (fun r t => 0 ≤ r ∧ RR t p n (lp (fun r X => bnd p n T (fun c => σ 172 (5 * r + c)) E X) 0 r E0) ∧ Off DI σ t) many ?_ ?_ 0 hm.1 s1 ⟨by omega, by rw [lp_nil (by omega)]; exact hR1, Off_mono hO1 (fun b j q => by unfold DI; omega)⟩
  · rintro t ⟨_, hRt, hO⟩
    have e27 : t 161 27 = n := (hR.di hO).2.2.1
    refine s_R_normalizerSize_6 ⟨fun _ => ?_, fun q => by omega⟩
    have hc : t 161 39 = cd (mvr p n T E E).1 n := (hRt.to (mvr_sel (by omega) hE)).1
    have hcb := cd_b (ℓ := (mvr p n T E E).1) (w := n) (by omega)
    rw [e27, hc, w32_id (by omega) (by omega)]
    exact h t hO
  · rintro r t hr ⟨r0, hRt, hO⟩ ih
    refine s_R_normalizerSize_6 ⟨fun q => by omega, fun _ => ?_⟩
    generalize hX : lp (fun r X => bnd p n T (fun c => σ 172 (5 * r + c)) E X) 0 r E0 = X at hRt
    refine loop_up (P := fun b t => L (d + 4) M_R_normalizerSize 13 [vA 161, vI many, vI r, vI b, vU] [] t Q)
      (fun b t2 => 0 ≤ b ∧ (∀ i k, 0 ≤ i → i < b → 0 ≤ k → k < n → t2 173 (5 * i + k) = rd p n E (br p n T (EU.2 i) (fun c => σ 172 (5 * r + c))) k) ∧ Off (fun b j => b = 173 ∨ b = 175 ∨ b = 178 ∨ b = 185) t t2) n ?_ ?_ 0 (by omega) t ⟨by omega, fun i k _ _ => by omega, Off_rfl⟩
    · rintro t2 ⟨_, hD, hO2⟩
      have hO2' : Off DI σ t2 := Off_trans hO (Off_mono hO2 (fun b j q => by unfold DI; omega))
      have e27 : t2 161 27 = n := (hR.di hO2').2.2.1
      refine s_R_normalizerSize_13 ⟨fun _ => ?_, fun q => by omega⟩
      refine loop_up (P := fun k t => L (d + 4) M_R_normalizerSize 108 [vA 161, vI many, vI r, vI k, vU] [] t Q)
        (fun k t3 => 0 ≤ k ∧ RR t3 p n (lp (fun k E' => ins p n E' (fun i => rd p n E (br p n T (EU.2 i) (fun c => σ 172 (5 * r + c))) k)) 0 k X) ∧ (∀ k', t3 173 k' = t2 173 k') ∧ Off DI σ t3) n ?_ ?_ 0 (by omega) t2 ⟨by omega, by rw [lp_nil (by omega)]; exact hRt.cg (hO2 161 39 (by omega)) (fun k => hO2 179 k (by omega)), fun _ => rfl, hO2'⟩
      · rintro t3 ⟨_, hR3, _, hO3⟩
        have e27 : t3 161 27 = n := (hR.di hO3).2.2.1
        refine s_R_normalizerSize_108 ⟨fun _ => ?_, fun q => by omega⟩
        rw [w32_id (by omega) (by omega)]
        exact ih t3 ⟨by omega, by rw [lp_succ r0, hX]; exact hR3, hO3⟩
      · rintro k t3 hk ⟨k0, hR3, h173, hO3⟩ ih3
        have e27 : t3 161 27 = n := (hR.di hO3).2.2.1
        refine s_R_normalizerSize_108 ⟨fun q => by omega, fun _ => ?_⟩
        refine loop_up (P := fun i t => L (d + 4) M_R_normalizerSize 119 [vA 161, vI many, vI r, vI k, vI i] [] t Q)
          (fun i t4 => 0 ≤ i ∧ (∀ c, 0 ≤ c → c < i → t4 180 c = rd p n E (br p n T (EU.2 c) (fun c => σ 172 (5 * r + c))) k) ∧ Off (fun b j => b = 180) t3 t4) n ?_ ?_ 0 (by omega) t3 ⟨by omega, fun c _ _ => by omega, Off_rfl⟩
        · rintro t4 ⟨_, hv, hO4⟩
          have hO4' : Off DI σ t4 := Off_trans hO3 (Off_mono hO4 (fun b j q => by unfold DI; omega))
          have e27 : t4 161 27 = n := (hR.di hO4').2.2.1
          refine s_R_normalizerSize_119 ⟨fun _ => ?_, fun q => by omega⟩
          rw [e27, w32_id (by omega) (by omega)]
          refine R_addEquation_s hR.1.1.pr (hR.di hO4').2.1 (by omega) (by omega) (hR3.cg (hO4 161 39 (by omega)) (fun k => hO4 179 k (by omega))) (fun c c0 c1 => by rw [hv c c0 c1]; exact rd_in (by omega)) (fun t5 hR5 hO5 => ih3 t5 ⟨by omega, ?_, fun k' => ?_, Off_trans hO4' (Off_mono hO5 (fun b j q => by unfold DI; omega))⟩)
          · rw [lp_succ k0]
            exact hR5.to (ESm.rfl'.insv (by omega) hv)
          · rw [hO5 173 _ (by omega), hO4 173 _ (by omega)]; exact h173 k'
        · rintro i t4 hi ⟨i0, hv, hO4⟩ ih4
          have hO4' : Off DI σ t4 := Off_trans hO3 (Off_mono hO4 (fun b j q => by unfold DI; omega))
          have e27 : t4 161 27 = n := (hR.di hO4').2.2.1
          refine s_R_normalizerSize_119 ⟨fun q => by omega, fun _ => ?_⟩
          have e173 : t4 173 (5 * i + k) = rd p n E (br p n T (EU.2 i) (fun c => σ 172 (5 * r + c))) k := by
            rw [hO4 173 _ (by omega), h173]; exact hD i k i0 hi k0 hk
          rw [w32_id (x := 5 * i) (by omega) (by omega), w32_id (x := 5 * i + k) (by omega) (by omega), w32_id (x := i + 1) (by omega) (by omega), e173]
          refine ⟨⟨by omega, by omega⟩, ⟨i0, by omega⟩, fun t5 e5 => ih4 t5 ⟨by omega, fun c c0 c1 => ?_, fun b j hb => by rw [e5, up_ne (by omega)]; exact hO4 b j hb⟩⟩
          by_cases hc : c = i
          · subst hc; rw [e5, up_same]
          · rw [e5, up_ne (by omega)]; exact hv c c0 (by omega)
    · rintro b t2 hb ⟨b0, hD, hO2⟩ ih2
      have hO2' : Off DI σ t2 := Off_trans hO (Off_mono hO2 (fun b j q => by unfold DI; omega))
      have hR2 := hR.di hO2'
      have e27 : t2 161 27 = n := hR2.2.2.1
      refine s_R_normalizerSize_13 ⟨fun q => by omega, fun _ => ?_⟩
      rw [w32_id (x := 5 * r) (by omega) (by omega)]
      refine R_unit_s hR2 (by omega) kd_175 (by omega) (by omega) (fun t3 hu hO3 => ?_)
      have hO3' : Off DI σ t3 := Off_trans hO2' (Off_mono hO3 (fun b j q => by unfold DI; omega))
      have hu2 : ∀ c, 0 ≤ c → c < n → t3 175 (0 + c) = EU.2 b c := fun c c0 c1 => by
        rw [show (0 : Int) + c = c by omega, hu c c0 c1]
        show _ = (if b = c then (1 : Int) else 0)
        by_cases e : c = b
        · rw [if_pos e, if_pos e.symm]
        · rw [if_neg e, if_neg (fun z => e z.symm)]
      have hub := (EWU (p := p) (w := n) b1 b b0 hb rfl).1
      have e172 : ∀ k, t3 172 k = σ 172 k := fun k => hO3' 172 k (by unfold DI; omega)
      refine R_bracketOf_s (hR.di hO3') kd_175 kd_172 (by omega) kd_178 (by omega) (by omega) (by omega) (by omega) (by omega) (by omega) (by omega) (by omega) (by omega) (by omega) (by omega) (by omega) (fun c c0 c1 => by rw [hu2 c c0 c1]; exact hub c c0 c1) (fun c c0 c1 => by rw [e172]; exact hE.rowi (by omega) r0 hr c c0 c1) (fun t4 hb4 hO4 => ?_)
      have hO4' : Off DI σ t4 := Off_trans hO3' (Off_mono hO4 (fun b j q => by unfold DI; omega))
      have hb5 : ∀ c, 0 ≤ c → c < n → t4 178 (0 + c) = br p n T (EU.2 b) (fun c => σ 172 (5 * r + c)) c := fun c c0 c1 => by
        rw [show (0 : Int) + c = c by omega, hb4 c c0 c1]
        exact br_cg hu2 (fun k _ _ => e172 _)
      refine R_reduce_s (hR.di hO4') (hE.cg (fun k => hO4' 172 k (by unfold DI; omega))) kd_172 (by omega) kd_178 (by omega) (by omega) (by omega) (by omega) (fun c c0 c1 => by rw [hb5 c c0 c1]; exact ⟨Int.emod_nonneg _ (by omega), Int.emod_lt_of_pos _ (by omega)⟩) (fun t5 hr5 hO5 => ?_)
      have hr6 : ∀ c, 0 ≤ c → c < n → t5 185 c = rd p n E (br p n T (EU.2 b) (fun c => σ 172 (5 * r + c))) c := fun c c0 c1 => by
        rw [hr5 c c0 c1]; exact rd_cg hb5 c0 c1
      have hO5' : Off (fun b j => b = 173 ∨ b = 175 ∨ b = 178 ∨ b = 185) t t5 := Off_trans hO2 (Off_trans (Off_mono hO3 (fun b j q => by omega)) (Off_trans (Off_mono hO4 (fun b j q => by omega)) (Off_mono hO5 (fun b j q => by omega))))
      have e173 : ∀ k, t5 173 k = t2 173 k := fun k => by rw [hO5 173 _ (by omega), hO4 173 _ (by omega), hO3 173 _ (by omega)]
      refine loop_up (P := fun k t => L (d + 4) M_R_normalizerSize 67 [vA 161, vI many, vI r, vI b, vI k] [] t Q)
        (fun k t6 => 0 ≤ k ∧ (∀ i k', 0 ≤ i → 0 ≤ k' → k' < n → (i < b ∨ (i = b ∧ k' < k)) → t6 173 (5 * i + k') = rd p n E (br p n T (EU.2 i) (fun c => σ 172 (5 * r + c))) k') ∧ (∀ c, t6 185 c = t5 185 c) ∧ Off (fun b j => b = 173 ∨ b = 175 ∨ b = 178 ∨ b = 185) t t6) n ?_ ?_ 0 (by omega) t5 ⟨by omega, fun i k' i0 k0 k1 g => by rw [e173]; exact hD i k' i0 (by omega) k0 k1, fun _ => rfl, hO5'⟩
      · rintro t6 ⟨_, h6, _, hO6⟩
        have e27 : t6 161 27 = n := (hR.di (Off_trans hO (Off_mono hO6 (fun b j q => by unfold DI; omega)))).2.2.1
        refine s_R_normalizerSize_67 ⟨fun _ => ?_, fun q => by omega⟩
        rw [w32_id (by omega) (by omega)]
        exact ih2 t6 ⟨by omega, fun i k' i0 i1 k0 k1 => h6 i k' i0 k0 k1 (by omega), hO6⟩
      · rintro k t6 hk ⟨k0, h6, h185, hO6⟩ ih6
        have e27 : t6 161 27 = n := (hR.di (Off_trans hO (Off_mono hO6 (fun b j q => by unfold DI; omega)))).2.2.1
        refine s_R_normalizerSize_67 ⟨fun q => by omega, fun _ => ?_⟩
        rw [w32_id (x := 5 * b) (by omega) (by omega), w32_id (x := 5 * b + k) (by omega) (by omega), w32_id (x := k + 1) (by omega) (by omega), h185, hr6 k k0 hk]
        refine ⟨⟨k0, by omega⟩, ⟨by omega, by omega⟩, fun t7 e7 => ih6 t7 ⟨by omega, fun i k' i0 k0' k1 g => ?_, fun c => by rw [e7, up_ne (by omega)]; exact h185 c, fun b j hb => by rw [e7, up_ne (by omega)]; exact hO6 b j hb⟩⟩
        by_cases hik : i = b ∧ k' = k
        · rw [hik.1, hik.2, e7, up_same]
        · rw [e7, up_ne (by omega)]; exact h6 i k' i0 k0' k1 (by omega)
theorem R_isSuch_s {p n many what : Int} {T : Int → Int} {E : ES} (hR : RW σ p n T) (hE : SP σ 172 many p n E) (hw : 0 ≤ what ∧ what ≤ 3) (h1 : ∀ σ', KD p n T what E → Off DI σ σ' → Q 1 σ') (h0 : ∀ σ', ¬ KD p n T what E → Off DI σ σ' → Q 0 σ') : Tri (d + 6) M_R_isSuch [vA 161, vI many, vI what] σ Q := by
  have hT := hR.1
  unfold KD at h1 h0
  rw [if_neg (show ¬ what = -1 by omega)] at h1 h0
  refine t_R_isSuch (fun _ _ => ⟨fun q => ?_, fun q => ?_⟩)
  · refine R_isPart_s hR hE (fun s hc hO => ⟨fun _ => ⟨fun q2 => ⟨fun q3 => ?_, fun q3 => ?_⟩, fun q2 => ?_⟩, fun z => by omega⟩) (fun s hc hO => ⟨fun z => by omega, fun _ => ?_⟩)
    · rw [if_neg q2, if_neg q, if_neg q3] at h1 h0
      have hO' : Off DI σ s := Off_mono hO (fun b j q => by unfold DI; omega)
      have hEs := hE.cg (fun k => hO 172 k (by omega))
      refine R_endsIn0_s (hR.di hO') hEs hc (fun s2 hz hO2 => ⟨fun z => by omega, fun _ => ?_⟩) (fun s2 hz hO2 => ⟨fun _ => h0 s2 (fun z => hz ?_) (Off_trans hO' (Off_mono hO2 (fun b j q => by unfold DI; omega))), fun z => by omega⟩)
      · have hO2' : Off DI σ s2 := Off_trans hO' (Off_mono hO2 (fun b j q => by unfold DI; omega))
        rw [ser_cgp (b := True) (by simp), hE.1] at hz
        refine R_normalizerSize_s (hR.di hO2') (hEs.cg (fun k => hO2 172 k (by omega))) (fun s3 hO3 => ⟨fun z => h0 s3 (fun z2 => z (by rw [hE.1]; exact z2.2.2)) (Off_trans hO2' hO3), fun z => h1 s3 ⟨hc, hz, by rw [← hE.1]; exact z⟩ (Off_trans hO2' hO3)⟩)
      · rw [ser_cgp (b := True) (by simp), hE.1]; exact z.2.1
    · rw [if_neg q2, if_neg q, if_pos q3] at h1 h0
      have hO' : Off DI σ s := Off_mono hO (fun b j q => by unfold DI; omega)
      refine R_isAbelianPart_s (hR.di hO') (hE.cg (fun k => hO 172 k (by omega))) (fun s2 hz hO2 => ⟨Or.inr rfl, h1 s2 hz (Off_trans hO' (Off_mono hO2 (fun b j q => by unfold DI; omega)))⟩) (fun s2 hz hO2 => ⟨Or.inl rfl, h0 s2 hz (Off_trans hO' (Off_mono hO2 (fun b j q => by unfold DI; omega)))⟩)
    · rw [if_pos q2] at h1
      exact h1 s hc (Off_mono hO (fun b j q => by unfold DI; omega))
    · by_cases g0 : what = 0
      · rw [if_pos g0] at h0
        exact h0 s hc (Off_mono hO (fun b j q => by unfold DI; omega))
      · rw [if_neg g0, if_neg q] at h0
        by_cases g2 : what = 2
        · rw [if_pos g2] at h0
          refine h0 s (fun z => hc (fun u v hu hv => ?_)) (Off_mono hO (fun b j q => by unfold DI; omega))
          exact In_zero (In_E0.mp (z u v hu hv))
        · rw [if_neg g2] at h0
          exact h0 s (fun z => hc z.1) (Off_mono hO (fun b j q => by unfold DI; omega))
  · rw [if_neg (by omega), if_pos q] at h1 h0
    exact R_isIdeal_s hR hE (fun s hc hO => ⟨Or.inr rfl, h1 s hc (Off_mono hO (fun b j q => by unfold DI; omega))⟩) (fun s hc hO => ⟨Or.inl rfl, h0 s hc (Off_mono hO (fun b j q => by unfold DI; omega))⟩)
theorem R_countSpans_s {p n z what : Int} {T : Int → Int} (hR : RW σ p n T) (hw : -1 ≤ what ∧ what ≤ 3) (h : ∀ σ', Off DM σ σ' → Q (TT p n z (fun m x => ind (KD p n T what (spn p n (tb m) x)))) σ') : Tri (d + 7) M_R_countSpans [vA 161, vI z, vI what] σ Q := by
  obtain ⟨b1, b2, b3, b4⟩ := hR.1.1.b
  have hp5 := pw5 (n := n) (by omega) b4
  have hFn : ∀ m x, 0 ≤ (fun m x => ind (KD p n T what (spn p n (tb m) x))) m x := fun m x => ind_nn.1
  have hTb := TT_ind_b (z := z) (G := fun m x => KD p n T what (spn p n (tb m) x)) hR.1.1
  refine t_R_countSpans (fun _ _ => ?_)
  refine loop_up (P := fun m (s : Int × SG) => L (d + 7) M_R_countSpans 5 [vA 161, vI z, vI what, vI s.1, vI m, vU, vU] [] s.2 Q)
    (fun m s => 0 ≤ m ∧ s.1 = SM p n z (fun m x => ind (KD p n T what (spn p n (tb m) x))) m 0 ∧ Off DM σ s.2) (2 ^ n.toNat) ?_ ?_ 0 (by omega) (0, σ) ⟨by omega, by unfold SM; rw [sR_nil (by omega), sR_nil (by omega)]; rfl, Off_rfl⟩
  · rintro ⟨c, t⟩ ⟨_, hc, hO⟩
    simp only at hc hO ⊢
    have e27 : t 161 27 = n := (hR.dm hO).2.2.1
    refine s_R_countSpans_5 ⟨fun _ => ?_, fun q => ?_⟩
    · rw [hc, SM_TT]; exact h t hO
    · rw [e27, shl1 (by omega) (by omega)] at q; omega
  · rintro m ⟨c, t⟩ hm ⟨m0, hc, hO⟩ ih
    simp only at hc hO ⊢
    have hRt := hR.dm hO
    have e27 : t 161 27 = n := hRt.2.2.1
    have hbn := bt_n m0 (by omega) b4 hm
    have hcb := SM0_le (p := p) (n := n) (z := z) hFn m0 (by omega)
    have hcd := cds_b hR.1.1 m0 hm
    refine s_R_countSpans_5 ⟨fun q => ?_, fun _ => ?_⟩
    · rw [e27, shl1 (by omega) (by omega)] at q; omega
    · refine R_lead_s hRt m0 hm (fun t2 hL hO2 => ?_)
      have hO2' : Off DM σ t2 := Off_trans hO (Off_mono hO2 (fun b j q => by unfold DM; omega))
      rw [hL.1, hL.2.1, hbn]
      refine ⟨fun hz => ?_, fun hz => ?_⟩
      · have hnext : ∀ t3 c', c' = SM p n z (fun m x => ind (KD p n T what (spn p n (tb m) x))) m (cds p n m) → Off DM σ t3 → L (d + 7) M_R_countSpans 5 [vA 161, vI z, vI what, vI c', vI (w32 (m + 1)), vU, vU] [] t3 Q := fun t3 c' hc' hO3 => by
          rw [w32_id (by omega) (by omega)]
          exact ih (c', t3) ⟨by omega, by simp only; rw [hc', SM_next m0 hz], hO3⟩
        have nb := nf25 (n := n) (ℓ := tb m) (m := n) b4 (by omega) (by omega)
        have hlast := SM0_le (p := p) (n := n) (z := z) hFn (show 0 ≤ m + 1 by omega) (by omega)
        rw [SM_next m0 hz] at hlast
        refine R_powerOf_s (hR.dm hO2').2.1 (by omega) nb.1 (by unfold cds at hcd; omega) ?_
        refine ⟨fun hw2 => ?_, fun hw2 => ?_⟩
        · refine loop_up (P := fun x (s : Int × SG) => L (d + 7) M_R_countSpans 59 [vA 161, vI z, vI what, vI s.1, vI m, vI (p ^ (nf n (tb m) n).toNat), vI x] [] s.2 Q)
            (fun x s => 0 ≤ x ∧ s.1 = SM p n z (fun m x => ind (KD p n T what (spn p n (tb m) x))) m x ∧ RL s.2 n m ∧ Off DM σ s.2) (cds p n m) ?_ ?_ 0 (by omega) (c, t2) ⟨by omega, hc, hL, hO2'⟩
          · rintro ⟨c2, t3⟩ ⟨_, hc2, _, hO3⟩
            simp only at hc2 hO3 ⊢
            exact s_R_countSpans_59 ⟨fun _ => hnext t3 c2 hc2 hO3, fun q => by unfold cds at q; omega⟩
          · rintro x ⟨c2, t3⟩ hx ⟨x0, hc2, hL3, hO3⟩ ih3
            simp only at hc2 hL3 hO3 ⊢
            have hsm := SM_le (p := p) (n := n) (z := z) hFn m0 hm hz x0 hx
            refine s_R_countSpans_59 ⟨fun q => by unfold cds at hx; omega, fun _ => ?_⟩
            refine R_spanBy_s (hR.dm hO3) m0 hm hL3 x0 (fun t4 hS4 hO4 => ?_)
            have hO4' : Off DM σ t4 := Off_trans hO3 (Off_mono hO4 (fun b j q => by unfold DM; omega))
            rw [hbn, hz] at hS4
            refine R_isSuch_s (hR.dm hO4') hS4 ⟨by omega, hw.2⟩ (fun t5 hk hO5 => ⟨fun q => by omega, fun _ => ?_⟩) (fun t5 hk hO5 => ⟨fun _ => ?_, fun q => by omega⟩)
            · have hi := ind_t hk
              rw [w32_id (by omega) (by omega), w32_id (by omega) (by omega)]
              exact ih3 (c2 + 1, t5) ⟨by omega, by simp only; rw [hsm.2.1, hc2, hi], hL3.cg (by show t5 161 59 = t3 161 59; rw [hO5 161 59 (by unfold DI; omega), hO4 161 59 (by omega)]) (by show t5 161 60 = t3 161 60; rw [hO5 161 60 (by unfold DI; omega), hO4 161 60 (by omega)]) (fun b k b0 b1 => by simp only; rw [hO5 b k (by unfold DI; omega), hO4 b k (by omega)]), Off_trans hO4' (Off_mono hO5 (fun b j q => by unfold DI at q; unfold DM; omega))⟩
            · have hi := ind_f hk
              rw [w32_id (by omega) (by omega), w32_id (by omega) (by omega)]
              exact ih3 (c2 + 0, t5) ⟨by omega, by simp only; rw [hsm.2.1, hc2, hi], hL3.cg (by show t5 161 59 = t3 161 59; rw [hO5 161 59 (by unfold DI; omega), hO4 161 59 (by omega)]) (by show t5 161 60 = t3 161 60; rw [hO5 161 60 (by unfold DI; omega), hO4 161 60 (by omega)]) (fun b k b0 b1 => by simp only; rw [hO5 b k (by unfold DI; omega), hO4 b k (by omega)]), Off_trans hO4' (Off_mono hO5 (fun b j q => by unfold DI at q; unfold DM; omega))⟩
        · have hall : SM p n z (fun m x => ind (KD p n T what (spn p n (tb m) x))) m (cds p n m) = c + cds p n m := by
            rw [hc]
            unfold SM
            rw [sR_nil (lo := 0) (hi := 0) (by omega), sR_congr (g := fun _ => 1) (fun k _ _ => ind_t (by unfold KD; rw [if_pos hw2]; trivial)), sR_const (by omega)]
            omega
          have e : p ^ (nf n (tb m) n).toNat = cds p n m := rfl
          rw [e, w32_id (x := c + cds p n m) (by omega) (by omega)]
          exact hnext t2 _ hall.symm hO2'
      · rw [w32_id (by omega) (by omega)]
        exact ih (c, t2) ⟨by omega, by simp only; rw [hc]; exact (SM_skip m0 (by omega) (fun k k0 k1 => by rw [show k = m by omega]; exact hz)).symm, hO2'⟩
theorem R_isAbelian_s {p n : Int} {T : Int → Int} (hR : RW σ p n T) (h1 : ∀ σ', cd (brk p n T EU EU).1 n = 0 → Off DM σ σ' → Q 1 σ') (h0 : ∀ σ', cd (brk p n T EU EU).1 n ≠ 0 → Off DM σ σ' → Q 0 σ') : Tri (d + 6) M_R_isAbelian [vA 161] σ Q :=
  t_R_isAbelian (R_seriesOf_s hR (by omega) (fun s hO => ⟨fun q => h0 s (fun z => q (by rw [show (1 : Int).toNat = 1 from rfl, ser1]; exact z)) hO, fun q => h1 s (by rw [show (1 : Int).toNat = 1 from rfl, ser1] at q; exact q) hO⟩))
theorem R_isSimple_s {p n : Int} {T : Int → Int} (hR : RW σ p n T) (h1 : ∀ σ', SIMR p n T → Off DM σ σ' → Q 1 σ') (h0 : ∀ σ', ¬ SIMR p n T → Off DM σ σ' → Q 0 σ') : Tri (d + 8) M_R_isSimple [vA 161] σ Q := by
  obtain ⟨b1, b2, b3, b4⟩ := hR.1.1.b
  refine t_R_isSimple (R_isAbelian_s hR (fun s hz hO => ⟨fun q => by omega, fun _ => h0 s (fun z => z.1 hz) hO⟩) (fun s hz hO => ⟨fun _ => ?_, fun q => by omega⟩))
  refine loop_up (P := fun z t => L (d + 8) M_R_isSimple 11 [vA 161, vI z] [] t Q)
    (fun z t => 1 ≤ z ∧ (∀ y, 1 ≤ y → y < z → TT p n y (fun m x => ind (KD p n T 1 (spn p n (tb m) x))) = 0) ∧ Off DM σ t) n ?_ ?_ 1 (by omega) s ⟨by omega, fun y _ _ => by omega, hO⟩
  · rintro t ⟨_, hall, hO2⟩
    have e27 : t 161 27 = n := (hR.dm hO2).2.2.1
    exact s_R_isSimple_11 ⟨fun _ => h1 t ⟨hz, hall⟩ hO2, fun q => by omega⟩
  · rintro z t hzn ⟨z0, hall, hO2⟩ ih
    have e27 : t 161 27 = n := (hR.dm hO2).2.2.1
    refine s_R_isSimple_11 ⟨fun q => by omega, fun _ => R_countSpans_s (hR.dm hO2) (by omega) (fun t2 hO3 => ⟨fun q => ?_, fun q => h0 t2 (fun y => ?_) (Off_trans hO2 hO3)⟩)⟩
    · rw [w32_id (by omega) (by omega)]
      refine ih t2 ⟨by omega, fun y y0 y1 => ?_, Off_trans hO2 hO3⟩
      by_cases g : y = z
      · subst g
        have := TT_nn (p := p) (n := n) (z := y) (F := fun m x => ind (KD p n T 1 (spn p n (tb m) x))) (fun _ _ => ind_nn.1)
        omega
      · exact hall y y0 (by omega)
    · have := y.2 z z0 hzn; omega
theorem R_isUnimodular_s {p n : Int} {T : Int → Int} (hR : RW σ p n T) (h1 : UNI p n T → Q 1 σ) (h0 : ¬ UNI p n T → Q 0 σ) : Tri (d + 3) M_R_isUnimodular [vA 161] σ Q := by
  obtain ⟨b1, b2, b3, b4⟩ := hR.1.1.b
  have e27 := hR.2.2.1
  have e26 := hR.2.1
  refine t_R_isUnimodular ?_
  refine loop_up (S := Unit) (P := fun i _ => L (d + 3) M_R_isUnimodular 2 [vA 161, vI i, vU, vU] [] σ Q)
    (fun i _ => 0 ≤ i ∧ ∀ j, 0 ≤ j → j < i → sR (fun b => T (25 * j + 5 * b + b)) 0 n % p = 0) n ?_ ?_ 0 (by omega) () ⟨by omega, fun j _ _ => by omega⟩
  · rintro _ ⟨_, hall⟩
    exact s_R_isUnimodular_2 ⟨fun _ => h1 hall, fun q => by omega⟩
  · rintro i _ hi ⟨i0, hall⟩ ih
    refine s_R_isUnimodular_2 ⟨fun q => by omega, fun _ => ?_⟩
    refine loop_up (P := fun b c => L (d + 3) M_R_isUnimodular 14 [vA 161, vI i, vI c, vI b] [] σ Q)
      (fun b c => 0 ≤ b ∧ (0 ≤ c ∧ c ≤ 7 * b) ∧ c = sR (fun b => T (25 * i + 5 * b + b)) 0 b) n ?_ ?_ 0 (by omega) 0 ⟨by omega, by omega, by rw [sR_nil (by omega)]⟩
    · rintro c ⟨_, hcb, hc⟩
      refine s_R_isUnimodular_14 ⟨fun _ => ?_, fun q => by omega⟩
      rw [e26, w32_id (by omega) (by omega), Int.tmod_eq_emod_of_nonneg hcb.1]
      refine ⟨by omega, fun q => ih () ⟨by omega, fun j j0 j1 => ?_⟩, fun q => h0 (fun z => q (by rw [hc]; exact z i i0 hi))⟩
      by_cases g : j = i
      · subst g; rw [← hc]; exact q
      · exact hall j j0 (by omega)
    · rintro b c hb ⟨b0, hcb, hc⟩ ih2
      refine s_R_isUnimodular_14 ⟨fun q => by omega, fun _ => R_table_s hR ⟨i0, by omega⟩ ⟨b0, by omega⟩ ⟨b0, by omega⟩ ?_⟩
      have := hR.1.2.1 (25 * i + 5 * b + b) (by omega) (by omega)
      rw [w32_id (by omega) (by omega), w32_id (by omega) (by omega)]
      exact ih2 _ ⟨by omega, by omega, by rw [sR_succ b0, hc]⟩
theorem R_isSo_s {p n what : Int} {T : Int → Int} (hR : RW σ p n T) (hw : 0 ≤ what ∧ what ≤ 5) (h1 : ∀ σ', SO p n T what → Off DM σ σ' → Q 1 σ') (h0 : ∀ σ', ¬ SO p n T what → Off DM σ σ' → Q 0 σ') : Tri (d + 9) M_R_isSo [vA 161, vI what] σ Q := by
  obtain ⟨b1, b2, b3, b4⟩ := hR.1.1.b
  have e27 := hR.2.2.1
  unfold SO at h1 h0
  refine t_R_isSo (fun _ => ⟨fun q => ?_, fun q => ?_, fun q => ?_, fun q => ?_, fun q => ?_, fun q => ?_⟩)
  · rw [if_neg (by omega), if_neg (by omega), if_neg (by omega), if_neg (by omega), if_neg (by omega)] at h1 h0
    exact R_isUnimodular_s hR (fun z => ⟨Or.inr rfl, h1 σ z Off_rfl⟩) (fun z => ⟨Or.inl rfl, h0 σ z Off_rfl⟩)
  · rw [if_pos q] at h1 h0
    exact R_isAbelian_s hR (fun s z hO => ⟨Or.inr rfl, h1 s z hO⟩) (fun s z hO => ⟨Or.inl rfl, h0 s z hO⟩)
  · rw [if_neg (by omega), if_pos q] at h1 h0
    rw [e27, w32_id (by omega) (by omega)]
    refine R_seriesOf_s hR (by omega) (fun s hO => ?_)
    rw [ser_cgp (b := True) (by simp)]
    exact ⟨fun z => h0 s z hO, fun z => h1 s z hO⟩
  · rw [if_neg (by omega), if_neg (by omega), if_pos q] at h1 h0
    rw [e27, w32_id (by omega) (by omega)]
    refine R_seriesOf_s hR (by omega) (fun s hO => ?_)
    rw [ser_cgp (b := False) (by simp)]
    exact ⟨fun z => h0 s z hO, fun z => h1 s z hO⟩
  · rw [if_neg (by omega), if_neg (by omega), if_neg (by omega), if_pos q] at h1 h0
    refine R_seriesOf_s hR (by omega) (fun s hO => ?_)
    rw [show (1 : Int).toNat = 1 from rfl, ser1, (hR.dm hO).2.2.1]
    exact ⟨fun z => h0 s z hO, fun z => h1 s z hO⟩
  · rw [if_neg (by omega), if_neg (by omega), if_neg (by omega), if_neg (by omega), if_pos q] at h1 h0
    exact R_isSimple_s hR (fun s z hO => ⟨Or.inr rfl, h1 s z hO⟩) (fun s z hO => ⟨Or.inl rfl, h0 s z hO⟩)
end RKD
