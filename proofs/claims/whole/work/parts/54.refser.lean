/-! ===== the model: centre, ranks, brackets of SPANS, series ===== -/
/-- what the model's reckoning may change -/
def DM (b j : Int) : Prop := (170 ≤ b ∧ b ≤ 194 ∧ b ≠ 184) ∨ (b = 161 ∧ (j = 39 ∨ j = 59 ∨ j = 60))
theorem RW.dm {σ σ' : SG} {p n : Int} {T : Int → Int} (h : RW σ p n T) (hO : Off DM σ σ') : RW σ' p n T := h.fr (fun k k0 k1 => hO 161 k (by unfold DM; omega)) (fun k => hO 166 k (by unfold DM; omega)) (fun k => hO 196 k (by unfold DM; omega))
theorem SP.cp {σ σ' : SG} {s s' many p n : Int} {E : ES} (h : SP σ s many p n E) (hn : n ≤ 5) (h1 : ∀ k, 0 ≤ k → k < 25 → σ' s' k = σ s k) : SP σ' s' many p n E := ⟨h.1, fun l c q1 q2 q3 q4 q5 => by
  have := cd_b (ℓ := E.1) q1
  rw [h1 _ (by omega) (by omega)]; exact h.2.1 l c q1 q2 q3 q4 q5, h.2.2⟩
theorem SP.rowb {σ : SG} {s many p n i : Int} {E : ES} (h : SP σ s many p n E) (hn : 0 ≤ n) (i0 : 0 ≤ i) (i1 : i < many) : ∃ l, 0 ≤ l ∧ l < n ∧ E.1 l = true ∧ cd E.1 l = i ∧ ∀ c, 0 ≤ c → c < n → σ s (5 * i + c) = E.2 l c ∧ 0 ≤ E.2 l c ∧ E.2 l c < p := by
  obtain ⟨l, l0, l1, l2, l3⟩ := cd_sel (ℓ := E.1) (w := n) hn i0 (by rw [← h.1]; exact i1)
  refine ⟨l, l0, l1, l2, l3, fun c c0 c1 => ⟨?_, (h.2.2 l l0 l1 l2).1 c c0 c1⟩⟩
  rw [← l3]; exact h.2.1 l c l0 l1 l2 c0 c1
theorem SP.rowi {σ : SG} {s many p n i : Int} {E : ES} (h : SP σ s many p n E) (hn : 0 ≤ n) (i0 : 0 ≤ i) (i1 : i < many) : ∀ c, 0 ≤ c → c < n → 0 ≤ σ s (5 * i + c) ∧ σ s (5 * i + c) < p := fun c c0 c1 => by
  obtain ⟨l, _, _, _, _, q⟩ := h.rowb hn i0 i1
  rw [(q c c0 c1).1]; exact (q c c0 c1).2
theorem SP.row {σ : SG} {s many p n l : Int} {E : ES} (h : SP σ s many p n E) (l0 : 0 ≤ l) (l1 : l < n) (hl : E.1 l = true) : ∀ c, 0 ≤ c → c < n → σ s (5 * cd E.1 l + c) = E.2 l c := fun c c0 c1 => h.2.1 l c l0 l1 hl c0 c1
theorem SP0 {σ : SG} {s p n : Int} : SP σ s 0 p n E0 := ⟨cd0.symm, ⟨fun l c _ _ hl => (by cases hl), EW0⟩⟩
/-- the brackets of the model's rows, one behind the other, are those by leads -/
theorem brk_sel {σ : SG} {a b ma mb p n : Int} {T : Int → Int} {A B : ES} (hn : 0 ≤ n) (hA : SP σ a ma p n A) (hB : SP σ b mb p n B) : ESm n (lp (fun i t => lp (fun j t => ins p n t (br p n T (fun c => σ a (5 * i + c)) (fun c => σ b (5 * j + c)))) 0 mb t) 0 ma E0) (brk p n T A B) := by
  rw [hA.1, lp_sel hn]
  unfold brk
  refine lp_rel (R := ESm n) ESm.rfl' (fun l t t' l0 l1 ht => ?_)
  by_cases hl : A.1 l = true
  · rw [if_pos hl, hB.1, lp_sel hn]
    refine lp_rel (R := ESm n) ht (fun m u u' m0 m1 hu => ?_)
    by_cases hm : B.1 m = true
    · rw [if_pos hm, if_pos ⟨hl, hm⟩]
      exact hu.insv hn (fun c c0 c1 => br_cg (fun i i0 i1 => hA.row l0 l1 hl i i0 i1) (fun i i0 i1 => hB.row m0 m1 hm i i0 i1))
    · rw [if_neg hm, if_neg (fun z => hm z.2)]; exact hu
  · rw [if_neg hl]
    refine lp_ind (P := fun _ u => ESm n t u) ht (fun m u m0 m1 hu => ?_) hn
    rw [if_neg (fun z => hl z.1)]; exact hu
/-- brackets with BASE vectors -/
theorem br_unit {p n i : Int} {T v : Int → Int} (i0 : 0 ≤ i) (i1 : i < n) {k : Int} : br p n T (EU.2 i) v k = sR (fun j => v j * T (25 * i + 5 * j + k)) 0 n % p := by
  unfold br
  rw [sR_one (l := i) i0 i1 (fun q q0 q1 hq => by
    apply sR_zero'
    intro j _ _
    show (if i = q then (1 : Int) else 0) * v j * _ = 0
    rw [if_neg (fun e => hq e.symm)]; simp)]
  congr 1
  apply sR_congr
  intro j _ _
  show (if i = i then (1 : Int) else 0) * v j * _ = _
  rw [if_pos rfl, Int.one_mul]
theorem br_units {p n i j k : Int} {T : Int → Int} (hT : TW p n T) (i0 : 0 ≤ i) (i1 : i < n) (j0 : 0 ≤ j) (j1 : j < n) (k0 : 0 ≤ k) (k1 : k < n) : br p n T (EU.2 i) (EU.2 j) k = T (25 * i + 5 * j + k) := by
  obtain ⟨b1, b2, b3, b4⟩ := hT.1.b
  rw [br_unit i0 i1, sR_one (l := j) j0 j1 (fun q q0 q1 hq => by
    show (if j = q then (1 : Int) else 0) * _ = 0
    rw [if_neg (fun e => hq e.symm)]; simp)]
  show (if j = j then (1 : Int) else 0) * _ % p = _
  rw [if_pos rfl, Int.one_mul]
  have := hT.2.1 (25 * i + 5 * j + k) (by omega) (by omega)
  exact Int.emod_eq_of_lt this.1 this.2
theorem rd_E0 {p w c : Int} {v : Int → Int} : rd p w E0 v c = v c % p := by
  unfold rd
  rw [sR_zero' (f := fun l => if E0.1 l = true then v l * E0.2 l c else 0) (fun k _ _ => rfl), Int.sub_zero]
def ctr (p n : Int) (T : Int → Int) : ES := lp (fun j E => lp (fun k E => ins p n E (fun i => T (25 * i + 5 * j + k))) 0 n E) 0 n E0
theorem ctr_mvr {p n : Int} {T : Int → Int} (hT : TW p n T) : ESm n (ctr p n T) (mvr p n T EU E0) := by
  obtain ⟨b1, b2, b3, b4⟩ := hT.1.b
  unfold ctr mvr
  refine lp_rel (R := ESm n) ESm.rfl' (fun l t t' l0 l1 ht => ?_)
  rw [if_pos (show EU.1 l = true from rfl)]
  unfold bnd
  refine lp_rel (R := ESm n) ht (fun k u u' k0 k1 hu => ?_)
  refine hu.insv (by omega) (fun i i0 i1 => ?_)
  rw [rd_E0, br_units hT i0 i1 l0 l1 k0 k1]
  have := hT.2.1 (25 * i + 5 * l + k) (by omega) (by omega)
  exact (Int.emod_eq_of_lt this.1 this.2).symm
/-- the span of the brackets with all BASE vectors -/
def rks (p n : Int) (T v : Int → Int) : ES := lp (fun i E => ins p n E (br p n T v (EU.2 i))) 0 n E0
section RSE
variable {d : Nat} {σ : SG} {Q : Int → SG → Prop}
theorem R_centreSize_s {p n : Int} {T : Int → Int} (hR : RW σ p n T) (h : ∀ σ', Off DM σ σ' → Q (n - cd (mvr p n T EU E0).1 n) σ') : Tri (d + 3) M_R_centreSize [vA 161] σ Q := by
  obtain ⟨b1, b2, b3, b4⟩ := hR.1.1.b
  have hT := hR.1
  refine t_R_centreSize (R_noRows_s (p := p) (w := n) (fun s1 hR1 hO1 => ?_))
  refine loop_up (P := fun j t => L (d + 3) M_R_centreSize 6 [vA 161, vI j, vU, vU] [] t Q)
    (fun j t => 0 ≤ j ∧ RR t p n (lp (fun j E => lp (fun k E => ins p n E (fun i => T (25 * i + 5 * j + k))) 0 n E) 0 j E0) ∧ Off DM σ t) n ?_ ?_ 0 (by omega) s1 ⟨by omega, by rw [lp_nil (by omega)]; exact hR1, Off_mono hO1 (fun b j q => by unfold DM; omega)⟩
  · rintro t ⟨_, hRt, hO⟩
    have e27 : t 161 27 = n := (hR.dm hO).2.2.1
    refine s_R_centreSize_6 ⟨fun _ => ?_, fun q => by omega⟩
    have hc : t 161 39 = cd (mvr p n T EU E0).1 n := (hRt.to (ctr_mvr hT)).1
    have hcb := cd_b (ℓ := (mvr p n T EU E0).1) (w := n) (by omega)
    rw [e27, hc, w32_id (by omega) (by omega)]
    exact h t hO
  · rintro j t hj ⟨j0, hRt, hO⟩ ih
    have e27 : t 161 27 = n := (hR.dm hO).2.2.1
    refine s_R_centreSize_6 ⟨fun q => by omega, fun _ => ?_⟩
    generalize hX : lp (fun j E => lp (fun k E => ins p n E (fun i => T (25 * i + 5 * j + k))) 0 n E) 0 j E0 = X at hRt
    refine loop_up (P := fun k t => L (d + 3) M_R_centreSize 16 [vA 161, vI j, vI k, vU] [] t Q)
      (fun k t => 0 ≤ k ∧ RR t p n (lp (fun k E => ins p n E (fun i => T (25 * i + 5 * j + k))) 0 k X) ∧ Off DM σ t) n ?_ ?_ 0 (by omega) t ⟨by omega, by rw [lp_nil (by omega)]; exact hRt, hO⟩
    · rintro t2 ⟨_, hR2, hO2⟩
      have e27 : t2 161 27 = n := (hR.dm hO2).2.2.1
      refine s_R_centreSize_16 ⟨fun _ => ?_, fun q => by omega⟩
      rw [w32_id (by omega) (by omega)]
      exact ih t2 ⟨by omega, by rw [lp_succ j0, hX]; exact hR2, hO2⟩
    · rintro k t2 hk ⟨k0, hR2, hO2⟩ ih2
      have e27 : t2 161 27 = n := (hR.dm hO2).2.2.1
      refine s_R_centreSize_16 ⟨fun q => by omega, fun _ => ?_⟩
      refine loop_up (P := fun i t => L (d + 3) M_R_centreSize 26 [vA 161, vI j, vI k, vI i] [] t Q)
        (fun i t3 => 0 ≤ i ∧ (∀ c, 0 ≤ c → c < i → t3 180 c = T (25 * c + 5 * j + k)) ∧ Off (fun b j => b = 180) t2 t3) n ?_ ?_ 0 (by omega) t2 ⟨by omega, fun c _ _ => by omega, Off_rfl⟩
      · rintro t3 ⟨_, hv, hO3⟩
        have hO3' : Off DM σ t3 := Off_trans hO2 (Off_mono hO3 (fun b j q => by unfold DM; omega))
        have e27 : t3 161 27 = n := (hR.dm hO3').2.2.1
        refine s_R_centreSize_26 ⟨fun _ => ?_, fun q => by omega⟩
        rw [e27, w32_id (by omega) (by omega)]
        refine R_addEquation_s hR.1.1.pr (hR.dm hO3').2.1 (by omega) (by omega) (hR2.cg (hO3 161 39 (by omega)) (fun k => hO3 179 k (by omega))) (fun c c0 c1 => by rw [hv c c0 c1]; exact hT.2.1 _ (by omega) (by omega)) (fun t4 hR4 hO4 => ih2 t4 ⟨by omega, ?_, Off_trans hO3' (Off_mono hO4 (fun b j q => by unfold DM; omega))⟩)
        rw [lp_succ k0]
        exact hR4.to (ESm.rfl'.insv (by omega) hv)
      · rintro i t3 hi ⟨i0, hv, hO3⟩ ih3
        have hO3' : Off DM σ t3 := Off_trans hO2 (Off_mono hO3 (fun b j q => by unfold DM; omega))
        have e27 : t3 161 27 = n := (hR.dm hO3').2.2.1
        refine s_R_centreSize_26 ⟨fun q => by omega, fun _ => ?_⟩
        refine R_table_s (hR.dm hO3') ⟨i0, by omega⟩ ⟨j0, by omega⟩ ⟨k0, by omega⟩ ⟨⟨i0, by omega⟩, fun t4 e4 => ?_⟩
        rw [w32_id (by omega) (by omega)]
        refine ih3 t4 ⟨by omega, fun c c0 c1 => ?_, fun b j hb => by rw [e4, up_ne (by omega)]; exact hO3 b j hb⟩
        by_cases hc : c = i
        · subst hc; rw [e4, up_same]
        · rw [e4, up_ne (by omega)]; exact hv c c0 (by omega)
theorem R_rankOf_s {p n x : Int} {T : Int → Int} (hR : RW σ p n T) (hx : 0 ≤ x) (h : ∀ σ', Off DM σ σ' → Q (cd (rks p n T (dg p x)).1 n) σ') : Tri (d + 4) M_R_rankOf [vA 161, vI x] σ Q := by
  obtain ⟨b1, b2, b3, b4⟩ := hR.1.1.b
  refine t_R_rankOf (fun _ => R_parts2_s hR (by omega) kd_175 (by omega) (by omega) (by omega) (by omega) hx (fun s1 hx1 hO1 => ?_))
  refine loop_up (P := fun i (s : Int × SG) => L (d + 4) M_R_rankOf 14 [vA 161, vU, vI s.1, vI i] [] s.2 Q)
    (fun i s => 0 ≤ i ∧ SP s.2 171 s.1 p n (lp (fun i E => ins p n E (br p n T (dg p x) (EU.2 i))) 0 i E0) ∧ (∀ c, 0 ≤ c → c < n → s.2 175 c = dg p x c) ∧ Off DM σ s.2) n ?_ ?_ 0 (by omega) (0, s1) ⟨by omega, by rw [lp_nil (by omega)]; exact SP0, fun c c0 c1 => by have := hx1 c c0 c1; rwa [show (0 : Int) + c = c by omega] at this, Off_mono hO1 (fun b j q => by unfold DM; omega)⟩
  · rintro ⟨m, t⟩ ⟨_, hS, _, hO⟩
    simp only at hS hO ⊢
    have e27 : t 161 27 = n := (hR.dm hO).2.2.1
    refine s_R_rankOf_14 ⟨fun _ => ?_, fun q => by omega⟩
    rw [hS.1]; exact h t hO
  · rintro i ⟨m, t⟩ hi ⟨i0, hS, hv, hO⟩ ih
    simp only at hS hv hO ⊢
    have hRt := hR.dm hO
    have e27 : t 161 27 = n := hRt.2.2.1
    refine s_R_rankOf_14 ⟨fun q => by omega, fun _ => ?_⟩
    refine R_unit_s hRt (by omega) kd_176 (by omega) (by omega) (fun t2 hu hO2 => ?_)
    have hO2' : Off DM σ t2 := Off_trans hO (Off_mono hO2 (fun b j q => by unfold DM; omega))
    have hv2 : ∀ c, 0 ≤ c → c < n → t2 175 (0 + c) = dg p x c := fun c c0 c1 => by rw [show (0 : Int) + c = c by omega, hO2 175 c (by omega)]; exact hv c c0 c1
    have hu2 : ∀ c, 0 ≤ c → c < n → t2 176 (0 + c) = EU.2 i c := fun c c0 c1 => by
      rw [show (0 : Int) + c = c by omega, hu c c0 c1]
      show _ = (if i = c then (1 : Int) else 0)
      by_cases e : c = i
      · rw [if_pos e, if_pos e.symm]
      · rw [if_neg e, if_neg (fun z => e z.symm)]
    have hub := (EWU (p := p) (w := n) b1 i i0 hi rfl).1
    refine R_bracketOf_s (hR.dm hO2') kd_175 kd_176 (by omega) kd_177 (by omega) (by omega) (by omega) (by omega) (by omega) (by omega) (by omega) (by omega) (by omega) (by omega) (by omega) (by omega) (fun c c0 c1 => by rw [hv2 c c0 c1]; exact dg_in b1) (fun c c0 c1 => by rw [hu2 c c0 c1]; exact hub c c0 c1) (fun t3 hb hO3 => ?_)
    have hO3' : Off DM σ t3 := Off_trans hO2' (Off_mono hO3 (fun b j q => by unfold DM; omega))
    have hb3 : ∀ c, 0 ≤ c → c < n → t3 177 (0 + c) = br p n T (dg p x) (EU.2 i) c := fun c c0 c1 => by
      rw [show (0 : Int) + c = c by omega, hb c c0 c1]
      exact br_cg hv2 hu2
    refine R_join_s (hR.dm hO3') (hS.cg (fun k => (hO3 171 k (by omega)).trans (hO2 171 k (by omega)))) kd_171 (by omega) (by omega) (by omega) (by omega) (by omega) kd_177 (by omega) (by omega) (by omega) (by omega) (fun c c0 c1 => by rw [hb3 c c0 c1]; exact ⟨Int.emod_nonneg _ (by omega), Int.emod_lt_of_pos _ (by omega)⟩) (fun r t4 hS4 _ hO4 => ?_)
    rw [w32_id (by omega) (by omega)]
    refine ih (r, t4) ⟨by omega, ?_, fun c c0 c1 => ?_, Off_trans hO3' (Off_mono hO4 (fun b j q => by unfold DM; omega))⟩
    · rw [lp_succ i0]
      exact hS4.to (ESm.rfl'.insv (by omega) hb3)
    · simp only
      rw [hO4 175 c (by omega), hO3 175 c (by omega)]
      have := hv2 c c0 c1
      rwa [show (0 : Int) + c = c by omega] at this
theorem R_brackets_s {p n a ma b mb o : Int} {T : Int → Int} {A B : ES} (hR : RW σ p n T) (hA : SP σ a ma p n A) (hB : SP σ b mb p n B) (hka : kd a = (100, 25)) (hkb : kd b = (100, 25)) (hko : kd o = (100, 25)) (ha : 170 ≤ a ∧ a ≤ 174) (hb : 170 ≤ b ∧ b ≤ 174) (ho : 170 ≤ o ∧ o ≤ 174) (hoa : o ≠ a) (hob : o ≠ b)
    (h : ∀ r σ', SP σ' o r p n (brk p n T A B) → Off (fun c j => c = 178 ∨ c = 185 ∨ c = o) σ σ' → Q r σ') : Tri (d + 4) M_R_brackets [vA 161, vA a, vI ma, vA b, vI mb, vA o] σ Q := by
  obtain ⟨b1, b2, b3, b4⟩ := hR.1.1.b
  have hma := hA.b (show 0 ≤ n by omega)
  have hmb := hB.b (show 0 ≤ n by omega)
  refine t_R_brackets (fun _ _ => ?_)
  refine loop_up (P := fun i (s : Int × SG) => L (d + 4) M_R_brackets 6 [vA 161, vA a, vI ma, vA b, vI mb, vA o, vI s.1, vI i, vU] [] s.2 Q)
    (fun i s => 0 ≤ i ∧ SP s.2 o s.1 p n (lp (fun i t => lp (fun j t => ins p n t (br p n T (fun c => σ a (5 * i + c)) (fun c => σ b (5 * j + c)))) 0 mb t) 0 i E0) ∧ Off (fun c j => c = 178 ∨ c = 185 ∨ c = o) σ s.2) ma ?_ ?_ 0 hma.1 (0, σ) ⟨by omega, by rw [lp_nil (by omega)]; exact SP0, Off_rfl⟩
  · rintro ⟨m, t⟩ ⟨_, hS, hO⟩
    simp only at hS hO ⊢
    exact s_R_brackets_6 ⟨fun _ => h m t (hS.to (brk_sel (by omega) hA hB)) hO, fun q => by omega⟩
  · rintro i ⟨m, t⟩ hi ⟨i0, hS, hO⟩ ih
    simp only at hS hO ⊢
    refine s_R_brackets_6 ⟨fun q => by omega, fun _ => ?_⟩
    generalize hX : lp (fun i t => lp (fun j t => ins p n t (br p n T (fun c => σ a (5 * i + c)) (fun c => σ b (5 * j + c)))) 0 mb t) 0 i E0 = X at hS
    refine loop_up (P := fun j (s : Int × SG) => L (d + 4) M_R_brackets 15 [vA 161, vA a, vI ma, vA b, vI mb, vA o, vI s.1, vI i, vI j] [] s.2 Q)
      (fun j s => 0 ≤ j ∧ SP s.2 o s.1 p n (lp (fun j t => ins p n t (br p n T (fun c => σ a (5 * i + c)) (fun c => σ b (5 * j + c)))) 0 j X) ∧ Off (fun c j => c = 178 ∨ c = 185 ∨ c = o) σ s.2) mb ?_ ?_ 0 hmb.1 (m, t) ⟨by omega, by rw [lp_nil (by omega)]; exact hS, hO⟩
    · rintro ⟨m2, t2⟩ ⟨_, hS2, hO2⟩
      simp only at hS2 hO2 ⊢
      refine s_R_brackets_15 ⟨fun _ => ?_, fun q => by omega⟩
      rw [w32_id (by omega) (by omega)]
      exact ih (m2, t2) ⟨by omega, by rw [lp_succ i0, hX]; exact hS2, hO2⟩
    · rintro j ⟨m2, t2⟩ hj ⟨j0, hS2, hO2⟩ ih2
      simp only at hS2 hO2 ⊢
      have hR2 : RW t2 p n T := hR.fr (fun k _ _ => hO2 161 k (by omega)) (fun k => hO2 166 k (by omega)) (fun k => hO2 196 k (by omega))
      refine s_R_brackets_15 ⟨fun q => by omega, fun _ => ?_⟩
      rw [w32_id (x := 5 * i) (by omega) (by omega), w32_id (x := 5 * j) (by omega) (by omega), w32_id (x := j + 1) (by omega) (by omega)]
      have ea : ∀ c, t2 a (5 * i + c) = σ a (5 * i + c) := fun c => hO2 a _ (by omega)
      have eb : ∀ c, t2 b (5 * j + c) = σ b (5 * j + c) := fun c => hO2 b _ (by omega)
      refine R_bracketOf_s hR2 hka hkb (by omega) kd_178 (by omega) (by omega) (by omega) (by omega) (by omega) (by omega) (by omega) (by omega) (by omega) (by omega) (by omega) (by omega) (fun c c0 c1 => by rw [ea]; exact hA.rowi (by omega) i0 hi c c0 c1) (fun c c0 c1 => by rw [eb]; exact hB.rowi (by omega) j0 hj c c0 c1) (fun t3 hb3 hO3 => ?_)
      have hb4 : ∀ c, 0 ≤ c → c < n → t3 178 (0 + c) = br p n T (fun c => σ a (5 * i + c)) (fun c => σ b (5 * j + c)) c := fun c c0 c1 => by
        rw [show (0 : Int) + c = c by omega, hb3 c c0 c1]
        exact br_cg (fun k _ _ => ea k) (fun k _ _ => eb k)
      refine R_join_s (hR2.fr (fun k _ _ => hO3 161 k (by omega)) (fun k => hO3 166 k (by omega)) (fun k => hO3 196 k (by omega))) (hS2.cg (fun k => hO3 o k (by omega))) hko (by omega) (by omega) (by omega) (by omega) (by omega) kd_178 (by omega) (by omega) (by omega) (by omega) (fun c c0 c1 => by rw [hb4 c c0 c1]; exact ⟨Int.emod_nonneg _ (by omega), Int.emod_lt_of_pos _ (by omega)⟩) (fun r t4 hS4 _ hO4 => ?_)
      refine ih2 (r, t4) ⟨by omega, ?_, Off_trans hO2 (Off_trans (Off_mono hO3 (fun b j q => by omega)) (Off_mono hO4 (fun b j q => by omega)))⟩
      rw [lp_succ j0]
      exact hS4.to (ESm.rfl'.insv (by omega) hb4)
theorem R_seriesOf_s {p n k lo : Int} {T : Int → Int} (hR : RW σ p n T) (hk : 0 ≤ k ∧ k ≤ 9) (h : ∀ σ', Off DM σ σ' → Q (cd (ser p n T (lo ≠ 0) EU k.toNat).1 n) σ') : Tri (d + 5) M_R_seriesOf [vA 161, vI k, vI lo] σ Q := by
  obtain ⟨b1, b2, b3, b4⟩ := hR.1.1.b
  refine t_R_seriesOf (fun _ _ => R_wholeSpan_s hR kd_170 (by omega) (by omega) (fun s1 hS1 hO1 => ?_))
  refine loop_up (P := fun i (s : Int × SG) => L (d + 5) M_R_seriesOf 12 [vA 161, vI k, vI lo, vI s.1, vI i, vU] [] s.2 Q)
    (fun i s => 0 ≤ i ∧ SP s.2 170 s.1 p n (ser p n T (lo ≠ 0) EU i.toNat) ∧ Off DM σ s.2) k ?_ ?_ 0 hk.1 (n, s1) ⟨by omega, hS1, Off_mono hO1 (fun b j q => by unfold DM; omega)⟩
  · rintro ⟨m, t⟩ ⟨_, hS, hO⟩
    simp only at hS hO ⊢
    refine s_R_seriesOf_12 ⟨fun _ => ?_, fun q => by omega⟩
    rw [hS.1]; exact h t hO
  · rintro i ⟨m, t⟩ hi ⟨i0, hS, hO⟩ ih
    simp only at hS hO ⊢
    have step : ∀ t2 m2, SP t2 174 m2 p n (if lo ≠ 0 then EU else ser p n T (lo ≠ 0) EU i.toNat) → SP t2 170 m p n (ser p n T (lo ≠ 0) EU i.toNat) → Off DM σ t2 → L (d + 5) M_R_seriesOf 52 [vA 161, vI k, vI lo, vI m, vI i, vI m2] [] t2 Q := fun t2 m2 hB hA hO2 => by
      refine s_R_seriesOf_52 (R_brackets_s (hR.dm hO2) hA hB kd_170 kd_174 kd_171 (by omega) (by omega) (by omega) (by omega) (by omega) (fun r t3 hS3 hO3 => ?_))
      refine R_copySpan_s kd_171 kd_170 (by omega) (by omega) (fun t4 hc hO4 => ?_)
      rw [w32_id (by omega) (by omega)]
      refine ih (r, t4) ⟨by omega, ?_, Off_trans hO2 (Off_trans (Off_mono hO3 (fun b j q => by unfold DM; omega)) (Off_mono hO4 (fun b j q => by unfold DM; omega)))⟩
      rw [show (i + 1).toNat = i.toNat + 1 by omega]
      exact hS3.cp b4 hc
    refine s_R_seriesOf_12 ⟨fun q => by omega, fun _ => ⟨fun q => ⟨fun q2 => absurd q q2, fun _ => ?_⟩, fun q => ?_⟩⟩
    · refine R_copySpan_s kd_170 kd_174 (by omega) (by omega) (fun t2 hc hO2 => step t2 m ?_ (hS.cg (fun k => hO2 170 k (by omega))) (Off_trans hO (Off_mono hO2 (fun b j q => by unfold DM; omega))))
      rw [if_neg (by omega)]
      exact hS.cp b4 hc
    · refine R_wholeSpan_s (hR.dm hO) kd_174 (by omega) (by omega) (fun t2 hS2 hO2 => ⟨fun _ => step t2 n ?_ (hS.cg (fun k => hO2 170 k (by omega))) (Off_trans hO (Off_mono hO2 (fun b j q => by unfold DM; omega))), fun q2 => absurd q2 q⟩)
      rw [if_pos q]; exact hS2
end RSE
