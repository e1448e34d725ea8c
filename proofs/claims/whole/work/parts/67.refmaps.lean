/-! ===== the model's search for MAPS ===== -/
/-- the source's TABLE -/
def SRC (σ : SG) (p n : Int) (T1 : Int → Int) : Prop := TW p n T1 ∧ σ 161 64 = 166 ∧ 0 ≤ σ 161 65 ∧ σ 161 65 + 127 ≤ 3440 ∧ ∀ t, 0 ≤ t → t < 125 → σ 166 (σ 161 65 + 2 + t) = T1 t
def SPo (σ : SG) (s o many p n : Int) (E : ES) : Prop := many = cd E.1 n ∧ (∀ l c, 0 ≤ l → l < n → E.1 l = true → 0 ≤ c → c < n → σ s (o + (5 * cd E.1 l + c)) = E.2 l c) ∧ EW p n E
/-- what the search from a level on may change -/
def DG (l b j : Int) : Prop := (b = 161 ∧ (j = 43 ∨ j = 45 ∨ j = 46)) ∨ b = 171 ∨ b = 178 ∨ b = 185 ∨ (b = 181 ∧ 5 * l ≤ j) ∨ (b = 182 ∧ 25 * l + 25 ≤ j) ∨ (b = 183 ∧ l + 1 ≤ j)
def b2i (b : Bool) : Int := if b = true then 1 else 0
section RMP
variable {d : Nat} {σ : SG} {Q : Int → SG → Prop}
theorem RW.dg {σ σ' : SG} {p n l : Int} {T : Int → Int} (h : RW σ p n T) (hO : Off (DG l) σ σ') : RW σ' p n T := h.fr (fun k k0 k1 => hO 161 k (by unfold DG; omega)) (fun k => hO 166 k (by unfold DG; omega)) (fun k => hO 196 k (by unfold DG; omega))
theorem SRC.dg {σ σ' : SG} {p n l : Int} {T : Int → Int} (h : SRC σ p n T) (hO : Off (DG l) σ σ') : SRC σ' p n T := by
  obtain ⟨a1, a2, a3, a4, a5⟩ := h
  have e64 : σ' 161 64 = σ 161 64 := hO 161 64 (by unfold DG; omega)
  have e65 : σ' 161 65 = σ 161 65 := hO 161 65 (by unfold DG; omega)
  exact ⟨a1, e64.trans a2, by rw [e65]; exact a3, by rw [e65]; exact a4, fun t t0 t1 => by rw [e65, hO 166 _ (by unfold DG; omega)]; exact a5 t t0 t1⟩
theorem R_sourceTable_s {p n i j k : Int} {T1 : Int → Int} (hS : SRC σ p n T1) (hi : 0 ≤ i ∧ i < 5) (hj : 0 ≤ j ∧ j < 5) (hk : 0 ≤ k ∧ k < 5) (h : Q (T1 (25 * i + 5 * j + k)) σ) : Tri (d + 2) M_R_sourceTable [vA 161, vI i, vI j, vI k] σ Q := by
  obtain ⟨a1, a2, a3, a4, a5⟩ := hS
  refine t_R_sourceTable (fun _ _ _ => R_cell_s hi hj hk ?_)
  rw [a2, w32_id (by omega) (by omega), show σ 161 65 + (2 + 25 * i + 5 * j + k) = σ 161 65 + 2 + (25 * i + 5 * j + k) by omega, a5 _ (by omega) (by omega)]
  exact ⟨rd_of kd_166 (by omega) (by omega), h⟩
theorem R_isMapSoFar_s {p n l : Int} {T1 T2 xs : Int → Int} (hR : RW σ p n T2) (hS : SRC σ p n T1) (l0 : 0 ≤ l) (ln : l < n) (him : ∀ i k, 0 ≤ i → i ≤ l → 0 ≤ k → k < n → σ 181 (5 * i + k) = dg p (xs i) k)
    (h1 : ∀ σ', (∀ i j, 0 ≤ i → i < j → j ≤ l → DU n T1 i j l → AG p n T1 T2 xs i j l) → Off (fun b j => b = 178) σ σ' → Q 1 σ') (h0 : ∀ σ', ¬ (∀ i j, 0 ≤ i → i < j → j ≤ l → DU n T1 i j l → AG p n T1 T2 xs i j l) → Off (fun b j => b = 178) σ σ' → Q 0 σ') : Tri (d + 4) M_R_isMapSoFar [vA 161, vI l] σ Q := by
  obtain ⟨b1, b2, b3, b4⟩ := hR.1.1.b
  have rcg : ∀ t, Off (fun b j => b = 178) σ t → RW t p n T2 := fun t ht => hR.fr (fun k _ _ => ht 161 k (by omega)) (fun k => ht 166 k (by omega)) (fun k => ht 196 k (by omega))
  have scg : ∀ t, Off (fun b j => b = 178) σ t → SRC t p n T1 := fun t ht => hS.dg (l := 0) (Off_mono ht (fun b j q => by unfold DG; omega))
  refine t_R_isMapSoFar (fun _ => ?_)
  refine loop_up (P := fun i t => L (d + 4) M_R_isMapSoFar 2 [vA 161, vI l, vI i, vU, vU, vU, vU, vU] [] t Q)
    (fun i t => 0 ≤ i ∧ (∀ i' j, 0 ≤ i' → i' < i → i' < j → j ≤ l → DU n T1 i' j l → AG p n T1 T2 xs i' j l) ∧ Off (fun b j => b = 178) σ t) (l + 1) ?_ ?_ 0 (by omega) σ ⟨by omega, fun i' j _ _ => by omega, Off_rfl⟩
  · rintro t ⟨_, hall, hO⟩
    exact s_R_isMapSoFar_2 ⟨fun _ => h1 t (fun i j i0 ij jl hd => hall i j i0 (by omega) ij jl hd) hO, fun q => by omega⟩
  · rintro i t hi ⟨i0, hall, hO⟩ ih
    refine s_R_isMapSoFar_2 ⟨fun q => by omega, fun _ => ?_⟩
    rw [w32_id (by omega) (by omega)]
    refine loop_up (P := fun j t => L (d + 4) M_R_isMapSoFar 11 [vA 161, vI l, vI i, vI j, vU, vU, vU, vU] [] t Q)
      (fun j t => i + 1 ≤ j ∧ (∀ j', i < j' → j' < j → DU n T1 i j' l → AG p n T1 T2 xs i j' l) ∧ Off (fun b j => b = 178) σ t) (l + 1) ?_ ?_ (i + 1) (by omega) t ⟨by omega, fun j' _ _ => by omega, hO⟩
    · rintro t2 ⟨_, hall2, hO2⟩
      refine s_R_isMapSoFar_11 ⟨fun _ => ?_, fun q => by omega⟩
      rw [w32_id (by omega) (by omega)]
      refine ih t2 ⟨by omega, fun i' j q0 q1 q2 q3 hd => ?_, hO2⟩
      by_cases g : i' = i
      · subst g; exact hall2 j q2 (by omega) hd
      · exact hall i' j q0 (by omega) q2 q3 hd
    · rintro j t2 hj ⟨j0, hall2, hO2⟩ ih2
      have hR2 := rcg t2 hO2
      have hS2 := scg t2 hO2
      have e27 := hR2.2.2.1
      refine s_R_isMapSoFar_11 ⟨fun q => by omega, fun _ => ?_⟩
      rw [w32_id (by omega) (by omega)]
      have skip : ¬ DU n T1 i j l → L (d + 4) M_R_isMapSoFar 11 [vA 161, vI l, vI i, vI (w32 (j + 1)), vU, vU, vU, vU] [] t2 Q := fun hd => by
        rw [w32_id (by omega) (by omega)]
        refine ih2 t2 ⟨by omega, fun j' q0 q1 hd' => ?_, hO2⟩
        by_cases g : j' = j
        · subst g; exact absurd hd' hd
        · exact hall2 j' q0 (by omega) hd'
      refine loop_up (P := fun k w => L (d + 4) M_R_isMapSoFar 24 [vA 161, vI l, vI i, vI j, vI w, vI k, vU, vU] [] t2 Q)
        (fun k w => l + 1 ≤ k ∧ ((w = 1 ∧ ∀ q, l < q → q < k → T1 (25 * i + 5 * j + q) = 0) ∨ (w = 0 ∧ ¬ DU n T1 i j l))) n ?_ ?_ (l + 1) (by omega) 1 ⟨by omega, Or.inl ⟨rfl, fun q _ _ => by omega⟩⟩
      · rintro w ⟨_, hw⟩
        refine s_R_isMapSoFar_24 ⟨fun _ => ⟨fun q => ?_, fun q => ?_⟩, fun q => by omega⟩
        · have hd : DU n T1 i j l := by rcases hw with ⟨_, g⟩ | ⟨g, _⟩; exact g; exact absurd g q
          rw [w32_id (x := 5 * i) (by omega) (by omega), w32_id (x := 5 * j) (by omega) (by omega)]
          have hi1 : ∀ c, 0 ≤ c → c < n → t2 181 (5 * i + c) = dg p (xs i) c := fun c c0 c1 => by rw [hO2 181 _ (by omega)]; exact him i c i0 (by omega) c0 c1
          have hj1 : ∀ c, 0 ≤ c → c < n → t2 181 (5 * j + c) = dg p (xs j) c := fun c c0 c1 => by rw [hO2 181 _ (by omega)]; exact him j c (by omega) (by omega) c0 c1
          refine R_bracketOf_s hR2 kd_181 kd_181 (by omega) kd_178 (by omega) (by omega) (by omega) (by omega) (by omega) (by omega) (by omega) (by omega) (by omega) (by omega) (by omega) (by omega) (fun c c0 c1 => by rw [hi1 c c0 c1]; exact dg_in b1) (fun c c0 c1 => by rw [hj1 c c0 c1]; exact dg_in b1) (fun t3 hb hO3 => ?_)
          have hO3' : Off (fun b j => b = 178) σ t3 := Off_trans hO2 (Off_mono hO3 (fun b j q => by omega))
          have hb3 : ∀ c, 0 ≤ c → c < n → t3 178 c = br p n T2 (dg p (xs i)) (dg p (xs j)) c := fun c c0 c1 => by rw [hb c c0 c1]; exact br_cg hi1 hj1
          have hR3 := rcg t3 hO3'
          have hS3 := scg t3 hO3'
          have e273 := hR3.2.2.1
          refine loop_up (S := Unit) (P := fun m _ => L (d + 4) M_R_isMapSoFar 95 [vA 161, vI l, vI i, vI j, vU, vI m, vU, vU] [] t3 Q)
            (fun m _ => 0 ≤ m ∧ ∀ m', 0 ≤ m' → m' < m → br p n T2 (dg p (xs i)) (dg p (xs j)) m' = sR (fun k => T1 (25 * i + 5 * j + k) * dg p (xs k) m') 0 (l + 1) % p) n ?_ ?_ 0 (by omega) () ⟨by omega, fun m' _ _ => by omega⟩
          · rintro _ ⟨_, hm⟩
            refine s_R_isMapSoFar_95 ⟨fun _ => ?_, fun z => by omega⟩
            rw [w32_id (by omega) (by omega)]
            refine ih2 t3 ⟨by omega, fun j' q0 q1 hd' => ?_, hO3'⟩
            by_cases g : j' = j
            · subst g; exact hm
            · exact hall2 j' q0 (by omega) hd'
          · rintro m _ hm ⟨m0, hmz⟩ ih4
            refine s_R_isMapSoFar_95 ⟨fun z => by omega, fun _ => ?_⟩
            refine loop_up (P := fun k v => L (d + 4) M_R_isMapSoFar 110 [vA 161, vI l, vI i, vI j, vU, vI m, vI v, vI k] [] t3 Q)
              (fun k v => 0 ≤ k ∧ (0 ≤ v ∧ v ≤ 36 * k) ∧ v = sR (fun k => T1 (25 * i + 5 * j + k) * dg p (xs k) m) 0 k) (l + 1) ?_ ?_ 0 (by omega) 0 ⟨by omega, by omega, by rw [sR_nil (by omega)]⟩
            · rintro v ⟨_, hvb, hv⟩
              refine s_R_isMapSoFar_110 ⟨fun _ => ?_, fun z => by omega⟩
              rw [hR3.2.1, hb3 m m0 hm, Int.tmod_eq_emod_of_nonneg hvb.1, w32_id (by omega) (by omega)]
              refine ⟨by omega, ⟨m0, by omega⟩, fun z => ih4 () ⟨by omega, fun m' q0 q1 => ?_⟩, fun z => h0 t3 (fun hall3 => z ?_) hO3'⟩
              · by_cases g : m' = m
                · subst g; rw [← hv]; exact z.symm
                · exact hmz m' q0 (by omega)
              · rw [hv]; exact (hall3 i j i0 (by omega) (by omega) hd m m0 hm).symm
            · rintro k v hk ⟨k0, hvb, hv⟩ ih5
              have hTb := hS.1.2.1 (25 * i + 5 * j + k) (by omega) (by omega)
              have hdk := dg_in (p := p) (x := xs k) (k := m) b1
              have h36 := mul36 b2 hTb.1 hTb.2 hdk.1 hdk.2
              refine s_R_isMapSoFar_110 ⟨fun z => by omega, fun _ => R_sourceTable_s hS3 ⟨i0, by omega⟩ ⟨by omega, by omega⟩ ⟨k0, by omega⟩ ?_⟩
              rw [w32_id (x := 5 * k) (by omega) (by omega), w32_id (x := 5 * k + m) (by omega) (by omega), hO3' 181 _ (by omega), him k m k0 (by omega) m0 hm, w32_id (x := T1 (25 * i + 5 * j + k) * dg p (xs k) m) (by omega) (by omega), w32_id (by omega) (by omega), w32_id (by omega) (by omega)]
              exact ⟨⟨by omega, by omega⟩, ih5 _ ⟨by omega, by omega, by rw [sR_succ k0, hv]⟩⟩
        · exact skip (by rcases hw with ⟨g, _⟩ | ⟨_, g⟩; omega; exact g)
      · rintro k w hk ⟨k0, hw⟩ ih3
        refine s_R_isMapSoFar_24 ⟨fun q => by omega, fun _ => ⟨fun q => ?_, fun q => ?_⟩⟩
        · rw [w32_id (by omega) (by omega)]
          exact ih3 0 ⟨by omega, Or.inr ⟨rfl, by rcases hw with ⟨g, _⟩ | ⟨_, g⟩; omega; exact g⟩⟩
        · have hw' : ∀ q, l < q → q < k → T1 (25 * i + 5 * j + q) = 0 := by rcases hw with ⟨_, g⟩ | ⟨g, _⟩; exact g; exact absurd g q
          refine R_sourceTable_s hS2 ⟨i0, by omega⟩ ⟨by omega, by omega⟩ ⟨by omega, by omega⟩ ⟨fun z => ?_, fun z => ?_⟩
          · rw [w32_id (by omega) (by omega)]
            exact ih3 0 ⟨by omega, Or.inr ⟨rfl, fun hd => z (hd k (by omega) hk)⟩⟩
          · rw [w32_id (by omega) (by omega)]
            refine ih3 1 ⟨by omega, Or.inl ⟨rfl, fun r r0 r1 => ?_⟩⟩
            by_cases g : r = k
            · subst g; exact z
            · exact hw' r r0 (by omega)
theorem R_goMaps_s {p n : Int} {T1 T2 : Int → Int} {first : Bool} : ∀ (k : Nat) (d : Nat) (l : Int) (σ : SG) (Q : Int → SG → Prop) (xs : Int → Int) (s : MS), l = n - (k : Int) → 0 ≤ l → RW σ p n T2 → SRC σ p n T1 → σ 161 47 = b2i first → σ 161 43 = s.1 → σ 161 45 = s.2.1 → σ 161 46 = b2i s.2.2 → (0 ≤ s.2.1 ∧ s.2.1 ≤ s.1 ∧ s.1 ≤ 200000 ∧ (k = 0 → s.2.1 < s.1)) → (∀ i c, 0 ≤ i → i < l → 0 ≤ c → c < n → σ 181 (5 * i + c) = dg p (xs i) c) → (l < n → SPo σ 182 (25 * l) (σ 183 l) p n (SPN p n xs l)) →
    (∀ σ' s', s' = gmF (FIT p n T1 T2) first n (p ^ n.toNat).toNat k xs s → σ' 161 43 = s'.1 → σ' 161 45 = s'.2.1 → σ' 161 46 = b2i s'.2.2 → (0 ≤ s'.2.1 ∧ s'.2.1 ≤ s'.1 ∧ s'.1 ≤ 200000) → Off (DG l) σ σ' → Q 0 σ') → Tri (d + k + 5) M_R_goMaps [vA 161, vI l] σ Q
  | 0, d, l, σ, Q, xs, s, hl, l0, hR, hS, h47, h43, h45, h46, hb, him, hblk, h => by
    obtain ⟨b1, b2, b3, b4⟩ := hR.1.1.b
    have e27 := hR.2.2.1
    refine t_R_goMaps (fun _ => ⟨fun q => by omega, fun _ s2 e => ?_⟩)
    rw [h45, w32_id (by omega) (by omega)] at e
    have := hb.2.2.2 rfl
    exact h s2 (s.1, s.2.1 + 1, s.2.2) rfl (by rw [e, up_ne (by omega)]; exact h43) (by rw [e, up_same]) (by rw [e, up_ne (by omega)]; exact h46) (by simp only; omega) (by rw [e]; exact Off_up (by unfold DG; omega))
  | k + 1, d, l, σ, Q, xs, s, hl, l0, hR, hS, h47, h43, h45, h46, hb, him, hblk, h => by
    obtain ⟨b1, b2, b3, b4⟩ := hR.1.1.b
    have e27 := hR.2.2.1
    have hpw := hR.1.1.pow
    have hpw0 := ppos b1 n.toNat
    have hln : l < n := by omega
    generalize hN : (p ^ n.toNat).toNat = N at *
    have hNN : (N : Int) = p ^ n.toNat := by omega
    have hlev : n - ((k : Int) + 1) = l := by omega
    generalize hFIN : gmF (FIT p n T1 T2) first n N (k + 1) xs s = FIN at *
    have hFd : lcF (FIT p n T1 T2) first (gmF (FIT p n T1 T2) first n N k) l xs (N - 1) 1 s = FIN := by
      rw [← hFIN]
      show _ = lcF _ _ _ (n - ((k : Int) + 1)) _ _ _ _
      rw [hlev]
    refine t_R_goMaps (fun _ => ⟨fun _ => ?_, fun q => by omega⟩)
    refine loop_up (P := fun x (q : MS × SG) => L (d + (k + 1) + 5) M_R_goMaps 21 [vA 161, vI l, vI x, vU, vU] [] q.2 Q)
      (fun x q => 1 ≤ x ∧ (q.2 161 43 = q.1.1 ∧ q.2 161 45 = q.1.2.1 ∧ q.2 161 46 = b2i q.1.2.2) ∧ (0 ≤ q.1.2.1 ∧ q.1.2.1 ≤ q.1.1 ∧ q.1.1 ≤ 200000) ∧ lcF (FIT p n T1 T2) first (gmF (FIT p n T1 T2) first n N k) l xs (N - x.toNat) x q.1 = FIN ∧ Off (DG l) σ q.2) (p ^ n.toNat) ?_ ?_ 1 (by omega) (s, σ) ⟨by omega, ⟨h43, h45, h46⟩, ⟨hb.1, hb.2.1, hb.2.2.1⟩, hFd, Off_rfl⟩
    · rintro ⟨s2, t⟩ ⟨_, ⟨g1, g2, g3⟩, gb, hF, hO⟩
      simp only at g1 g2 g3 gb hF hO ⊢
      rw [show N - (p ^ n.toNat).toNat = 0 by omega] at hF
      have hF' : s2 = FIN := hF
      refine s_R_goMaps_21 (R_vectors_s (hR.dg hO) ⟨fun _ => h t s2 hF' g1 g2 g3 gb hO, fun q => by omega⟩)
    · rintro x ⟨s2, t⟩ hx ⟨x0, ⟨g1, g2, g3⟩, gb, hF, hO⟩ ih
      simp only at g1 g2 g3 gb hF hO ⊢
      have hRt := hR.dg hO
      obtain ⟨c, hc⟩ : ∃ c, N - x.toNat = c + 1 := ⟨N - x.toNat - 1, by omega⟩
      rw [hc] at hF
      have e47 : t 161 47 = b2i first := (hO 161 47 (by unfold DG; omega)).trans h47
      have stop : stp first s2 = true → Q 0 t := fun hst => by
        rw [lcF_stop hst] at hF
        exact h t s2 hF g1 g2 g3 gb hO
      have go : stp first s2 = false → L (d + (k + 1) + 5) M_R_goMaps 51 [vA 161, vI l, vI x, vU, vU] [] t Q := fun hst => by
        refine s_R_goMaps_51 ⟨fun q => ?_, fun q => ?_⟩
        · intro t2 e2
          rw [g1, w32_id (by omega) (by omega)] at e2
          have hO2 : Off (DG l) σ t2 := fun b j hbj => by rw [e2, up_ne (by unfold DG at hbj; omega)]; exact hO b j hbj
          have hs1 : s2.1 ≠ 200000 := by rw [← g1]; exact q
          rw [w32_id (x := 5 * l) (by omega) (by omega)]
          refine R_parts2_s (hR.dg hO2) (by omega) kd_181 (by omega) (by omega) (by omega) (by omega) (by omega) (fun t3 hp3 hO3 => ?_)
          have hO3' : Off (DG l) σ t3 := Off_trans hO2 (Off_mono hO3 (fun b j q => by unfold DG; omega))
          have k43 : t3 161 43 = s2.1 + 1 := by rw [hO3 161 43 (by omega), e2, up_same]
          have k45 : t3 161 45 = s2.2.1 := by rw [hO3 161 45 (by omega), e2, up_ne (by omega)]; exact g2
          have k46 : t3 161 46 = b2i s2.2.2 := by rw [hO3 161 46 (by omega), e2, up_ne (by omega)]; exact g3
          have ux : ∀ i, i ≠ l → upx xs l x i = xs i := fun i hi => by unfold upx; rw [if_neg hi]
          have ul : upx xs l x l = x := by unfold upx; rw [if_pos rfl]
          obtain ⟨q1, q2, q3⟩ := hblk hln
          have e183 : ∀ t', Off (DG l) σ t' → t' 183 l = σ 183 l := fun t' ht' => ht' 183 l (by unfold DG; omega)
          -- the span so far comes over
          refine loop_up (P := fun j t => L (d + (k + 1) + 5) M_R_goMaps 91 [vA 161, vI l, vI x, vI j, vU] [] t Q)
            (fun j t4 => 0 ≤ j ∧ (∀ q, 0 ≤ q → q < j → t4 171 q = σ 182 (25 * l + q)) ∧ Off (fun b j => b = 171) t3 t4) 25 ?_ ?_ 0 (by omega) t3 ⟨by omega, fun q _ _ => by omega, Off_rfl⟩
          · rintro t4 ⟨_, h4, hO4⟩
            have hO4' : Off (DG l) σ t4 := Off_trans hO3' (Off_mono hO4 (fun b j q => by unfold DG; omega))
            have hSP : SP t4 171 (σ 183 l) p n (SPN p n xs l) := ⟨q1, fun l' c' w0 w1 w2 w3 w4 => by
              have := cd_b (ℓ := (SPN p n xs l).1) w0
              rw [h4 _ (by omega) (by omega)]; exact q2 l' c' w0 w1 w2 w3 w4, q3⟩
            have hv : ∀ c, 0 ≤ c → c < n → t4 181 (5 * l + c) = dg p x c := fun c c0 c1 => by rw [hO4 181 _ (by omega)]; exact hp3 c c0 c1
            refine s_R_goMaps_91 ⟨fun _ => ⟨⟨l0, by omega⟩, ?_⟩, fun z => by omega⟩
            rw [e183 t4 hO4', w32_id (x := 5 * l) (by omega) (by omega)]
            refine R_join_s (hR.dg hO4') hSP kd_171 (by omega) (by omega) (by omega) (by omega) (by omega) kd_181 (by omega) (by omega) (by omega) (by omega) (fun c c0 c1 => by rw [hv c c0 c1]; exact dg_in b1) (fun r t5 hS5 hr hO5 => ⟨⟨l0, by omega⟩, ?_⟩)
            have hO5' : Off (DG l) σ t5 := Off_trans hO4' (Off_mono hO5 (fun b j q => by unfold DG; omega))
            have hS5' : SP t5 171 r p n (ins p n (SPN p n xs l) (dg p x)) := hS5.to (ESm.rfl'.insv (by omega) hv)
            rw [e183 t5 hO5']
            have hil : ild p n (SPN p n xs l) (fun c => t4 181 (5 * l + c)) = ild p n (SPN p n xs l) (dg p x) := ild_cg (by omega) hv
            rw [hil] at hr
            have m43 : t5 161 43 = s2.1 + 1 := by rw [hO5 161 43 (by omega), hO4 161 43 (by omega)]; exact k43
            have m45 : t5 161 45 = s2.2.1 := by rw [hO5 161 45 (by omega), hO4 161 45 (by omega)]; exact k45
            have m46 : t5 161 46 = b2i s2.2.2 := by rw [hO5 161 46 (by omega), hO4 161 46 (by omega)]; exact k46
            have eS : SPN p n (upx xs l x) l = SPN p n xs l := SPN_cg (fun i i0 i1 => ux i (by omega))
            have hno : ¬ FIT p n T1 T2 l (upx xs l x) → ∀ t6, t6 161 43 = s2.1 + 1 → t6 161 45 = s2.2.1 → t6 161 46 = b2i s2.2.2 → Off (DG l) σ t6 → L (d + (k + 1) + 5) M_R_goMaps 21 [vA 161, vI l, vI (w32 (x + 1)), vU, vU] [] t6 Q := fun hnf t6 w1 w2 w3 w4 => by
              rw [w32_id (by omega) (by omega)]
              rw [lcF_no hst hs1 hnf] at hF
              refine ih ((s2.1 + 1, s2.2), t6) ⟨by omega, ⟨w1, w2, w3⟩, by simp only; omega, ?_, w4⟩
              simp only
              rw [show N - (x + 1).toNat = c by omega]; exact hF
            refine ⟨fun z => hno (fun hf => hf.1 ?_) t5 m43 m45 m46 hO5', fun z => ?_⟩
            · rw [eS, ul]
              refine (In_ild (by omega)).mpr ?_
              have := (ldw_s (show 0 ≤ n by omega) (rd p n (SPN p n xs l) (dg p x))).2.1
              rcases Int.lt_or_le (ild p n (SPN p n xs l) (dg p x)) n with g | g
              · rw [if_pos g] at hr; omega
              · unfold ild at g ⊢; omega
            · have hni : ¬ In p n (SPN p n (upx xs l x) l) (dg p (upx xs l x l)) := fun hin => by
                rw [eS, ul] at hin
                have := (In_ild (show 0 ≤ n by omega)).mp hin
                rw [if_neg (by omega)] at hr; omega
              have him5 : ∀ i q, 0 ≤ i → i ≤ l → 0 ≤ q → q < n → t5 181 (5 * i + q) = dg p (upx xs l x i) q := fun i q i0 i1 q0 q1 => by
                rw [hO5 181 _ (by omega)]
                by_cases g : i = l
                · rw [g, ul]; exact hv q q0 q1
                · rw [ux i g, hO4 181 _ (by omega), hO3 181 _ (by omega), hO2 181 _ (by unfold DG; omega)]; exact him i q i0 (by omega) q0 q1
              refine R_isMapSoFar_s (d := d + (k + 1)) (hR.dg hO5') (hS.dg hO5') l0 hln him5 (fun t6 hm hO6 => ⟨fun _ => ?_, fun w => by omega⟩) (fun t6 hm hO6 => ⟨fun w => by omega, fun _ => hno (fun hf => hm hf.2) t6 (by rw [hO6 161 43 (by omega)]; exact m43) (by rw [hO6 161 45 (by omega)]; exact m45) (by rw [hO6 161 46 (by omega)]; exact m46) (Off_trans hO5' (Off_mono hO6 (fun b j q => by unfold DG; omega)))⟩)
              have hfit : FIT p n T1 T2 l (upx xs l x) := ⟨hni, hm⟩
              rw [lcF_yes hst hs1 hfit] at hF
              have hO6' : Off (DG l) σ t6 := Off_trans hO5' (Off_mono hO6 (fun b j q => by unfold DG; omega))
              have hR6 := hR.dg hO6'
              rw [hR6.2.2.1, w32_id (x := l + 1) (by omega) (by omega)]
              have hrr : r = cd (ins p n (SPN p n xs l) (dg p x)).1 n := hS5'.1
              have eS1 : SPN p n (upx xs l x) (l + 1) = ins p n (SPN p n xs l) (dg p x) := by
                unfold SPN
                rw [lp_succ l0]
                show ins p n (SPN p n (upx xs l x) l) (dg p (upx xs l x l)) = _
                rw [eS, ul]; rfl
              have final : ∀ t7, Off (fun b j => b = 182 ∧ 25 * l + 25 ≤ j) t6 t7 → (l + 1 < n → ∀ q, 0 ≤ q → q < 25 → t7 182 (25 * l + 25 + q) = t6 171 q) → L (d + (k + 1) + 5) M_R_goMaps 211 [vA 161, vI l, vI x, vI r, vU] [] t7 Q := fun t7 hO7 h7 => by
                have hO7' : Off (DG l) σ t7 := Off_trans hO6' (Off_mono hO7 (fun b j q => by unfold DG; omega))
                refine s_R_goMaps_211 ?_
                rw [w32_id (x := l + 1) (by omega) (by omega)]
                refine ⟨⟨by omega, by omega⟩, fun t8 e8 => ?_⟩
                have hO8 : Off (DG l) σ t8 := fun b j hbj => by rw [e8, up_ne (by unfold DG at hbj; omega)]; exact hO7' b j hbj
                refine R_goMaps_s k d (l + 1) t8 _ (upx xs l x) (s2.1 + 1, s2.2) (by omega) (by omega) (hR.dg hO8) (hS.dg hO8) ((hO8 161 47 (by unfold DG; omega)).trans h47) (by rw [e8, up_ne (by omega), hO7 161 43 (by omega), hO6 161 43 (by omega)]; exact m43) (by rw [e8, up_ne (by omega), hO7 161 45 (by omega), hO6 161 45 (by omega)]; exact m45) (by rw [e8, up_ne (by omega), hO7 161 46 (by omega), hO6 161 46 (by omega)]; exact m46) (by simp only; omega) (fun i c i0 i1 c0 c1 => by rw [e8, up_ne (by omega), hO7 181 _ (by omega), hO6 181 _ (by omega)]; exact him5 i c i0 (by omega) c0 c1) (fun hl1 => ?_) (fun t9 s9 hs9 w1 w2 w3 w4 hO9 => ?_)
                · rw [eS1]
                  refine ⟨by rw [e8, up_same]; exact hrr, fun l' c' y0 y1 y2 y3 y4 => ?_, hS5'.2.2⟩
                  have := cd_b (ℓ := (ins p n (SPN p n xs l) (dg p x)).1) y0
                  rw [e8, up_ne (by omega), show 25 * (l + 1) + (5 * cd (ins p n (SPN p n xs l) (dg p x)).1 l' + c') = 25 * l + 25 + (5 * cd (ins p n (SPN p n xs l) (dg p x)).1 l' + c') by omega, h7 hl1 _ (by omega) (by omega), hO6 171 _ (by omega)]
                  exact hS5'.2.1 l' c' y0 y1 y2 y3 y4
                · rw [w32_id (by omega) (by omega)]
                  rw [hN] at hs9
                  refine ih (s9, t9) ⟨by omega, ⟨w1, w2, w3⟩, w4, ?_, Off_trans hO8 (Off_mono hO9 (fun b j q => by unfold DG at q ⊢; omega))⟩
                  simp only
                  rw [show N - (x + 1).toNat = c by omega, hs9]; exact hF
              refine ⟨fun w => final t6 Off_rfl (fun w2 => by omega), fun w => ?_⟩
              refine loop_up (P := fun j t => L (d + (k + 1) + 5) M_R_goMaps 176 [vA 161, vI l, vI x, vI r, vI j] [] t Q)
                (fun j t7 => 0 ≤ j ∧ (∀ q, 0 ≤ q → q < j → t7 182 (25 * l + 25 + q) = t6 171 q) ∧ Off (fun b j => b = 182 ∧ 25 * l + 25 ≤ j) t6 t7) 25 ?_ ?_ 0 (by omega) t6 ⟨by omega, fun q _ _ => by omega, Off_rfl⟩
              · rintro t7 ⟨_, h7, hO7⟩
                exact s_R_goMaps_176 ⟨fun _ => final t7 hO7 (fun _ => h7), fun z => by omega⟩
              · rintro j t7 hj ⟨j0, h7, hO7⟩ ih7
                refine s_R_goMaps_176 ⟨fun z => by omega, fun _ => ?_⟩
                rw [w32_id (x := 25 * l) (by omega) (by omega), w32_id (x := 25 * l + 25) (by omega) (by omega), w32_id (x := 25 * l + 25 + j) (by omega) (by omega), w32_id (x := j + 1) (by omega) (by omega), hO7 171 j (by omega)]
                refine ⟨⟨j0, by omega⟩, ⟨by omega, by omega⟩, fun t8 e8 => ih7 t8 ⟨by omega, fun q q0 q1 => ?_, fun b j hb => by rw [e8, up_ne (by omega)]; exact hO7 b j hb⟩⟩
                by_cases g : q = j
                · subst g; rw [e8, up_same]
                · rw [e8, up_ne (by omega)]; exact h7 q q0 (by omega)
          · rintro j t4 hj ⟨j0, h4, hO4⟩ ih4
            have e182 : t4 182 (25 * l + j) = σ 182 (25 * l + j) := by rw [hO4 182 _ (by omega)]; exact hO3' 182 _ (by unfold DG; omega)
            refine s_R_goMaps_91 ⟨fun z => by omega, fun _ => ?_⟩
            rw [w32_id (x := 25 * l) (by omega) (by omega), w32_id (x := 25 * l + j) (by omega) (by omega), w32_id (x := j + 1) (by omega) (by omega), e182]
            refine ⟨⟨by omega, by omega⟩, ⟨j0, by omega⟩, fun t5 e5 => ih4 t5 ⟨by omega, fun q q0 q1 => ?_, fun b j hb => by rw [e5, up_ne (by omega)]; exact hO4 b j hb⟩⟩
            by_cases g : q = j
            · subst g; rw [e5, up_same]
            · rw [e5, up_ne (by omega)]; exact h4 q q0 (by omega)
        · intro t2 e2
          have hs1 : s2.1 = 200000 := by rw [← g1]; exact q
          rw [lcF_spent hst hs1] at hF
          exact h t2 (s2.1, s2.2.1, true) hF (by rw [e2, up_ne (by omega)]; exact g1) (by rw [e2, up_ne (by omega)]; exact g2) (by rw [e2, up_same]; rfl) gb (fun b j hbj => by rw [e2, up_ne (by unfold DG at hbj; omega)]; exact hO b j hbj)
      refine s_R_goMaps_21 (R_vectors_s hRt ⟨fun q => by omega, fun _ => ⟨fun q => stop ?_, fun q => ⟨fun q2 => go ?_, fun q2 => ⟨fun q3 => go ?_, fun q3 => stop ?_⟩⟩⟩⟩)
      · rw [g3] at q
        unfold stp
        cases hsp : s2.2.2 with
        | true => rfl
        | false => rw [hsp] at q; exact absurd rfl q
      · rw [g3] at q
        rw [e47] at q2
        have h1 : s2.2.2 = false := by cases hsp : s2.2.2 with | false => rfl | true => rw [hsp] at q; exact absurd q (by decide)
        have h2 : first = false := by cases hf : first with | false => rfl | true => rw [hf] at q2; exact absurd q2 (by decide)
        unfold stp; rw [h1, h2]; rfl
      · rw [g3] at q
        have h1 : s2.2.2 = false := by cases hsp : s2.2.2 with | false => rfl | true => rw [hsp] at q; exact absurd q (by decide)
        rw [g2] at q3
        unfold stp; rw [h1]
        have : ¬ 0 < s2.2.1 := by omega
        simp [this]
      · rw [e47] at q2
        have h2 : first = true := by cases hf : first with | true => rfl | false => rw [hf] at q2; exact absurd rfl q2
        rw [g2] at q3
        unfold stp; rw [h2]
        simp [q3]
theorem R_findMaps_s {p n from_ fi : Int} {T1 T2 : Int → Int} (hR : RW σ p n T2) (hT1 : TW p n T1) (hf0 : 0 ≤ from_) (hf1 : from_ + 127 ≤ 3440) (hfi : fi = 0 ∨ fi = 1) (hsrc : ∀ t, 0 ≤ t → t < 125 → σ 166 (from_ + 2 + t) = T1 t)
    (h : ∀ σ', σ' 161 43 = (FND p n T1 T2 (decide (fi ≠ 0))).1 → σ' 161 45 = (FND p n T1 T2 (decide (fi ≠ 0))).2.1 → σ' 161 46 = b2i (FND p n T1 T2 (decide (fi ≠ 0))).2.2 → Off (fun b j => DG 0 b j ∨ (b = 161 ∧ (j = 47 ∨ j = 64 ∨ j = 65)) ∨ b = 183) σ σ' → Q 0 σ') : Tri (d + 11) M_R_findMaps [vA 161, vA 166, vI from_, vI fi] σ Q := by
  obtain ⟨b1, b2, b3, b4⟩ := hR.1.1.b
  refine t_R_findMaps (fun _ _ s1 e1 s2 e2 => ⟨hfi, fun s3 e3 s4 e4 s5 e5 s6 e6 s7 e7 => ?_⟩)
  have hO : Off (fun b j => DG 0 b j ∨ (b = 161 ∧ (j = 47 ∨ j = 64 ∨ j = 65)) ∨ b = 183) σ s7 := fun b j hb => by
    unfold DG at hb
    rw [e7, up_ne (by omega), e6, up_ne (by omega), e5, up_ne (by omega), e4, up_ne (by omega), e3, up_ne (by omega), e2, up_ne (by omega), e1, up_ne (by omega)]
  have g64 : s7 161 64 = 166 := by rw [e7, up_ne (by omega), e6, up_ne (by omega), e5, up_ne (by omega), e4, up_ne (by omega), e3, up_ne (by omega), e2, up_ne (by omega), e1, up_same]
  have g65 : s7 161 65 = from_ := by rw [e7, up_ne (by omega), e6, up_ne (by omega), e5, up_ne (by omega), e4, up_ne (by omega), e3, up_ne (by omega), e2, up_same]
  have g47 : s7 161 47 = fi := by rw [e7, up_ne (by omega), e6, up_ne (by omega), e5, up_ne (by omega), e4, up_ne (by omega), e3, up_same]
  have g45 : s7 161 45 = 0 := by rw [e7, up_ne (by omega), e6, up_ne (by omega), e5, up_ne (by omega), e4, up_same]
  have g43 : s7 161 43 = 0 := by rw [e7, up_ne (by omega), e6, up_ne (by omega), e5, up_same]
  have g46 : s7 161 46 = 0 := by rw [e7, up_ne (by omega), e6, up_same]
  have g183 : s7 183 0 = 0 := by rw [e7, up_same]
  have hR7 : RW s7 p n T2 := hR.fr (fun k _ _ => hO 161 k (by unfold DG; omega)) (fun k => hO 166 k (by unfold DG; omega)) (fun k => hO 196 k (by unfold DG; omega))
  have hd : d + 10 = (d + (5 - n.toNat)) + n.toNat + 5 := by omega
  rw [hd]
  refine R_goMaps_s (first := decide (fi ≠ 0)) n.toNat (d + (5 - n.toNat)) 0 s7 _ (fun _ => 0) (0, 0, false) (by omega) (by omega) hR7 ⟨hT1, g64, by rw [g65]; exact hf0, by rw [g65]; exact hf1, fun t t0 t1 => by rw [g65, hO 166 _ (by unfold DG; omega)]; exact hsrc t t0 t1⟩ ?_ g43 g45 (by rw [g46]; rfl) (by simp only; omega) (fun i c i0 i1 => by omega) (fun _ => ?_) (fun s8 s' hs' w1 w2 w3 w4 hO8 => ?_)
  · rw [g47]
    rcases hfi with rfl | rfl <;> rfl
  · have e : SPN p n (fun _ => 0) 0 = E0 := by unfold SPN; rw [lp_nil (by omega)]
    rw [e, g183]
    exact ⟨cd0.symm, ⟨fun l c _ _ hl => (by cases hl), EW0⟩⟩
  · have hs2 : s' = FND p n T1 T2 (decide (fi ≠ 0)) := hs'
    rw [hs2] at w1 w2 w3
    exact h s8 w1 w2 w3 (Off_trans hO (Off_mono hO8 (fun b j q => Or.inl q)))
end RMP
