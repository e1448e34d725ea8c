/-! ===== JACOBI of the model ===== -/
def AJ (p n : Int) (T : Int → Int) (i j k m : Int) : Int := br p n T (EU.2 i) (br p n T (EU.2 j) (EU.2 k)) m
def LAWF (p n : Int) (T : Int → Int) : Prop := ∀ i j k, 0 ≤ i → i < j → j < k → k < n → Jz p n T i j k
theorem FB_lawf {p n r : Int} {T : Int → Int} (h : FB p n T r) : r < 0 ↔ LAWF p n T := by
  rcases h with ⟨e, h⟩ | ⟨i, j, k, a1, a2, a3, a4, e, hb, hf⟩
  · exact ⟨fun _ => h, fun _ => by omega⟩
  · exact ⟨fun z => by omega, fun z => absurd (z i j k a1 a2 a3 a4) hb⟩
theorem AJ_val {p n i j k m : Int} {T : Int → Int} (hT : TW p n T) (i0 : 0 ≤ i) (i1 : i < n) (j0 : 0 ≤ j) (j1 : j < n) (k0 : 0 ≤ k) (k1 : k < n) : AJ p n T i j k m = sR (fun t => T (25 * j + 5 * k + t) * T (25 * i + 5 * t + m)) 0 n % p := by
  unfold AJ
  rw [br_unit i0 i1]
  congr 1
  apply sR_congr
  intro t t0 t1
  rw [br_units hT j0 j1 k0 k1 t0 t1]
theorem AJ_jac {p n i j k m : Int} {T : Int → Int} (hT : TW p n T) (i0 : 0 ≤ i) (i1 : i < n) (j0 : 0 ≤ j) (j1 : j < n) (k0 : 0 ≤ k) (k1 : k < n) : (((0 + AJ p n T i j k m) % p + AJ p n T j k i m) % p + AJ p n T k i j m) % p = jac p n T i j k m := by
  rw [AJ_val hT i0 i1 j0 j1 k0 k1, AJ_val hT j0 j1 k0 k1 i0 i1, AJ_val hT k0 k1 i0 i1 j0 j1]
  unfold jac
  rw [show sR (fun t => T (25 * j + 5 * k + t) * T (25 * i + 5 * t + m) + T (25 * k + 5 * i + t) * T (25 * j + 5 * t + m) + T (25 * i + 5 * j + t) * T (25 * k + 5 * t + m)) 0 n = sR (fun t => T (25 * j + 5 * k + t) * T (25 * i + 5 * t + m)) 0 n + sR (fun t => T (25 * k + 5 * i + t) * T (25 * j + 5 * t + m)) 0 n + sR (fun t => T (25 * i + 5 * j + t) * T (25 * k + 5 * t + m)) 0 n from by rw [← sR_add, ← sR_add]]
  simp [Int.add_emod]
section RLW
variable {d : Nat} {σ : SG} {Q : Int → SG → Prop}
theorem R_addJacobi_s {p n i j k : Int} {T : Int → Int} (hR : RW σ p n T) (i0 : 0 ≤ i) (i1 : i < n) (j0 : 0 ≤ j) (j1 : j < n) (k0 : 0 ≤ k) (k1 : k < n) (hv : ∀ m, 0 ≤ m → m < n → 0 ≤ σ 186 m ∧ σ 186 m < p)
    (h : ∀ σ', (∀ m, 0 ≤ m → m < n → σ' 186 m = (σ 186 m + AJ p n T i j k m) % p) → Off (fun b j => (175 ≤ b ∧ b ≤ 178) ∨ (b = 186 ∧ 0 ≤ j ∧ j < n)) σ σ' → Q 0 σ') : Tri (d + 4) M_R_addJacobi [vA 161, vI i, vI j, vI k, vA 186] σ Q := by
  obtain ⟨b1, b2, b3, b4⟩ := hR.1.1.b
  have hub : ∀ i c : Int, 0 ≤ EU.2 i c ∧ EU.2 i c < p := fun i c => EUb b1
  have hev : ∀ i c : Int, (if c = i then (1 : Int) else 0) = EU.2 i c := fun i c => by
    rw [EUv]
    by_cases g : c = i
    · rw [if_pos g, if_pos g.symm]
    · rw [if_neg g, if_neg (fun e => g e.symm)]
  have hfr : ∀ t, Off (fun b j => 175 ≤ b ∧ b ≤ 178) σ t → RW t p n T := fun t ht => hR.fr (fun k _ _ => ht 161 k (by omega)) (fun k => ht 166 k (by omega)) (fun k => ht 196 k (by omega))
  refine t_R_addJacobi (fun _ _ _ => R_unit_s hR (by omega) kd_175 (by omega) (by omega) (fun s1 h1 hO1 => ?_))
  have hO1' : Off (fun b j => 175 ≤ b ∧ b ≤ 178) σ s1 := Off_mono hO1 (fun b j q => by omega)
  refine R_unit_s (hfr s1 hO1') (by omega) kd_176 (by omega) (by omega) (fun s2 h2 hO2 => ?_)
  have hO2' : Off (fun b j => 175 ≤ b ∧ b ≤ 178) σ s2 := Off_trans hO1' (Off_mono hO2 (fun b j q => by omega))
  have v75 : ∀ c, 0 ≤ c → c < n → s2 175 (0 + c) = EU.2 j c := fun c c0 c1 => by rw [Int.zero_add, hO2 175 _ (by omega), h1 c c0 c1, hev]
  have v76 : ∀ c, 0 ≤ c → c < n → s2 176 (0 + c) = EU.2 k c := fun c c0 c1 => by rw [Int.zero_add, h2 c c0 c1, hev]
  refine R_bracketOf_s (hfr s2 hO2') kd_175 kd_176 (by omega) kd_177 (by omega) (by omega) (by omega) (by omega) (by omega) (by omega) (by omega) (by omega) (by omega) (by omega) (by omega) (by omega) (fun c c0 c1 => by rw [v75 c c0 c1]; exact hub _ _) (fun c c0 c1 => by rw [v76 c c0 c1]; exact hub _ _) (fun s3 h3 hO3 => ?_)
  have hO3' : Off (fun b j => 175 ≤ b ∧ b ≤ 178) σ s3 := Off_trans hO2' (Off_mono hO3 (fun b j q => by omega))
  have v77 : ∀ c, 0 ≤ c → c < n → s3 177 c = br p n T (EU.2 j) (EU.2 k) c := fun c c0 c1 => by rw [h3 c c0 c1]; exact br_cg v75 v76
  refine R_unit_s (hfr s3 hO3') (by omega) kd_175 (by omega) (by omega) (fun s4 h4 hO4 => ?_)
  have hO4' : Off (fun b j => 175 ≤ b ∧ b ≤ 178) σ s4 := Off_trans hO3' (Off_mono hO4 (fun b j q => by omega))
  have w75 : ∀ c, 0 ≤ c → c < n → s4 175 (0 + c) = EU.2 i c := fun c c0 c1 => by rw [Int.zero_add, h4 c c0 c1, hev]
  have w77 : ∀ c, 0 ≤ c → c < n → s4 177 (0 + c) = br p n T (EU.2 j) (EU.2 k) c := fun c c0 c1 => by rw [Int.zero_add, hO4 177 _ (by omega), v77 c c0 c1]
  refine R_bracketOf_s (hfr s4 hO4') kd_175 kd_177 (by omega) kd_178 (by omega) (by omega) (by omega) (by omega) (by omega) (by omega) (by omega) (by omega) (by omega) (by omega) (by omega) (by omega) (fun c c0 c1 => by rw [w75 c c0 c1]; exact hub _ _) (fun c c0 c1 => by rw [w77 c c0 c1]; exact ⟨Int.emod_nonneg _ (by omega), Int.emod_lt_of_pos _ (by omega)⟩) (fun s5 h5 hO5 => ?_)
  have hO5' : Off (fun b j => 175 ≤ b ∧ b ≤ 178) σ s5 := Off_trans hO4' (Off_mono hO5 (fun b j q => by omega))
  have v78 : ∀ c, 0 ≤ c → c < n → s5 178 c = AJ p n T i j k c := fun c c0 c1 => by rw [h5 c c0 c1]; exact br_cg w75 w77
  refine loop_up (P := fun m t => L (d + 4) M_R_addJacobi 66 [vA 161, vU, vU, vU, vA 186, vI m] [] t Q) (fun m t => 0 ≤ m ∧ (∀ c, 0 ≤ c → c < n → t 186 c = if c < m then (σ 186 c + AJ p n T i j k c) % p else σ 186 c) ∧ Off (fun b j => b = 186 ∧ 0 ≤ j ∧ j < n) s5 t) n ?_ ?_ 0 (by omega) s5 ⟨by omega, fun c c0 c1 => by rw [if_neg (by omega), hO5' 186 _ (by omega)], Off_rfl⟩
  · rintro t ⟨_, ht, hO⟩
    refine s_R_addJacobi_66 ⟨fun _ => h t (fun c c0 c1 => by rw [ht c c0 c1, if_pos c1]) (Off_trans (Off_mono hO5' (fun b j q => by omega)) (Off_mono hO (fun b j q => by omega))), fun q => ?_⟩
    rw [hO 161 27 (by omega), (hfr s5 hO5').2.2.1] at q; omega
  · rintro m t hm ⟨m0, ht, hO⟩ ih
    refine s_R_addJacobi_66 ⟨fun q => by rw [hO 161 27 (by omega), (hfr s5 hO5').2.2.1] at q; omega, fun _ => ?_⟩
    have hvm := hv m m0 hm
    have hab : 0 ≤ AJ p n T i j k m ∧ AJ p n T i j k m < p := ⟨Int.emod_nonneg _ (by omega), Int.emod_lt_of_pos _ (by omega)⟩
    have e1 : t 186 m = σ 186 m := by rw [ht m m0 hm, if_neg (by omega)]
    rw [hO 161 26 (by omega), (hfr s5 hO5').2.1, e1, hO 178 _ (by omega), v78 m m0 hm, w32_id (x := σ 186 m + AJ p n T i j k m) (by omega) (by omega), w32_id (x := m + 1) (by omega) (by omega), Int.tmod_eq_emod_of_nonneg (by omega)]
    refine ⟨rd_of kd_186 (by omega) (by omega), ⟨by omega, by omega⟩, by omega, wr_of (by omega) kd_186 (by omega) (by omega), fun s2 e2 => ih s2 ⟨by omega, fun c c0 c1 => ?_, fun b j hb => by rw [e2, up_ne (by omega)]; exact hO b j hb⟩⟩
    by_cases g : c = m
    · subst g; rw [e2, up_same, if_pos (by omega)]
    · have g1 : (c < m + 1) ↔ c < m := by omega
      simp only [g1]
      rw [e2, up_ne (by omega)]; exact ht c c0 c1
theorem R_breaks_s {p n i j k : Int} {T : Int → Int} (hR : RW σ p n T) (i0 : 0 ≤ i) (i1 : i < n) (j0 : 0 ≤ j) (j1 : j < n) (k0 : 0 ≤ k) (k1 : k < n)
    (h1 : ¬ Jz p n T i j k → ∀ σ', Off (fun b j => (175 ≤ b ∧ b ≤ 178) ∨ b = 186) σ σ' → Q 1 σ') (h0 : Jz p n T i j k → ∀ σ', Off (fun b j => (175 ≤ b ∧ b ≤ 178) ∨ b = 186) σ σ' → Q 0 σ') : Tri (d + 5) M_R_breaks [vA 161, vI i, vI j, vI k] σ Q := by
  obtain ⟨b1, b2, b3, b4⟩ := hR.1.1.b
  have hfr : ∀ t, Off (fun b j => (175 ≤ b ∧ b ≤ 178) ∨ b = 186) σ t → RW t p n T := fun t ht => hR.fr (fun k _ _ => ht 161 k (by omega)) (fun k => ht 166 k (by omega)) (fun k => ht 196 k (by omega))
  refine t_R_breaks (fun _ _ _ => ?_)
  refine loop_up (P := fun m t => L (d + 5) M_R_breaks 3 [vA 161, vI i, vI j, vI k, vI m] [] t Q) (fun m t => 0 ≤ m ∧ (∀ c, 0 ≤ c → c < m → t 186 c = 0) ∧ Off (fun b j => (175 ≤ b ∧ b ≤ 178) ∨ b = 186) σ t) 5 ?_ ?_ 0 (by omega) σ ⟨by omega, fun c _ _ => by omega, Off_rfl⟩
  · rintro t ⟨_, ht, hO⟩
    refine s_R_breaks_3 ⟨fun _ => ?_, fun q => by omega⟩
    have hm : ∀ x : Int, 0 ≤ x % p ∧ x % p < p := fun x => ⟨Int.emod_nonneg _ (by omega), Int.emod_lt_of_pos _ (by omega)⟩
    refine R_addJacobi_s (hfr t hO) i0 i1 j0 j1 k0 k1 (fun m m0 m1 => by rw [ht m m0 (by omega)]; omega) (fun s2 h2 hO2 => ?_)
    have hO2' : Off (fun b j => (175 ≤ b ∧ b ≤ 178) ∨ b = 186) σ s2 := Off_trans hO (Off_mono hO2 (fun b j q => by omega))
    refine R_addJacobi_s (hfr s2 hO2') j0 j1 k0 k1 i0 i1 (fun m m0 m1 => by rw [h2 m m0 m1]; exact hm _) (fun s3 h3 hO3 => ?_)
    have hO3' : Off (fun b j => (175 ≤ b ∧ b ≤ 178) ∨ b = 186) σ s3 := Off_trans hO2' (Off_mono hO3 (fun b j q => by omega))
    refine R_addJacobi_s (hfr s3 hO3') k0 k1 i0 i1 j0 j1 (fun m m0 m1 => by rw [h3 m m0 m1]; exact hm _) (fun s4 h4 hO4 => ?_)
    have hO4' : Off (fun b j => (175 ≤ b ∧ b ≤ 178) ∨ b = 186) σ s4 := Off_trans hO3' (Off_mono hO4 (fun b j q => by omega))
    have hval : ∀ c, 0 ≤ c → c < n → s4 186 (0 + c) = jac p n T i j k c := fun c c0 c1 => by
      rw [Int.zero_add, h4 c c0 c1, h3 c c0 c1, h2 c c0 c1, ht c c0 (by omega)]; exact AJ_jac hR.1 i0 i1 j0 j1 k0 k1
    obtain ⟨l1, l2, l3, l4⟩ := ldw_s (w := n) (by omega) (fun c => s4 186 (0 + c))
    refine R_leadOf_s (hfr s4 hO4') kd_186 (by omega) (by omega) (by omega) ?_
    by_cases g : ldw n (fun c => s4 186 (0 + c)) < n
    · rw [if_pos g]
      refine ⟨fun q => by omega, fun _ => h1 (fun hz => ?_) s4 hO4'⟩
      apply l4 g
      rw [hval _ l1 g]; exact hz _ l1 g
    · rw [if_neg g]
      refine ⟨fun _ => h0 (fun m m0 m1 => ?_) s4 hO4', fun q => by omega⟩
      rw [← hval m m0 m1]
      exact l3 m m0 (by omega)
  · rintro m t hm ⟨m0, ht, hO⟩ ih
    refine s_R_breaks_3 ⟨fun q => by omega, fun _ => ⟨⟨m0, hm⟩, fun s2 e2 => ?_⟩⟩
    rw [w32_id (by omega) (by omega)]
    refine ih s2 ⟨by omega, fun c c0 c1 => ?_, fun b j hb => by rw [e2, up_ne (by omega)]; exact hO b j hb⟩
    by_cases g : c = m
    · subst g; rw [e2, up_same]
    · rw [e2, up_ne (by omega)]; exact ht c c0 (by omega)
theorem R_isLawful_s {p n : Int} {T : Int → Int} (hR : RW σ p n T) (h1 : LAWF p n T → ∀ σ', Off (fun b j => (175 ≤ b ∧ b ≤ 178) ∨ b = 186) σ σ' → Q 1 σ') (h0 : ¬ LAWF p n T → ∀ σ', Off (fun b j => (175 ≤ b ∧ b ≤ 178) ∨ b = 186) σ σ' → Q 0 σ') : Tri (d + 6) M_R_isLawful [vA 161] σ Q := by
  obtain ⟨b1, b2, b3, b4⟩ := hR.1.1.b
  have hfr : ∀ t, Off (fun b j => (175 ≤ b ∧ b ≤ 178) ∨ b = 186) σ t → RW t p n T := fun t ht => hR.fr (fun k _ _ => ht 161 k (by omega)) (fun k => ht 166 k (by omega)) (fun k => ht 196 k (by omega))
  refine t_R_isLawful ?_
  refine loop_up (P := fun i t => L (d + 6) M_R_isLawful 2 [vA 161, vI i, vU, vU] [] t Q) (fun i t => 0 ≤ i ∧ (∀ x y z, 0 ≤ x → x < i → x < y → y < z → z < n → Jz p n T x y z) ∧ Off (fun b j => (175 ≤ b ∧ b ≤ 178) ∨ b = 186) σ t) n ?_ ?_ 0 (by omega) σ ⟨by omega, fun x y z _ _ => by omega, Off_rfl⟩
  · rintro t ⟨_, ht, hO⟩
    refine s_R_isLawful_2 ⟨fun _ => h1 (fun x y z x0 xy yz zn => ht x y z x0 (by omega) xy yz zn) t hO, fun q => ?_⟩
    rw [(hfr t hO).2.2.1] at q; omega
  · rintro i t hi ⟨i0, ht, hO⟩ ih
    refine s_R_isLawful_2 ⟨fun q => by rw [(hfr t hO).2.2.1] at q; omega, fun _ => ?_⟩
    rw [w32_id (by omega) (by omega)]
    refine loop_up (P := fun j t => L (d + 6) M_R_isLawful 14 [vA 161, vI i, vI j, vU] [] t Q) (fun j t => i + 1 ≤ j ∧ (∀ y z, i < y → y < j → y < z → z < n → Jz p n T i y z) ∧ Off (fun b j => (175 ≤ b ∧ b ≤ 178) ∨ b = 186) σ t) n ?_ ?_ (i + 1) (by omega) t ⟨by omega, fun y z _ _ => by omega, hO⟩
    · rintro t2 ⟨_, ht2, hO2⟩
      refine s_R_isLawful_14 ⟨fun _ => ?_, fun q => by rw [(hfr t2 hO2).2.2.1] at q; omega⟩
      rw [w32_id (by omega) (by omega)]
      refine ih t2 ⟨by omega, fun x y z x0 x1 xy yz zn => ?_, hO2⟩
      by_cases g : x = i
      · subst g; exact ht2 y z xy (by omega) yz zn
      · exact ht x y z x0 (by omega) xy yz zn
    · rintro j t2 hj ⟨j0, ht2, hO2⟩ ih2
      refine s_R_isLawful_14 ⟨fun q => by rw [(hfr t2 hO2).2.2.1] at q; omega, fun _ => ?_⟩
      rw [w32_id (by omega) (by omega)]
      refine loop_up (P := fun k t => L (d + 6) M_R_isLawful 26 [vA 161, vI i, vI j, vI k] [] t Q) (fun k t => j + 1 ≤ k ∧ (∀ z, j < z → z < k → Jz p n T i j z) ∧ Off (fun b j => (175 ≤ b ∧ b ≤ 178) ∨ b = 186) σ t) n ?_ ?_ (j + 1) (by omega) t2 ⟨by omega, fun z _ _ => by omega, hO2⟩
      · rintro t3 ⟨_, ht3, hO3⟩
        refine s_R_isLawful_26 ⟨fun _ => ?_, fun q => by rw [(hfr t3 hO3).2.2.1] at q; omega⟩
        rw [w32_id (by omega) (by omega)]
        refine ih2 t3 ⟨by omega, fun y z y0 y1 yz zn => ?_, hO3⟩
        by_cases g : y = j
        · subst g; exact ht3 z yz zn
        · exact ht2 y z y0 (by omega) yz zn
      · rintro k t3 hk ⟨k0, ht3, hO3⟩ ih3
        refine s_R_isLawful_26 ⟨fun q => by rw [(hfr t3 hO3).2.2.1] at q; omega, fun _ => ?_⟩
        rw [w32_id (by omega) (by omega)]
        refine R_breaks_s (hfr t3 hO3) i0 hi (by omega) hj (by omega) hk (fun hno s4 hO4 => ⟨fun q => by omega, fun _ => h0 (fun hl => hno (hl i j k i0 (by omega) (by omega) hk)) s4 (Off_trans hO3 hO4)⟩) (fun hz s4 hO4 => ⟨fun _ => ih3 s4 ⟨by omega, fun z z0 z1 => ?_, Off_trans hO3 hO4⟩, fun q => absurd rfl q⟩)
        by_cases g : z = k
        · subst g; exact hz
        · exact ht3 z z0 (by omega)
end RLW
