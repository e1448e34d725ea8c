/-! ===== the class's ANATOMY: series, movers ===== -/
def bnd (p n : Int) (T : Int → Int) (v : Int → Int) (B : ES) (E : ES) : ES := lp (fun k E => ins p n E (fun i => rd p n B (br p n T (EU.2 i) v) k)) 0 n E
def mvr (p n : Int) (T : Int → Int) (A B : ES) : ES := lp (fun l E => if A.1 l = true then bnd p n T (A.2 l) B E else E) 0 n E0
theorem UN.row {σ : SG} (h : UN σ) {i : Int} (i0 : 0 ≤ i) (i1 : i < 5) {p n : Int} (hp : 2 ≤ p) (hn : n ≤ 5) : ∀ c, 0 ≤ c → c < n → σ (-2) (i * 5 + c) = EU.2 i c ∧ 0 ≤ EU.2 i c ∧ EU.2 i c < p := fun c c0 c1 => by
  rw [h _ (by omega) (by omega), unit5 i0 i1 c0 (by omega)]
  refine ⟨rfl, ?_⟩
  show 0 ≤ (if i = c then (1 : Int) else 0) ∧ (if i = c then (1 : Int) else 0) < p
  split <;> omega
section ANA
variable {d : Nat} {σ : SG} {Q : Int → SG → Prop}
theorem An_wholeSeries_s {a k lo p n : Int} {T : Int → Int} (hW : WD σ a p n T) (ha : a ≤ 20) (hST : ST σ) (hk : 0 ≤ k ∧ k ≤ 9)
    (h : ∀ σ', ST σ' → Off (fun b j => (43 ≤ b ∧ b ≤ 51) ∨ b = 66) σ σ' → Q (cd (ser p n T (lo ≠ 0) EU k.toNat).1 n) σ') : Tri (d + 5) M_An_wholeSeries [vA 42, vA a, vI k, vI lo] σ Q := by
  obtain ⟨b1, b2, b3, b4⟩ := hW.pn.b
  obtain ⟨ho, hp, hn, _, hT⟩ := id hW
  obtain ⟨kw1, _, _⟩ := kd_world ho
  refine t_An_wholeSeries (fun _ _ => ⟨ho, ho, ?_⟩)
  rw [hp, hn]
  refine Ec_beginWhole_s ob_49 (hST 49 ob_49) hW.pn.pr (by omega) b4 (fun s1 hE1 hO1 => ?_)
  refine An_seriesSize_s (hW.cg (fun k => hO1 a k (by omega)) (fun k => hO1 (a + 1) k (by omega))) ha (hST.off hO1 (fun e h' => by have := ech_list h'; omega)) hE1 (by omega) hk (ser_stb hT (EWU b1) ClU) (fun s2 hS2 hO2 => h s2 hS2 (Off_trans (Off_mono hO1 (fun b j q => by omega)) (Off_mono hO2 (fun b j q => by omega))))
theorem An_bind_s {a e f l p n : Int} {T : Int → Int} {A B E : ES} (hW : WD σ a p n T) (ha : a ≤ 20) (hA : EC σ e p n A) (hB : EC σ f p n B) (hE : EC σ 58 p n E) (he : e ≠ 58 ∧ e ≠ 69 ∧ e ≠ 107) (hf : f ≠ 58) (l0 : 0 ≤ l) (l1 : l < n) (hl : A.1 l = true)
    (h : ∀ σ', EC σ' 58 p n (bnd p n T (A.2 l) B E) → Off (fun b j => b = 66 ∨ b = 67 ∨ (b = 58 ∧ (j = 5 ∨ j = 6)) ∨ b = 59 ∨ b = 60) σ σ' → Q 0 σ') : Tri (d + 4) M_An_bind [vA 42, vA a, vA e, vI l, vA f] σ Q := by
  obtain ⟨b1, b2, b3, b4⟩ := hW.pn.b
  obtain ⟨ho, hp, hn, _, hT⟩ := id hW
  obtain ⟨kw1, _, _⟩ := kd_world ho
  have hel := ech_list hA.1
  have hfl := ech_list hB.1
  obtain ⟨kx1, kx2⟩ := kd_rows hA.1 he.2.1 he.2.2
  refine t_An_bind (fun _ => ?_)
  refine loop_up (P := fun i t => L (d + 4) M_An_bind 3 [vA 42, vA a, vA e, vI l, vA f, vI i, vU] [] t Q)
    (fun i t => 0 ≤ i ∧ (∀ i' k, 0 ≤ i' → i' < i → 0 ≤ k → k < n → t 67 (k * 5 + i') = rd p n B (br p n T (EU.2 i') (A.2 l)) k) ∧ Off (fun b j => b = 66 ∨ b = 67) σ t) n ?_ ?_ 0 (by omega) σ ⟨by omega, fun i' k _ _ => by omega, Off_rfl⟩
  · rintro t ⟨_, ht, hO⟩
    have hnt : t a 2 = n := (hO a 2 (by omega)).trans hn
    refine s_An_bind_3 ⟨ho, fun _ => ?_, fun q => by omega⟩
    refine loop_up (P := fun k u => L (d + 4) M_An_bind 89 [vA 42, vA a, vU, vU, vU, vI k, vU] [] u Q)
      (fun k u => 0 ≤ k ∧ EC u 58 p n (lp (fun k E => ins p n E (fun i => rd p n B (br p n T (EU.2 i) (A.2 l)) k)) 0 k E) ∧ Off (fun b j => (b = 58 ∧ (j = 5 ∨ j = 6)) ∨ b = 59 ∨ b = 60) t u) n ?_ ?_ 0 (by omega) t ⟨by omega, by rw [lp_nil (by omega)]; exact hE.cg (fun k => hO 58 k (by omega)) (fun k => hO 59 k (by omega)), Off_rfl⟩
    · rintro u ⟨_, hEu, hOu⟩
      have hnu : u a 2 = n := (hOu a 2 (by omega)).trans hnt
      exact s_An_bind_89 ⟨ho, fun _ => h u hEu (Off_trans (Off_mono hO (fun b j q => by omega)) (Off_mono hOu (fun b j q => by omega))), fun q => by omega⟩
    · rintro k u hk ⟨k0, hEu, hOu⟩ ih
      have hnu : u a 2 = n := (hOu a 2 (by omega)).trans hnt
      refine s_An_bind_89 ⟨ho, fun q => by omega, fun _ => ?_⟩
      rw [w32_id (x := k * 5) (by omega) (by omega), w32_id (x := k + 1) (by omega) (by omega)]
      have hval : ∀ c, 0 ≤ c → c < n → u 67 (k * 5 + c) = rd p n B (br p n T (EU.2 c) (A.2 l)) k := fun c c0 c1 => by rw [hOu 67 _ (by omega)]; exact ht c k c0 c1 k0 hk
      refine Ec_add_s hEu kd_67 (by omega) (by omega) (by omega) (by omega) (fun c c0 c1 => ?_) (fun r u2 hE2 _ hO2 => ih u2 ⟨by omega, ?_, Off_trans hOu hO2⟩)
      · rw [hval c c0 c1]; exact rd_in (by omega)
      · rw [lp_succ k0]
        exact hE2.to (ESm.rfl'.insv (by omega) hval)
  · rintro i t hi ⟨i0, ht, hO⟩ ih
    have hWt : WD t a p n T := hW.cg (fun k => hO a k (by omega)) (fun k => hO (a + 1) k (by omega))
    have hnt : t a 2 = n := hWt.2.2.1
    have hAt : EC t e p n A := hA.cg (fun k => hO e k (by omega)) (fun k => hO (e + 1) k (by omega))
    have hBt : EC t f p n B := hB.cg (fun k => hO f k (by omega)) (fun k => hO (f + 1) k (by omega))
    refine L_units_of (fun hUN => ?_)
    refine s_An_bind_3 ⟨ho, fun q => by omega, fun _ => ⟨hA.1, ho, ?_⟩⟩
    rw [w32_id (x := i * 5) (by omega) (by omega), w32_id (x := l * 5) (by omega) (by omega)]
    refine Wd_br_s hWt kd_m2 kx1 (by omega) kd_66 (by omega) (by omega) (by omega) (by omega) (by omega) (by omega) (by omega) (by omega) (by omega) (by omega) (by omega) (hUN.row i0 (by omega) b1 b4) (hAt.rowb (stl5 he.2.1 he.2.2) l0 l1 hl) (fun u hu hOu => ⟨hB.1, ?_⟩)
    refine Ec_reduce_s (hBt.cg (fun k => hOu f k (by omega)) (fun k => hOu (f + 1) k (by omega))) (by omega) kd_66 (by omega) (by omega) (by omega) (fun c c0 c1 => by rw [(hu c c0 c1).1]; exact (hu c c0 c1).2) (fun u2 hu2 hO2 => ?_)
    have hO2' : Off (fun b j => b = 66 ∨ b = 67) σ u2 := Off_trans hO (Off_trans (Off_mono hOu (fun b j q => by omega)) (Off_mono hO2 (fun b j q => by omega)))
    refine loop_up (P := fun k v => L (d + 4) M_An_bind 46 [vA 42, vA a, vA e, vI l, vA f, vI i, vI k] [] v Q)
      (fun k v => 0 ≤ k ∧ (∀ i' k', 0 ≤ i' → i' < i → 0 ≤ k' → k' < n → v 67 (k' * 5 + i') = rd p n B (br p n T (EU.2 i') (A.2 l)) k') ∧ (∀ k', 0 ≤ k' → k' < k → v 67 (k' * 5 + i) = rd p n B (br p n T (EU.2 i) (A.2 l)) k') ∧ Off (fun b j => b = 67) u2 v) n ?_ ?_ 0 (by omega) u2 ⟨by omega, fun i' k' g0 g1 g2 g3 => ?_, fun k' _ _ => by omega, Off_rfl⟩
    · rintro v ⟨_, h1, h2, hOv⟩
      have hnv : v a 2 = n := (hOv a 2 (by omega)).trans ((hO2' a 2 (by omega)).trans hn)
      refine s_An_bind_46 ⟨ho, fun _ => ?_, fun q => by omega⟩
      rw [w32_id (by omega) (by omega)]
      refine ih v ⟨by omega, fun i' k' g0 g1 g2 g3 => ?_, Off_trans hO2' (Off_mono hOv (fun b j q => by omega))⟩
      by_cases hi' : i' = i
      · subst hi'; exact h2 k' g2 g3
      · exact h1 i' k' g0 (by omega) g2 g3
    · rintro k v hk ⟨k0, h1, h2, hOv⟩ ih2
      have hnv : v a 2 = n := (hOv a 2 (by omega)).trans ((hO2' a 2 (by omega)).trans hn)
      refine s_An_bind_46 ⟨ho, fun q => by omega, fun _ => ?_⟩
      rw [w32_id (x := k * 5) (by omega) (by omega), w32_id (x := k * 5 + i) (by omega) (by omega), w32_id (x := k + 1) (by omega) (by omega)]
      have hv66 : v 66 k = rd p n B (br p n T (EU.2 i) (A.2 l)) k := by
        rw [hOv 66 k (by omega), hu2 k k0 hk]
        exact rd_cg (fun c c0 c1 => (hu c c0 c1).1) k0 hk
      refine ⟨⟨k0, by omega⟩, ⟨by omega, by omega⟩, fun v2 e2 => ih2 v2 ⟨by omega, fun i' k' g0 g1 g2 g3 => ?_, fun k' g0 g1 => ?_, Off_trans hOv (by rw [e2]; exact Off_up rfl)⟩⟩
      · rw [e2, up_ne (by omega)]; exact h1 i' k' g0 g1 g2 g3
      · by_cases hkk : k' = k
        · subst hkk; rw [e2, up_same]; exact hv66
        · rw [e2, up_ne (by omega)]; exact h2 k' g0 (by omega)
    · rw [hO2 67 _ (by omega), hOu 67 _ (by omega)]; exact ht i' k' g0 g1 g2 g3
theorem An_sizeOfMovers_s {a e f p n : Int} {T : Int → Int} {A B : ES} (hW : WD σ a p n T) (ha : a ≤ 20) (hST : ST σ) (hA : EC σ e p n A) (hB : EC σ f p n B) (he : e ≠ 58 ∧ e ≠ 69 ∧ e ≠ 107) (hf : f ≠ 58)
    (h : ∀ σ', ST σ' → Off (fun b j => b = 66 ∨ b = 67 ∨ (b = 58 ∧ 3 ≤ j ∧ j ≤ 6) ∨ b = 59 ∨ b = 60) σ σ' → Q (n - cd (mvr p n T A B).1 n) σ') : Tri (d + 5) M_An_sizeOfMovers [vA 42, vA a, vA e, vA f] σ Q := by
  obtain ⟨b1, b2, b3, b4⟩ := hW.pn.b
  obtain ⟨ho, hp, hn, _, hT⟩ := id hW
  obtain ⟨kw1, _, _⟩ := kd_world ho
  have hel := ech_list hA.1
  have hfl := ech_list hB.1
  refine t_An_sizeOfMovers ⟨ho, ho, ?_⟩
  rw [hp, hn]
  refine Ec_begin_s ob_58 (hST 58 ob_58) hW.pn.pr (by omega) (by rw [stl5 (by omega) (by omega)]; omega) (fun s1 hE1 hO1 => ?_)
  refine loop_up (P := fun l t => L (d + 5) M_An_sizeOfMovers 18 [vA 42, vA a, vA e, vA f, vI l] [] t Q)
    (fun l t => 0 ≤ l ∧ EC t 58 p n (lp (fun l E => if A.1 l = true then bnd p n T (A.2 l) B E else E) 0 l E0) ∧ Off (fun b j => b = 66 ∨ b = 67 ∨ (b = 58 ∧ 3 ≤ j ∧ j ≤ 6) ∨ b = 59 ∨ b = 60) σ t) n ?_ ?_ 0 (by omega) s1 ⟨by omega, by rw [lp_nil (by omega)]; exact hE1, Off_mono hO1 (fun b j q => by omega)⟩
  · rintro t ⟨_, hEt, hOt⟩
    have hnt : t a 2 = n := (hOt a 2 (by omega)).trans hn
    refine s_An_sizeOfMovers_18 ⟨ho, fun _ => ⟨ho, ?_⟩, fun q => by omega⟩
    have hc : t 58 5 = cd (mvr p n T A B).1 n := hEt.2.2.2.2.1
    obtain ⟨c1, c2⟩ := cd_b (ℓ := (mvr p n T A B).1) (w := n) (by omega)
    rw [hnt, hc, w32_id (by omega) (by omega)]
    exact h t (hST.off hOt (fun e h' => by have := ech_list h'; omega)) hOt
  · rintro l t hl ⟨l0, hEt, hOt⟩ ih
    have hnt : t a 2 = n := (hOt a 2 (by omega)).trans hn
    have hAt : EC t e p n A := hA.cg (fun k => hOt e k (by omega)) (fun k => hOt (e + 1) k (by omega))
    have hBt : EC t f p n B := hB.cg (fun k => hOt f k (by omega)) (fun k => hOt (f + 1) k (by omega))
    refine s_An_sizeOfMovers_18 ⟨ho, fun q => by omega, fun _ => ⟨hA.1, ?_⟩⟩
    rw [w32_id (by omega) (by omega)]
    refine Ec_leadsAt_s hAt l0 hl (fun g1 => ⟨fun q => by omega, fun _ => ?_⟩) (fun g1 => ⟨fun _ => ih t ⟨by omega, by rw [lp_succ l0, if_neg (by rw [g1]; simp)]; exact hEt, hOt⟩, fun q => by omega⟩)
    refine An_bind_s (hW.cg (fun k => hOt a k (by omega)) (fun k => hOt (a + 1) k (by omega))) ha hAt hBt hEt he hf l0 hl g1 (fun t2 hE2 hO2 => ih t2 ⟨by omega, by rw [lp_succ l0, if_pos g1]; exact hE2, Off_trans hOt (Off_mono hO2 (fun b j q => by omega))⟩)
theorem An_centreSize_s {a p n : Int} {T : Int → Int} (hW : WD σ a p n T) (ha : a ≤ 20) (hST : ST σ)
    (h : ∀ σ', ST σ' → Off (fun b j => 49 ≤ b ∧ b ≤ 67) σ σ' → Q (n - cd (mvr p n T EU E0).1 n) σ') : Tri (d + 6) M_An_centreSize [vA 42, vA a] σ Q := by
  obtain ⟨b1, b2, b3, b4⟩ := hW.pn.b
  obtain ⟨ho, hp, hn, _, hT⟩ := id hW
  obtain ⟨kw1, _, _⟩ := kd_world ho
  refine t_An_centreSize ⟨ho, ho, ?_⟩
  rw [hp, hn]
  refine Ec_beginWhole_s ob_49 (hST 49 ob_49) hW.pn.pr (by omega) b4 (fun s1 hE1 hO1 => ⟨ho, ho, ?_⟩)
  have hW1 : WD s1 a p n T := hW.cg (fun k => hO1 a k (by omega)) (fun k => hO1 (a + 1) k (by omega))
  have hST1 : ST s1 := hST.off hO1 (fun e h' => by have := ech_list h'; omega)
  rw [hW1.2.1, hW1.2.2.1]
  refine Ec_begin_s ob_52 (hST1 52 ob_52) hW.pn.pr (by omega) (by rw [stl5 (by omega) (by omega)]; omega) (fun s2 hE2 hO2 => ?_)
  refine An_sizeOfMovers_s (hW1.cg (fun k => hO2 a k (by omega)) (fun k => hO2 (a + 1) k (by omega))) ha (hST1.off hO2 (fun e h' => by have := ech_list h'; omega)) (hE1.cg (fun k => hO2 49 k (by omega)) (fun k => hO2 50 k (by omega))) hE2 (by omega) (by omega) (fun s3 hS3 hO3 => h s3 hS3 (Off_trans (Off_mono hO1 (fun b j q => by omega)) (Off_trans (Off_mono hO2 (fun b j q => by omega)) (Off_mono hO3 (fun b j q => by omega)))))
theorem An_centralizerSize_s {a x p n : Int} {T : Int → Int} (hW : WD σ a p n T) (ha : a ≤ 20) (hST : ST σ) (hx : 0 ≤ x)
    (h : ∀ σ', ST σ' → Off (fun b j => 49 ≤ b ∧ b ≤ 67) σ σ' → Q (n - cd (mvr p n T (ins p n E0 (dg p x)) E0).1 n) σ') : Tri (d + 6) M_An_centralizerSize [vA 42, vA a, vI x] σ Q := by
  obtain ⟨b1, b2, b3, b4⟩ := hW.pn.b
  obtain ⟨ho, hp, hn, _, hT⟩ := id hW
  obtain ⟨kw1, _, _⟩ := kd_world ho
  refine t_An_centralizerSize (fun _ => ⟨ho, ?_⟩)
  refine Wd_unpack_s ho (by rw [hp, hn]; exact hW.pn) (by omega) kd_66 (by omega) (by omega) (by rw [hn]; omega) (by omega) hx (fun s1 h1 hO1 => ⟨ho, ho, ?_⟩)
  rw [hp, hn] at h1
  rw [hn] at hO1
  have hW1 : WD s1 a p n T := hW.cg (fun k => hO1 a k (by omega)) (fun k => hO1 (a + 1) k (by omega))
  have hST1 : ST s1 := hST.off hO1 (fun e h' => by have := ech_list h'; omega)
  rw [hW1.2.1, hW1.2.2.1]
  refine Ec_begin_s ob_55 (hST1 55 ob_55) hW.pn.pr (by omega) (by rw [stl5 (by omega) (by omega)]; omega) (fun s2 hE2 hO2 => ?_)
  have hv : ∀ c, 0 ≤ c → c < n → s2 66 (0 + c) = dg p x c := fun c c0 c1 => by rw [hO2 66 _ (by omega)]; exact h1 c c0 c1
  refine Ec_add_s hE2 kd_66 (by omega) (by omega) (by omega) (by omega) (fun c c0 c1 => by rw [hv c c0 c1]; exact ⟨Int.emod_nonneg _ (by omega), Int.emod_lt_of_pos _ (by omega)⟩) (fun r s3 hE3 _ hO3 => ⟨ho, ho, ?_⟩)
  have hW3 : WD s3 a p n T := hW1.cg (fun k => (hO3 a k (by omega)).trans (hO2 a k (by omega))) (fun k => (hO3 (a + 1) k (by omega)).trans (hO2 (a + 1) k (by omega)))
  have hST3 : ST s3 := (hST1.off hO2 (fun e h' => by have := ech_list h'; omega)).off hO3 (fun e h' => by have := ech_list h'; omega)
  have hE3' : EC s3 55 p n (ins p n E0 (dg p x)) := hE3.to (ESm.rfl'.insv (by omega) hv)
  rw [hW3.2.1, hW3.2.2.1]
  refine Ec_begin_s ob_52 (hST3 52 ob_52) hW.pn.pr (by omega) (by rw [stl5 (by omega) (by omega)]; omega) (fun s4 hE4 hO4 => ?_)
  refine An_sizeOfMovers_s (hW3.cg (fun k => hO4 a k (by omega)) (fun k => hO4 (a + 1) k (by omega))) ha (hST3.off hO4 (fun e h' => by have := ech_list h'; omega)) (hE3'.cg (fun k => hO4 55 k (by omega)) (fun k => hO4 56 k (by omega))) hE4 (by omega) (by omega) (fun s5 hS5 hO5 => h s5 hS5 (Off_trans (Off_mono hO1 (fun b j q => by omega)) (Off_trans (Off_mono hO2 (fun b j q => by omega)) (Off_trans (Off_mono hO3 (fun b j q => by omega)) (Off_trans (Off_mono hO4 (fun b j q => by omega)) (Off_mono hO5 (fun b j q => by omega)))))))
end ANA
