/-! ===== derivations, the form: of both ===== -/
theorem kn_b {k n m : Int} (k0 : 0 ≤ k) (k1 : k < n) (hn : n ≤ 5) (m0 : 0 ≤ m) (m1 : m < n) : 0 ≤ k * n ∧ k * n ≤ 20 ∧ 0 ≤ k * n + m ∧ k * n + m < n * n ∧ n * n ≤ 25 := by
  have h1 : k * n ≤ (n - 1) * n := Int.mul_le_mul_of_nonneg_right (by omega) (by omega)
  rw [Int.sub_mul, Int.one_mul] at h1
  have h2 : n * n ≤ 5 * 5 := Int.mul_le_mul hn hn (by omega) (by omega)
  have h3 := Int.mul_nonneg k0 (show 0 ≤ n by omega)
  have h4 : k * n ≤ 4 * 5 := Int.mul_le_mul (by omega) hn (by omega) (by omega)
  omega
theorem s6 {f : Int → Int} (hf : ∀ k, 0 ≤ f k ∧ f k ≤ 6) : ∀ t, 0 ≤ t → 0 ≤ sR f 0 t ∧ sR f 0 t ≤ 6 * t := by
  refine up_ind (P := fun t => 0 ≤ sR f 0 t ∧ sR f 0 t ≤ 6 * t) ?_ ?_
  · rw [sR_nil (by omega)]; omega
  · intro k hk ih
    rw [sR_succ hk]
    have := hf k
    omega
/-- the parts of an equation, so far -/
def dA (n : Int) (T : Int → Int) (i j m t u : Int) : Int := sR (fun k => if u = k * n + m then T (25 * i + 5 * j + k) else 0) 0 t
def dB (n : Int) (T : Int → Int) (i j m t u : Int) : Int := sR (fun b => if u = i * n + b then T (25 * b + 5 * j + m) else 0) 0 t
def dC (n : Int) (T : Int → Int) (i j m t u : Int) : Int := sR (fun b => if u = j * n + b then T (25 * i + 5 * b + m) else 0) 0 t
def drw (p n : Int) (T : Int → Int) (i j m u : Int) : Int := (dA n T i j m n u - dB n T i j m n u - dC n T i j m n u) % p
def DRV (p n : Int) (T : Int → Int) : ES := lp (fun i E => lp (fun j E => lp (fun m E => ins p (n * n) E (drw p n T i j m)) 0 n E) (i + 1) n E) 0 n E0
theorem dbnd {p n : Int} {T : Int → Int} (hT : TW p n T) {i j m t u : Int} (i0 : 0 ≤ i) (i1 : i < n) (j0 : 0 ≤ j) (j1 : j < n) (m0 : 0 ≤ m) (m1 : m < n) (t0 : 0 ≤ t) (t1 : t ≤ n) : (0 ≤ dA n T i j m t u ∧ dA n T i j m t u ≤ 30) ∧ (0 ≤ dB n T i j m t u ∧ dB n T i j m t u ≤ 30) ∧ (0 ≤ dC n T i j m t u ∧ dC n T i j m t u ≤ 30) := by
  obtain ⟨b1, b2, b3, b4⟩ := hT.1.b
  have hb : ∀ q, 0 ≤ q → q < 125 → 0 ≤ T q ∧ T q ≤ 6 := fun q q0 q1 => by have := hT.2.1 q q0 q1; omega
  have key : ∀ f : Int → Int, (∀ k, 0 ≤ k → k < t → 0 ≤ f k ∧ f k ≤ 6) → 0 ≤ sR f 0 t ∧ sR f 0 t ≤ 30 := fun f hf => by
    have e : sR f 0 t = sR (fun k => if 0 ≤ k ∧ k < t then f k else 0) 0 t := sR_congr (fun k k0 k1 => by rw [if_pos ⟨k0, k1⟩])
    have := s6 (f := fun k => if 0 ≤ k ∧ k < t then f k else 0) (fun k => by
      by_cases g : 0 ≤ k ∧ k < t
      · rw [if_pos g]; exact hf k g.1 g.2
      · rw [if_neg g]; omega) t t0
    omega
  refine ⟨key _ (fun k k0 k1 => ?_), key _ (fun k k0 k1 => ?_), key _ (fun k k0 k1 => ?_)⟩
  · split
    · exact hb _ (by omega) (by omega)
    · omega
  · split
    · exact hb _ (by omega) (by omega)
    · omega
  · split
    · exact hb _ (by omega) (by omega)
    · omega
/-- the form's numbers -/
def frm (p n : Int) (T : Int → Int) (i j : Int) : Int := sR (fun a => sR (fun b => T (25 * i + 5 * a + b) * T (25 * j + 5 * b + a)) 0 n) 0 n % p
def FRM (p n : Int) (T : Int → Int) : ES := lp (fun i E => ins p n E (frm p n T i)) 0 n E0
section DER
variable {d : Nat} {σ : SG} {Q : Int → SG → Prop}
theorem WD.cell {a p n i j k : Int} {T : Int → Int} (hW : WD σ a p n T) (hi : 0 ≤ i ∧ i < n) (hj : 0 ≤ j ∧ j < n) (hk : 0 ≤ k ∧ k < n) (h : Q (T (25 * i + 5 * j + k)) σ) : Tri (d + 1) M_Wd_cell [vA a, vI i, vI j, vI k] σ Q := by
  have hb := hW.pn.b
  obtain ⟨ho, hp, hn, hT, _⟩ := hW
  exact Wd_cell_s ho (by omega) (by omega) (by omega) (by omega) (by rw [hT]; exact h)
theorem Me_isUnimodular_s {a p n : Int} {T : Int → Int} (hW : WD σ a p n T) (h1 : UNI p n T → Q 1 σ) (h0 : ¬ UNI p n T → Q 0 σ) : Tri (d + 2) M_Me_isUnimodular [vA 68, vA a] σ Q := by
  obtain ⟨b1, b2, b3, b4⟩ := hW.pn.b
  obtain ⟨ho, hp, hn, _, hT⟩ := id hW
  refine t_Me_isUnimodular ?_
  refine loop_up (S := Unit) (P := fun i _ => L (d + 2) M_Me_isUnimodular 2 [vU, vA a, vI i, vU, vU] [] σ Q)
    (fun i _ => 0 ≤ i ∧ ∀ j, 0 ≤ j → j < i → sR (fun b => T (25 * j + 5 * b + b)) 0 n % p = 0) n ?_ ?_ 0 (by omega) () ⟨by omega, fun j _ _ => by omega⟩
  · rintro _ ⟨_, hall⟩
    exact s_Me_isUnimodular_2 ⟨ho, fun _ => h1 hall, fun q => by omega⟩
  · rintro i _ hi ⟨i0, hall⟩ ih
    refine s_Me_isUnimodular_2 ⟨ho, fun q => by omega, fun _ => ?_⟩
    refine loop_up (P := fun b c => L (d + 2) M_Me_isUnimodular 15 [vU, vA a, vI i, vI c, vI b] [] σ Q)
      (fun b c => 0 ≤ b ∧ (0 ≤ c ∧ c ≤ 7 * b) ∧ c = sR (fun b => T (25 * i + 5 * b + b)) 0 b) n ?_ ?_ 0 (by omega) 0 ⟨by omega, by omega, by rw [sR_nil (by omega)]⟩
    · rintro c ⟨_, hcb, hc⟩
      refine s_Me_isUnimodular_15 ⟨ho, fun _ => ⟨ho, ?_⟩, fun q => by omega⟩
      rw [hp]
      refine X_mod_s b1 ⟨fun q => ?_, fun q => h0 (fun z => q (by rw [hc]; exact z i i0 hi))⟩
      rw [w32_id (by omega) (by omega)]
      refine ih () ⟨by omega, fun j j0 j1 => ?_⟩
      by_cases g : j = i
      · subst g; rw [← hc]; exact q
      · exact hall j j0 (by omega)
    · rintro b c hb ⟨b0, hcb, hc⟩ ih2
      refine s_Me_isUnimodular_15 ⟨ho, fun q => by omega, fun _ => ⟨ho, hW.cell ⟨i0, hi⟩ ⟨b0, hb⟩ ⟨b0, hb⟩ ?_⟩⟩
      have := hT.2.1 (25 * i + 5 * b + b) (by omega) (by omega)
      rw [w32_id (by omega) (by omega), w32_id (by omega) (by omega)]
      exact ih2 _ ⟨by omega, by omega, by rw [sR_succ b0, hc]⟩
theorem Me_bindDerivation_s {a p n i j m : Int} {T : Int → Int} {E : ES} (hW : WD σ a p n T) (ha : a ≤ 20) (hE : EC σ 69 p (n * n) E) (i0 : 0 ≤ i) (i1 : i < n) (j0 : 0 ≤ j) (j1 : j < n) (m0 : 0 ≤ m) (m1 : m < n)
    (h : ∀ σ', EC σ' 69 p (n * n) (ins p (n * n) E (drw p n T i j m)) → Off (fun b j => (b = 69 ∧ (j = 5 ∨ j = 6)) ∨ b = 70 ∨ b = 71 ∨ b = 72) σ σ' → Q 0 σ') : Tri (d + 3) M_Me_bindDerivation [vA 68, vA a, vI i, vI j, vI m] σ Q := by
  obtain ⟨b1, b2, b3, b4⟩ := hW.pn.b
  obtain ⟨ho, hp, hn, _, hT⟩ := id hW
  obtain ⟨kw1, _, _⟩ := kd_world ho
  have hnn := (kn_b i0 i1 b4 m0 m1).2.2.2.2
  have hnn0 : 0 ≤ n * n := Int.mul_nonneg (by omega) (by omega)
  refine t_Me_bindDerivation (fun _ _ _ => ⟨ho, JA_fill_s (by omega) kd_72 (by omega) ?_⟩)
  rw [hn]
  refine loop_up (P := fun t s => L (d + 3) M_Me_bindDerivation 17 [vA 68, vA a, vI i, vI j, vI m, vI n, vI t] [] s Q)
    (fun t s => 0 ≤ t ∧ (∀ u, 0 ≤ u → u < 25 → s 72 u = dA n T i j m t u - dB n T i j m t u - dC n T i j m t u) ∧ Off (fun b j => b = 72) σ s) n ?_ ?_ 0 (by omega) _ ⟨by omega, fun u u0 u1 => ?_, fun b k hb => fil_ne (by omega)⟩
  · rintro s ⟨_, hs, hO⟩
    refine s_Me_bindDerivation_17 ⟨fun _ => ?_, fun q => by omega⟩
    refine loop_up (P := fun u s => L (d + 3) M_Me_bindDerivation 105 [vA 68, vA a, vU, vU, vU, vI n, vI u] [] s Q)
      (fun u s2 => 0 ≤ u ∧ (∀ c, 0 ≤ c → c < u → s2 72 c = drw p n T i j m c) ∧ (∀ c, u ≤ c → c < 25 → s2 72 c = s 72 c) ∧ Off (fun b j => b = 72) σ s2) (n * n) ?_ ?_ 0 hnn0 s ⟨by omega, fun c _ _ => by omega, fun _ _ _ => rfl, hO⟩
    · rintro s2 ⟨_, hs2, _, hO2⟩
      refine s_Me_bindDerivation_105 ⟨fun _ => ?_, fun q => by rw [w32_id (by omega) (by omega)] at q; omega⟩
      have hval : ∀ c, 0 ≤ c → c < n * n → s2 72 (0 + c) = drw p n T i j m c := fun c c0 c1 => by rw [show (0 : Int) + c = c by omega]; exact hs2 c c0 c1
      refine Ec_add_s (hE.cg (fun k => hO2 69 k (by omega)) (fun k => hO2 70 k (by omega))) kd_72 (by omega) (by omega) (by omega) (by omega) (fun c c0 c1 => by rw [hval c c0 c1]; exact ⟨Int.emod_nonneg _ (by omega), Int.emod_lt_of_pos _ (by omega)⟩) (fun r s3 hE3 _ hO3 => h s3 (hE3.to (ESm.rfl'.insv hnn0 hval)) (Off_trans (Off_mono hO2 (fun b j q => by omega)) (Off_mono hO3 (fun b j q => by omega))))
    · rintro u s2 hu ⟨u0, hs2, hs2', hO2⟩ ih2
      refine s_Me_bindDerivation_105 ⟨fun q => by rw [w32_id (by omega) (by omega)] at q; omega, fun _ => ⟨⟨u0, by omega⟩, ho, ?_⟩⟩
      rw [hs2' u (by omega) (by omega), hs u u0 (by omega), (hO2 a 1 (by omega)).trans hp, w32_id (x := u + 1) (by omega) (by omega)]
      refine X_mod_s b1 ⟨⟨u0, by omega⟩, fun s4 e4 => ih2 s4 ⟨by omega, fun c c0 c1 => ?_, fun c c0 c1 => ?_, fun b k hb => by rw [e4, up_ne (by omega)]; exact hO2 b k hb⟩⟩
      · by_cases hc : c = u
        · subst hc; rw [e4, up_same]; rfl
        · rw [e4, up_ne (by omega)]; exact hs2 c c0 (by omega)
      · rw [e4, up_ne (by omega)]; exact hs2' c (by omega) c1
  · rintro t s ht ⟨t0, hs, hO⟩ ih
    have q1 := kn_b t0 ht b4 m0 m1
    have q2 := kn_b i0 i1 b4 t0 ht
    have q3 := kn_b j0 j1 b4 t0 ht
    have hWs : WD s a p n T := hW.cg (fun k => hO a k (by omega)) (fun k => hO (a + 1) k (by omega))
    have bd := fun u => dbnd (u := u) hT i0 i1 j0 j1 m0 m1 t0 (by omega)
    have tb1 := hT.2.1 (25 * i + 5 * j + t) (by omega) (by omega)
    have tb2 := hT.2.1 (25 * t + 5 * j + m) (by omega) (by omega)
    have tb3 := hT.2.1 (25 * i + 5 * t + m) (by omega) (by omega)
    refine s_Me_bindDerivation_17 ⟨fun q => by omega, fun _ => ?_⟩
    rw [w32_id (x := t * n) (by omega) (by omega), w32_id (x := i * n) (by omega) (by omega), w32_id (x := j * n) (by omega) (by omega), w32_id (x := t * n + m) (by omega) (by omega), w32_id (x := i * n + t) (by omega) (by omega), w32_id (x := j * n + t) (by omega) (by omega), w32_id (x := t + 1) (by omega) (by omega)]
    refine ⟨⟨by omega, by omega⟩, ho, hWs.cell ⟨i0, i1⟩ ⟨j0, j1⟩ ⟨t0, ht⟩ ⟨⟨by omega, by omega⟩, fun s3 e3 => ⟨⟨by omega, by omega⟩, ho, ?_⟩⟩⟩
    have v1 : ∀ u, 0 ≤ u → u < 25 → s3 72 u = s 72 u + (if u = t * n + m then T (25 * i + 5 * j + t) else 0) := fun u u0 u1 => by
      by_cases g : u = t * n + m
      · have b0 := bd u
        have hsu := hs u u0 u1
        rw [if_pos g, e3, g, up_same]
        rw [g] at hsu b0
        exact w32_id (by omega) (by omega)
      · rw [if_neg g, e3, up_ne (by omega)]; omega
    have hW3 : WD s3 a p n T := hWs.cg (fun k => by rw [e3, up_ne (by omega)]) (fun k => by rw [e3, up_ne (by omega)])
    refine hW3.cell ⟨t0, ht⟩ ⟨j0, j1⟩ ⟨m0, m1⟩ ⟨⟨by omega, by omega⟩, fun s5 e5 => ⟨⟨by omega, by omega⟩, ho, ?_⟩⟩
    have v2 : ∀ u, 0 ≤ u → u < 25 → s5 72 u = s3 72 u - (if u = i * n + t then T (25 * t + 5 * j + m) else 0) := fun u u0 u1 => by
      by_cases g : u = i * n + t
      · have b0 := bd u
        have hsu := hs u u0 u1
        have h3 := v1 u u0 u1
        have h4 : 0 ≤ (if u = t * n + m then T (25 * i + 5 * j + t) else 0) ∧ (if u = t * n + m then T (25 * i + 5 * j + t) else 0) ≤ 7 := by split <;> omega
        rw [if_pos g, e5, g, up_same]
        rw [g] at hsu b0 h3 h4
        exact w32_id (by omega) (by omega)
      · rw [if_neg g, e5, up_ne (by omega)]; omega
    have hW5 : WD s5 a p n T := hW3.cg (fun k => by rw [e5, up_ne (by omega)]) (fun k => by rw [e5, up_ne (by omega)])
    refine hW5.cell ⟨i0, i1⟩ ⟨t0, ht⟩ ⟨m0, m1⟩ ⟨⟨by omega, by omega⟩, fun s7 e7 => ih s7 ⟨by omega, fun u u0 u1 => ?_, fun b k hb => ?_⟩⟩
    · have b0 := bd u
      have hsu := hs u u0 u1
      have h3 := v1 u u0 u1
      have h5 := v2 u u0 u1
      have h4 : 0 ≤ (if u = t * n + m then T (25 * i + 5 * j + t) else 0) ∧ (if u = t * n + m then T (25 * i + 5 * j + t) else 0) ≤ 7 := by split <;> omega
      have h6 : 0 ≤ (if u = i * n + t then T (25 * t + 5 * j + m) else 0) ∧ (if u = i * n + t then T (25 * t + 5 * j + m) else 0) ≤ 7 := by split <;> omega
      have v3 : s7 72 u = s5 72 u - (if u = j * n + t then T (25 * i + 5 * t + m) else 0) := by
        by_cases g : u = j * n + t
        · rw [if_pos g, e7, g, up_same]
          rw [g] at hsu b0 h3 h5 h4 h6
          exact w32_id (by omega) (by omega)
        · rw [if_neg g, e7, up_ne (by omega)]; omega
      rw [v3, h5, h3, hsu]
      unfold dA dB dC
      rw [sR_succ t0, sR_succ t0, sR_succ t0]
      omega
    · rw [e7, up_ne (by omega), e5, up_ne (by omega), e3, up_ne (by omega)]; exact hO b k hb
  · rw [fil_in (by omega) (by omega)]
    unfold dA dB dC
    rw [sR_nil (by omega), sR_nil (by omega), sR_nil (by omega)]; rfl
theorem Me_derivationSize_s {a p n : Int} {T : Int → Int} (hW : WD σ a p n T) (ha : a ≤ 20) (hST : ST σ) (h : ∀ σ', ST σ' → Off (fun b j => 69 ≤ b ∧ b ≤ 77) σ σ' → Q (n * n - cd (DRV p n T).1 (n * n)) σ') : Tri (d + 4) M_Me_derivationSize [vA 68, vA a] σ Q := by
  obtain ⟨b1, b2, b3, b4⟩ := hW.pn.b
  obtain ⟨ho, hp, hn, _, hT⟩ := id hW
  obtain ⟨kw1, _, _⟩ := kd_world ho
  have hnn := (kn_b (k := 0) (n := n) (m := 0) (by omega) (by omega) b4 (by omega) (by omega)).2.2.2.2
  have hnn0 : 0 ≤ n * n := Int.mul_nonneg (by omega) (by omega)
  refine t_Me_derivationSize ⟨ho, ho, ?_⟩
  rw [hp, hn, w32_id (by omega) (by omega)]
  refine Ec_begin_s ob_69 (hST 69 ob_69) hW.pn.pr hnn0 (by unfold stl; rw [if_pos (by omega)]; omega) (fun s1 hE1 hO1 => ?_)
  have hO1' : Off (fun b j => (b = 69 ∧ 3 ≤ j ∧ j ≤ 6) ∨ b = 70 ∨ b = 71 ∨ b = 72) σ s1 := Off_mono hO1 (fun b j q => by omega)
  refine loop_up (P := fun i s => L (d + 4) M_Me_derivationSize 21 [vA 68, vA a, vI n, vI i, vU, vU] [] s Q)
    (fun i s => 0 ≤ i ∧ EC s 69 p (n * n) (lp (fun i E => lp (fun j E => lp (fun m E => ins p (n * n) E (drw p n T i j m)) 0 n E) (i + 1) n E) 0 i E0) ∧ Off (fun b j => (b = 69 ∧ 3 ≤ j ∧ j ≤ 6) ∨ b = 70 ∨ b = 71 ∨ b = 72) σ s) n ?_ ?_ 0 (by omega) s1 ⟨by omega, by rw [lp_nil (by omega)]; exact hE1, hO1'⟩
  · rintro s ⟨_, hE, hO⟩
    refine s_Me_derivationSize_21 ⟨fun _ => ?_, fun q => by omega⟩
    have hc : s 69 5 = cd (DRV p n T).1 (n * n) := hE.2.2.2.2.1
    have hcb := cd_b (ℓ := (DRV p n T).1) hnn0
    rw [hc, w32_id (x := n * n) (by omega) (by omega), w32_id (by omega) (by omega)]
    exact h s (hST.off hO (fun e h' => by have := ech_list h'; omega)) (Off_mono hO (fun b j q => by omega))
  · rintro i s hi ⟨i0, hE, hO⟩ ih
    refine s_Me_derivationSize_21 ⟨fun q => by omega, fun _ => ?_⟩
    rw [w32_id (by omega) (by omega)]
    generalize hX : lp (fun i E => lp (fun j E => lp (fun m E => ins p (n * n) E (drw p n T i j m)) 0 n E) (i + 1) n E) 0 i E0 = X at hE
    refine loop_up (P := fun j s => L (d + 4) M_Me_derivationSize 31 [vA 68, vA a, vI n, vI i, vI j, vU] [] s Q)
      (fun j s => i + 1 ≤ j ∧ EC s 69 p (n * n) (lp (fun j E => lp (fun m E => ins p (n * n) E (drw p n T i j m)) 0 n E) (i + 1) j X) ∧ Off (fun b j => (b = 69 ∧ 3 ≤ j ∧ j ≤ 6) ∨ b = 70 ∨ b = 71 ∨ b = 72) σ s) n ?_ ?_ (i + 1) (by omega) s ⟨by omega, by rw [lp_nil (by omega)]; exact hE, hO⟩
    · rintro s2 ⟨_, hE2, hO2⟩
      refine s_Me_derivationSize_31 ⟨fun _ => ?_, fun q => by omega⟩
      rw [w32_id (by omega) (by omega)]
      exact ih s2 ⟨by omega, by rw [lp_succ i0, hX]; exact hE2, hO2⟩
    · rintro j s2 hj ⟨j0, hE2, hO2⟩ ih2
      refine s_Me_derivationSize_31 ⟨fun q => by omega, fun _ => ?_⟩
      generalize hY : lp (fun j E => lp (fun m E => ins p (n * n) E (drw p n T i j m)) 0 n E) (i + 1) j X = Y at hE2
      refine loop_up (P := fun m s => L (d + 4) M_Me_derivationSize 40 [vA 68, vA a, vI n, vI i, vI j, vI m] [] s Q)
        (fun m s => 0 ≤ m ∧ EC s 69 p (n * n) (lp (fun m E => ins p (n * n) E (drw p n T i j m)) 0 m Y) ∧ Off (fun b j => (b = 69 ∧ 3 ≤ j ∧ j ≤ 6) ∨ b = 70 ∨ b = 71 ∨ b = 72) σ s) n ?_ ?_ 0 (by omega) s2 ⟨by omega, by rw [lp_nil (by omega)]; exact hE2, hO2⟩
      · rintro s3 ⟨_, hE3, hO3⟩
        refine s_Me_derivationSize_40 ⟨fun _ => ?_, fun q => by omega⟩
        rw [w32_id (by omega) (by omega)]
        exact ih2 s3 ⟨by omega, by rw [lp_succ j0, hY]; exact hE3, hO3⟩
      · rintro m s3 hm ⟨m0, hE3, hO3⟩ ih3
        refine s_Me_derivationSize_40 ⟨fun q => by omega, fun _ => Me_bindDerivation_s (hW.cg (fun k => hO3 a k (by omega)) (fun k => hO3 (a + 1) k (by omega))) ha hE3 i0 hi (by omega) hj m0 hm (fun s4 hE4 hO4 => ?_)⟩
        rw [w32_id (by omega) (by omega)]
        exact ih3 s4 ⟨by omega, by rw [lp_succ m0]; exact hE4, Off_trans hO3 (Off_mono hO4 (fun b j q => by omega))⟩
theorem R_derivationSize_s {p n : Int} {T : Int → Int} (hR : RW σ p n T) (h : ∀ σ', Off DM σ σ' → Q (n * n - cd (DRV p n T).1 (n * n)) σ') : Tri (d + 3) M_R_derivationSize [vA 161] σ Q := by
  obtain ⟨b1, b2, b3, b4⟩ := hR.1.1.b
  have hT := hR.1
  have hnn := (kn_b (k := 0) (n := n) (m := 0) (by omega) (by omega) b4 (by omega) (by omega)).2.2.2.2
  have hnn0 : 0 ≤ n * n := Int.mul_nonneg (by omega) (by omega)
  refine t_R_derivationSize (R_noRows_s (p := p) (w := n * n) (fun s1 hR1 hO1 => ?_))
  refine loop_up (P := fun i s => L (d + 3) M_R_derivationSize 6 [vA 161, vI i, vU, vU, vU] [] s Q)
    (fun i s => 0 ≤ i ∧ RR s p (n * n) (lp (fun i E => lp (fun j E => lp (fun m E => ins p (n * n) E (drw p n T i j m)) 0 n E) (i + 1) n E) 0 i E0) ∧ Off DM σ s) n ?_ ?_ 0 (by omega) s1 ⟨by omega, by rw [lp_nil (by omega)]; exact hR1, Off_mono hO1 (fun b j q => by unfold DM; omega)⟩
  · rintro s ⟨_, hE, hO⟩
    have e27 : s 161 27 = n := (hR.dm hO).2.2.1
    refine s_R_derivationSize_6 ⟨fun _ => ?_, fun q => by omega⟩
    have hc : s 161 39 = cd (DRV p n T).1 (n * n) := hE.1
    have hcb := cd_b (ℓ := (DRV p n T).1) hnn0
    rw [e27, hc, w32_id (x := n * n) (by omega) (by omega), w32_id (by omega) (by omega)]
    exact h s hO
  · rintro i s hi ⟨i0, hE, hO⟩ ih
    have e27 : s 161 27 = n := (hR.dm hO).2.2.1
    refine s_R_derivationSize_6 ⟨fun q => by omega, fun _ => ?_⟩
    rw [w32_id (by omega) (by omega)]
    generalize hX : lp (fun i E => lp (fun j E => lp (fun m E => ins p (n * n) E (drw p n T i j m)) 0 n E) (i + 1) n E) 0 i E0 = X at hE
    refine loop_up (P := fun j s => L (d + 3) M_R_derivationSize 18 [vA 161, vI i, vI j, vU, vU] [] s Q)
      (fun j s => i + 1 ≤ j ∧ RR s p (n * n) (lp (fun j E => lp (fun m E => ins p (n * n) E (drw p n T i j m)) 0 n E) (i + 1) j X) ∧ Off DM σ s) n ?_ ?_ (i + 1) (by omega) s ⟨by omega, by rw [lp_nil (by omega)]; exact hE, hO⟩
    · rintro s2 ⟨_, hE2, hO2⟩
      have e27 : s2 161 27 = n := (hR.dm hO2).2.2.1
      refine s_R_derivationSize_18 ⟨fun _ => ?_, fun q => by omega⟩
      rw [w32_id (by omega) (by omega)]
      exact ih s2 ⟨by omega, by rw [lp_succ i0, hX]; exact hE2, hO2⟩
    · rintro j s2 hj ⟨j0, hE2, hO2⟩ ih2
      have e27 : s2 161 27 = n := (hR.dm hO2).2.2.1
      refine s_R_derivationSize_18 ⟨fun q => by omega, fun _ => ?_⟩
      generalize hY : lp (fun j E => lp (fun m E => ins p (n * n) E (drw p n T i j m)) 0 n E) (i + 1) j X = Y at hE2
      refine loop_up (P := fun m s => L (d + 3) M_R_derivationSize 28 [vA 161, vI i, vI j, vI m, vU] [] s Q)
        (fun m s => 0 ≤ m ∧ RR s p (n * n) (lp (fun m E => ins p (n * n) E (drw p n T i j m)) 0 m Y) ∧ Off DM σ s) n ?_ ?_ 0 (by omega) s2 ⟨by omega, by rw [lp_nil (by omega)]; exact hE2, hO2⟩
      · rintro s3 ⟨_, hE3, hO3⟩
        have e27 : s3 161 27 = n := (hR.dm hO3).2.2.1
        refine s_R_derivationSize_28 ⟨fun _ => ?_, fun q => by omega⟩
        rw [w32_id (by omega) (by omega)]
        exact ih2 s3 ⟨by omega, by rw [lp_succ j0, hY]; exact hE3, hO3⟩
      · rintro m s3 hm ⟨m0, hE3, hO3⟩ ih3
        have e27 : s3 161 27 = n := (hR.dm hO3).2.2.1
        refine s_R_derivationSize_28 ⟨fun q => by omega, fun _ => ?_⟩
        have up18 : ∀ t, Off (fun b j => b = 180) s3 t → RW t p n T := fun t ht => hR.dm (Off_trans hO3 (Off_mono ht (fun b j q => by unfold DM; omega)))
        -- the row is emptied
        refine loop_up (P := fun u t => L (d + 3) M_R_derivationSize 39 [vA 161, vI i, vI j, vI m, vI u] [] t Q)
          (fun u t => 0 ≤ u ∧ (∀ c, 0 ≤ c → c < u → t 180 c = 0) ∧ Off (fun b j => b = 180) s3 t) (n * n) ?_ ?_ 0 hnn0 s3 ⟨by omega, fun c _ _ => by omega, Off_rfl⟩
        · rintro t ⟨_, ht, hOt⟩
          have e27 := (up18 t hOt).2.2.1
          refine s_R_derivationSize_39 ⟨fun _ => ?_, fun q => by rw [e27, w32_id (by omega) (by omega)] at q; omega⟩
          refine loop_up (P := fun k t => L (d + 3) M_R_derivationSize 70 [vA 161, vI i, vI j, vI m, vI k] [] t Q)
            (fun k t => 0 ≤ k ∧ (∀ u, 0 ≤ u → u < n * n → t 180 u = dA n T i j m k u) ∧ Off (fun b j => b = 180) s3 t) n ?_ ?_ 0 (by omega) t ⟨by omega, fun u u0 u1 => by rw [ht u u0 u1]; unfold dA; rw [sR_nil (by omega)], hOt⟩
          · rintro t2 ⟨_, h2, hO2t⟩
            have e27 := (up18 t2 hO2t).2.2.1
            refine s_R_derivationSize_70 ⟨fun _ => ?_, fun q => by omega⟩
            refine loop_up (P := fun b t => L (d + 3) M_R_derivationSize 113 [vA 161, vI i, vI j, vI m, vI b] [] t Q)
              (fun b t => 0 ≤ b ∧ (∀ u, 0 ≤ u → u < n * n → t 180 u = dA n T i j m n u - dB n T i j m b u - dC n T i j m b u) ∧ Off (fun b j => b = 180) s3 t) n ?_ ?_ 0 (by omega) t2 ⟨by omega, fun u u0 u1 => by rw [h2 u u0 u1]; unfold dB dC; rw [sR_nil (by omega), sR_nil (by omega)]; omega, hO2t⟩
            · rintro t3 ⟨_, h3, hO3t⟩
              have e27 := (up18 t3 hO3t).2.2.1
              refine s_R_derivationSize_113 ⟨fun _ => ?_, fun q => by omega⟩
              refine loop_up (P := fun u t => L (d + 3) M_R_derivationSize 181 [vA 161, vI i, vI j, vI m, vI u] [] t Q)
                (fun u t => 0 ≤ u ∧ (∀ c, 0 ≤ c → c < u → t 180 c = drw p n T i j m c) ∧ (∀ c, u ≤ c → c < n * n → t 180 c = t3 180 c) ∧ Off (fun b j => b = 180) s3 t) (n * n) ?_ ?_ 0 hnn0 t3 ⟨by omega, fun c _ _ => by omega, fun _ _ _ => rfl, hO3t⟩
              · rintro t4 ⟨_, h4, _, hO4t⟩
                have e27 := (up18 t4 hO4t).2.2.1
                refine s_R_derivationSize_181 ⟨fun _ => ?_, fun q => by rw [e27, w32_id (by omega) (by omega)] at q; omega⟩
                rw [e27, w32_id (x := n * n) (by omega) (by omega), w32_id (by omega) (by omega)]
                refine R_addEquation_s hR.1.1.pr (up18 t4 hO4t).2.1 hnn0 hnn (hE3.cg (hO4t 161 39 (by omega)) (fun k => hO4t 179 k (by omega))) (fun c c0 c1 => by rw [h4 c c0 c1]; exact ⟨Int.emod_nonneg _ (by omega), Int.emod_lt_of_pos _ (by omega)⟩) (fun t5 hR5 hO5 => ih3 t5 ⟨by omega, ?_, Off_trans hO3 (Off_trans (Off_mono hO4t (fun b j q => by unfold DM; omega)) (Off_mono hO5 (fun b j q => by unfold DM; omega)))⟩)
                rw [lp_succ m0]
                exact hR5.to (ESm.rfl'.insv hnn0 h4)
              · rintro u t4 hu ⟨u0, h4, h4', hO4t⟩ ih4
                have e27 := (up18 t4 hO4t).2.2.1
                have e26 := (up18 t4 hO4t).2.1
                refine s_R_derivationSize_181 ⟨fun q => by rw [e27, w32_id (by omega) (by omega)] at q; omega, fun _ => ⟨⟨u0, by omega⟩, ?_⟩⟩
                rw [e26, h4' u (by omega) hu, h3 u u0 hu, w32_id (x := u + 1) (by omega) (by omega)]
                refine R_left_s ⟨b1, b2⟩ ⟨⟨u0, by omega⟩, fun t5 e5 => ih4 t5 ⟨by omega, fun c c0 c1 => ?_, fun c c0 c1 => ?_, fun b k hb => by rw [e5, up_ne (by omega)]; exact hO4t b k hb⟩⟩
                · by_cases hc : c = u
                  · subst hc; rw [e5, up_same]; rfl
                  · rw [e5, up_ne (by omega)]; exact h4 c c0 (by omega)
                · rw [e5, up_ne (by omega)]; exact h4' c (by omega) c1
            · rintro b t3 hb ⟨b0, h3, hO3t⟩ ih3b
              have hR3 := up18 t3 hO3t
              have e27 := hR3.2.2.1
              have q2 := kn_b i0 hi b4 b0 hb
              have q3 := kn_b (show 0 ≤ j by omega) hj b4 b0 hb
              have bd := fun u => dbnd (u := u) hT i0 hi (show 0 ≤ j by omega) hj m0 hm b0 (show b ≤ n by omega)
              have bd2 := fun u => dbnd (u := u) hT i0 hi (show 0 ≤ j by omega) hj m0 hm (show 0 ≤ n by omega) (Int.le_refl n)
              have tb2 := hT.2.1 (25 * b + 5 * j + m) (by omega) (by omega)
              have tb3 := hT.2.1 (25 * i + 5 * b + m) (by omega) (by omega)
              refine s_R_derivationSize_113 ⟨fun q => by omega, fun _ => ?_⟩
              rw [e27, w32_id (x := i * n) (by omega) (by omega), w32_id (x := i * n + b) (by omega) (by omega)]
              refine ⟨⟨by omega, by omega⟩, R_table_s hR3 ⟨b0, by omega⟩ ⟨by omega, by omega⟩ ⟨m0, by omega⟩ ⟨⟨by omega, by omega⟩, fun t4 e4 => ?_⟩⟩
              have v1 : ∀ u, 0 ≤ u → u < n * n → t4 180 u = t3 180 u - (if u = i * n + b then T (25 * b + 5 * j + m) else 0) := fun u u0 u1 => by
                by_cases g : u = i * n + b
                · have b0' := bd u
                  have b2' := bd2 u
                  have hsu := h3 u u0 u1
                  rw [if_pos g, e4, g, up_same]
                  rw [g] at hsu b0' b2'
                  exact w32_id (by omega) (by omega)
                · rw [if_neg g, e4, up_ne (by omega)]; omega
              have hO4t : Off (fun b j => b = 180) s3 t4 := fun b' k hb' => by rw [e4, up_ne (by omega)]; exact hO3t b' k hb'
              have hR4 := up18 t4 hO4t
              rw [hR4.2.2.1, w32_id (x := j * n) (by omega) (by omega), w32_id (x := j * n + b) (by omega) (by omega), w32_id (x := b + 1) (by omega) (by omega)]
              refine ⟨⟨by omega, by omega⟩, R_table_s hR4 ⟨i0, by omega⟩ ⟨b0, by omega⟩ ⟨m0, by omega⟩ ⟨⟨by omega, by omega⟩, fun t5 e5 => ih3b t5 ⟨by omega, fun u u0 u1 => ?_, fun b' k hb' => by rw [e5, up_ne (by omega)]; exact hO4t b' k hb'⟩⟩⟩
              have b0' := bd u
              have b2' := bd2 u
              have hsu := h3 u u0 u1
              have h4 := v1 u u0 u1
              have h6 : 0 ≤ (if u = i * n + b then T (25 * b + 5 * j + m) else 0) ∧ (if u = i * n + b then T (25 * b + 5 * j + m) else 0) ≤ 7 := by split <;> omega
              have v2 : t5 180 u = t4 180 u - (if u = j * n + b then T (25 * i + 5 * b + m) else 0) := by
                by_cases g : u = j * n + b
                · rw [if_pos g, e5, g, up_same]
                  rw [g] at hsu b0' b2' h4 h6
                  exact w32_id (by omega) (by omega)
                · rw [if_neg g, e5, up_ne (by omega)]; omega
              rw [v2, h4, hsu]
              unfold dB dC
              rw [sR_succ b0, sR_succ b0]
              omega
          · rintro k t2 hk ⟨k0, h2, hO2t⟩ ih2k
            have hR2 := up18 t2 hO2t
            have e27 := hR2.2.2.1
            have q1 := kn_b k0 hk b4 m0 hm
            have bd := fun u => dbnd (u := u) hT i0 hi (show 0 ≤ j by omega) hj m0 hm k0 (show k ≤ n by omega)
            have tb1 := hT.2.1 (25 * i + 5 * j + k) (by omega) (by omega)
            refine s_R_derivationSize_70 ⟨fun q => by omega, fun _ => ?_⟩
            rw [e27, w32_id (x := k * n) (by omega) (by omega), w32_id (x := k * n + m) (by omega) (by omega), w32_id (x := k + 1) (by omega) (by omega)]
            refine ⟨⟨by omega, by omega⟩, R_table_s hR2 ⟨i0, by omega⟩ ⟨by omega, by omega⟩ ⟨k0, by omega⟩ ⟨⟨by omega, by omega⟩, fun t4 e4 => ih2k t4 ⟨by omega, fun u u0 u1 => ?_, fun b' k hb' => by rw [e4, up_ne (by omega)]; exact hO2t b' k hb'⟩⟩⟩
            have b0' := bd u
            have hsu := h2 u u0 u1
            have v1 : t4 180 u = t2 180 u + (if u = k * n + m then T (25 * i + 5 * j + k) else 0) := by
              by_cases g : u = k * n + m
              · rw [if_pos g, e4, g, up_same]
                rw [g] at hsu b0'
                exact w32_id (by omega) (by omega)
              · rw [if_neg g, e4, up_ne (by omega)]; omega
            rw [v1, hsu]
            unfold dA
            rw [sR_succ k0]
        · rintro u t hu ⟨u0, ht, hOt⟩ iht
          have e27 := (up18 t hOt).2.2.1
          refine s_R_derivationSize_39 ⟨fun q => by rw [e27, w32_id (by omega) (by omega)] at q; omega, fun _ => ⟨⟨u0, by omega⟩, fun t2 e2 => ?_⟩⟩
          rw [w32_id (by omega) (by omega)]
          refine iht t2 ⟨by omega, fun c c0 c1 => ?_, fun b' k hb' => by rw [e2, up_ne (by omega)]; exact hOt b' k hb'⟩
          by_cases hc : c = u
          · subst hc; rw [e2, up_same]
          · rw [e2, up_ne (by omega)]; exact ht c c0 (by omega)
end DER
