/-! ===== all TABLES of a small SIZE: the model ===== -/
theorem dg_hor0 {p v c : Int} (hp : 2 ≤ p) (c0 : 0 ≤ c) (c1 : c < p) : dg p (v * p + c) 0 = c := by
  rw [dg_zero, Int.add_comm, Int.mul_comm, Int.add_mul_emod_self_left, Int.emod_eq_of_lt c0 c1]
theorem dg_horS {p v c r : Int} (hp : 2 ≤ p) (c0 : 0 ≤ c) (c1 : c < p) (r0 : 0 ≤ r) : dg p (v * p + c) (r + 1) = dg p v r := by
  rw [dg_succ r0 (by omega)]
  congr 1
  rw [Int.add_comm, Int.mul_comm, Int.add_mul_ediv_left _ _ (by omega), Int.ediv_eq_zero_of_lt c0 c1]
  omega
theorem pl_all {n q : Int} (h1 : 1 ≤ n) (h3 : n ≤ 3) (q0 : 0 ≤ q) (q1 : q < nTB n) : ∃ i j k, 0 ≤ i ∧ i < j ∧ j < n ∧ 0 ≤ k ∧ k < n ∧ q = n * ci n i j + k := by
  have : n = 1 ∨ n = 2 ∨ n = 3 := by omega
  unfold nTB at q1
  rcases this with rfl | rfl | rfl
  · omega
  · exact ⟨0, 1, q, by omega, by omega, by omega, by omega, by omega, by unfold ci; omega⟩
  · have : q < 3 ∨ (3 ≤ q ∧ q < 6) ∨ 6 ≤ q := by omega
    rcases this with g | g | g
    · exact ⟨0, 1, q, by omega, by omega, by omega, by omega, by omega, by unfold ci; omega⟩
    · exact ⟨0, 2, q - 3, by omega, by omega, by omega, by omega, by omega, by unfold ci; omega⟩
    · exact ⟨1, 2, q - 6, by omega, by omega, by omega, by omega, by omega, by unfold ci; omega⟩
theorem TBY_inj {p n x y : Int} (hs : SML p n) (x0 : 0 ≤ x) (x1 : x < p ^ (nTB n).toNat) (y0 : 0 ≤ y) (y1 : y < p ^ (nTB n).toNat) (h : ∀ t, 0 ≤ t → t < 125 → TBY p n x t = TBY p n y t) : x = y := by
  obtain ⟨hpn, n1, n3, nt0, hN, hN0⟩ := hs.b
  obtain ⟨b1, b2, b3, b4⟩ := hpn.b
  refine dg_ext b1 (nTB n).toNat x y x0 x1 y0 y1 (fun q q0 q1 => ?_)
  obtain ⟨i, j, k, i0, ij, jn, k0, kn, rfl⟩ := pl_all n1 n3 q0 (by omega)
  have := h (25 * i + 5 * j + k) (by omega) (by omega)
  unfold TBY at this
  rw [MK_at i0 (by omega) (by omega) (by omega) k0 (by omega), MK_at i0 (by omega) (by omega) (by omega) k0 (by omega), if_pos ⟨ij, jn, kn⟩, if_pos ⟨ij, jn, kn⟩] at this
  have g1 := dg_in (p := p) (x := x) (k := n * ci n i j + k) b1
  have g2 := dg_in (p := p) (x := y) (k := n * ci n i j + k) b1
  rw [Int.emod_eq_of_lt g1.1 g1.2, Int.emod_eq_of_lt g2.1 g2.2] at this
  exact this
theorem pl_abc {n i j k a b c : Int} (hn : n ≤ 3) (i0 : 0 ≤ i) (ij : i < j) (jn : j < n) (k0 : 0 ≤ k) (kn : k < n) (a0 : 0 ≤ a) (ab : a < b) (bn : b < n) (c0 : 0 ≤ c) (cn : c < n) (h : n * ci n i j + k = n * ci n a b + c) : a = i ∧ b = j ∧ c = k := by
  have h1 : (n = 2 ∧ i = 0 ∧ j = 1) ∨ (n = 3 ∧ ((i = 0 ∧ j = 1) ∨ (i = 0 ∧ j = 2) ∨ (i = 1 ∧ j = 2))) := by omega
  have h2 : (n = 2 ∧ a = 0 ∧ b = 1) ∨ (n = 3 ∧ ((a = 0 ∧ b = 1) ∨ (a = 0 ∧ b = 2) ∨ (a = 1 ∧ b = 2))) := by omega
  unfold ci at h
  rcases h1 with ⟨rfl, rfl, rfl⟩ | ⟨rfl, ⟨rfl, rfl⟩ | ⟨rfl, rfl⟩ | ⟨rfl, rfl⟩⟩ <;> rcases h2 with ⟨h2, rfl, rfl⟩ | ⟨h2, ⟨rfl, rfl⟩ | ⟨rfl, rfl⟩ | ⟨rfl, rfl⟩⟩ <;> omega
def pl (n q : Int) : Int := 5 * (q / n) + q % n
theorem pl_s {n q : Int} (h1 : 1 ≤ n) (h3 : n ≤ 3) (q0 : 0 ≤ q) (q1 : q < n * n) : 0 ≤ pl n q ∧ pl n q < 25 ∧ (0 ≤ q / n ∧ q / n < n) ∧ 0 ≤ q % n ∧ q % n < n := by
  have : n = 1 ∨ n = 2 ∨ n = 3 := by omega
  unfold pl
  rcases this with rfl | rfl | rfl <;> omega
theorem pl_ne {n q r : Int} (h1 : 1 ≤ n) (h3 : n ≤ 3) (q0 : 0 ≤ q) (q1 : q < n * n) (r0 : 0 ≤ r) (r1 : r < n * n) (h : q ≠ r) : pl n q ≠ pl n r := by
  have : n = 1 ∨ n = 2 ∨ n = 3 := by omega
  unfold pl
  rcases this with rfl | rfl | rfl <;> omega
theorem pl_at {n i c : Int} (h1 : 1 ≤ n) (h3 : n ≤ 3) (i0 : 0 ≤ i) (i1 : i < n) (c0 : 0 ≤ c) (c1 : c < n) : pl n (n * i + c) = 5 * i + c ∧ 0 ≤ n * i + c ∧ n * i + c < n * n ∧ (n * i + c) / n = i ∧ (n * i + c) % n = c := by
  have : n = 1 ∨ n = 2 ∨ n = 3 := by omega
  unfold pl
  rcases this with rfl | rfl | rfl <;> omega
def BB (p n b i c : Int) : Int := dg p b (n * i + c)
section RTB
variable {d : Nat} {σ : SG} {Q : Int → SG → Prop}
/-- the model's own TABLE, in its place 196 -/
def RT (σ : SG) (p n : Int) (w : Int → Int → Int → Int) : Prop := σ 161 24 = 196 ∧ σ 161 25 = 0 ∧ σ 161 26 = p ∧ σ 161 27 = n ∧ σ 196 0 = p ∧ ∀ t, 0 ≤ t → t < 125 → σ 196 (0 + 2 + t) = MK p n w t
theorem RT.rw' {p n : Int} {w : Int → Int → Int → Int} (h : RT σ p n w) (hpn : PN p n) : RW σ p n (MK p n w) := by
  obtain ⟨a1, a2, a3, a4, a5, a6⟩ := h
  refine ⟨TW_MK hpn, a3, a4, Or.inr ⟨a1, a2⟩, fun t t0 t1 => ?_⟩
  rw [a1, a2]; exact a6 t t0 t1
theorem RT.fr {p n : Int} {w : Int → Int → Int → Int} {σ' : SG} (h : RT σ p n w) (h1 : ∀ k, 24 ≤ k → k ≤ 27 → σ' 161 k = σ 161 k) (h2 : ∀ k, σ' 196 k = σ 196 k) : RT σ' p n w := by
  obtain ⟨a1, a2, a3, a4, a5, a6⟩ := h
  exact ⟨(h1 24 (by omega) (by omega)).trans a1, (h1 25 (by omega) (by omega)).trans a2, (h1 26 (by omega) (by omega)).trans a3, (h1 27 (by omega) (by omega)).trans a4, (h2 0).trans a5, fun t t0 t1 => (h2 _).trans (a6 t t0 t1)⟩
theorem R_tableBy_s {p n x : Int} {w : Int → Int → Int → Int} (hR : RT σ p n w) (hpn : PN p n) (hn3 : n ≤ 3) (x0 : 0 ≤ x) (x1 : x < 1000000) (h : ∀ σ', RT σ' p n (fun i j k => dg p x (n * ci n i j + k)) → Off (fun b j => b = 196) σ σ' → Q 0 σ') : Tri (d + 3) M_R_tableBy [vA 161, vI x] σ Q := by
  obtain ⟨b1, b2, b3, b4⟩ := hpn.b
  obtain ⟨a1, a2, a3, a4, a5, a6⟩ := hR
  have hpw : ∀ q, 0 ≤ x / p ^ q ∧ x / p ^ q ≤ x := fun q => by
    have := ppos (p := p) b1 q
    exact ⟨Int.ediv_nonneg x0 (by omega), Int.ediv_le_self _ x0⟩
  generalize hV : (fun i j k => dg p x (n * ci n i j + k)) = V at h
  refine t_R_tableBy (fun _ => ?_)
  have e27 : ∀ t, Off (fun b j => b = 196 ∧ 2 ≤ j) σ t → t 161 27 = n := fun t ht => (ht 161 27 (by omega)).trans a4
  have e26 : ∀ t, Off (fun b j => b = 196 ∧ 2 ≤ j) σ t → t 161 26 = p := fun t ht => (ht 161 26 (by omega)).trans a3
  refine loop_up (P := fun i (s : Int × SG) => L (d + 3) M_R_tableBy 4 [vA 161, vU, vI s.1, vI i, vU, vU] [] s.2 Q) (fun i s => 0 ≤ i ∧ s.1 = x / p ^ (n * ci n i (i + 1) + 0).toNat ∧ (∀ q, 0 ≤ q → q < 125 → s.2 196 (0 + 2 + q) = MK p n (wl V w i (i + 1) 0) q) ∧ Off (fun b j => b = 196 ∧ 2 ≤ j) σ s.2) n ?_ ?_ 0 (by omega) (x, σ) ⟨by omega, by simp only; rw [ci_00]; simp, fun q q0 q1 => by simp only; rw [a6 q q0 q1, wl_0 q0 q1], Off_rfl⟩
  · rintro ⟨y, t⟩ ⟨_, _, ht, hO⟩
    simp only at ht hO ⊢
    refine s_R_tableBy_4 ⟨fun _ => h t ⟨(hO 161 24 (by omega)).trans a1, (hO 161 25 (by omega)).trans a2, e26 t hO, e27 t hO, (hO 196 0 (by omega)).trans a5, fun q q0 q1 => by rw [ht q q0 q1, wl_m (Int.le_refl _) q0 q1]⟩ (Off_mono hO (fun b j q => q.1)), fun q => ?_⟩
    rw [e27 t hO] at q; omega
  · rintro i ⟨y, t⟩ hi ⟨i0, hy, ht, hO⟩ ih
    simp only at hy ht hO ⊢
    refine s_R_tableBy_4 ⟨fun q => by rw [e27 t hO] at q; omega, fun _ => ?_⟩
    rw [w32_id (by omega) (by omega)]
    refine loop_up (P := fun j (s : Int × SG) => L (d + 3) M_R_tableBy 17 [vA 161, vU, vI s.1, vI i, vI j, vU] [] s.2 Q) (fun j s => i + 1 ≤ j ∧ s.1 = x / p ^ (n * ci n i j + 0).toNat ∧ (∀ q, 0 ≤ q → q < 125 → s.2 196 (0 + 2 + q) = MK p n (wl V w i j 0) q) ∧ Off (fun b j => b = 196 ∧ 2 ≤ j) σ s.2) n ?_ ?_ (i + 1) (by omega) (y, t) ⟨by omega, hy, ht, hO⟩
    · rintro ⟨y2, t2⟩ ⟨_, hy2, ht2, hO2⟩
      simp only at hy2 ht2 hO2 ⊢
      refine s_R_tableBy_17 ⟨fun _ => ?_, fun q => by rw [e27 t2 hO2] at q; omega⟩
      rw [w32_id (by omega) (by omega)]
      exact ih (y2, t2) ⟨by omega, by simp only; rw [ci_j i0 (by omega)]; exact hy2, fun q q0 q1 => by simp only; rw [ht2 q q0 q1]; exact wl_j (Int.le_refl _) q0 q1, hO2⟩
    · rintro j ⟨y2, t2⟩ hj ⟨j0, hy2, ht2, hO2⟩ ih2
      simp only at hy2 ht2 hO2 ⊢
      refine s_R_tableBy_17 ⟨fun q => by rw [e27 t2 hO2] at q; omega, fun _ => ?_⟩
      refine loop_up (P := fun k (s : Int × SG) => L (d + 3) M_R_tableBy 29 [vA 161, vU, vI s.1, vI i, vI j, vI k] [] s.2 Q) (fun k s => 0 ≤ k ∧ s.1 = x / p ^ (n * ci n i j + k).toNat ∧ (∀ q, 0 ≤ q → q < 125 → s.2 196 (0 + 2 + q) = MK p n (wl V w i j k) q) ∧ Off (fun b j => b = 196 ∧ 2 ≤ j) σ s.2) n ?_ ?_ 0 (by omega) (y2, t2) ⟨by omega, hy2, ht2, hO2⟩
      · rintro ⟨y3, t3⟩ ⟨_, hy3, ht3, hO3⟩
        simp only at hy3 ht3 hO3 ⊢
        refine s_R_tableBy_29 ⟨fun _ => ?_, fun q => by rw [e27 t3 hO3] at q; omega⟩
        rw [w32_id (by omega) (by omega)]
        exact ih2 (y3, t3) ⟨by omega, by simp only; rw [ci_k]; exact hy3, fun q q0 q1 => by simp only; rw [ht3 q q0 q1]; exact wl_k (Int.le_refl _) q0 q1, hO3⟩
      · rintro k ⟨y3, t3⟩ hk ⟨k0, hy3, ht3, hO3⟩ ih3
        simp only at hy3 ht3 hO3 ⊢
        have hc := (cin hn3 i0 (show i < j by omega) hj k0 hk).1
        have hyb := hpw (n * ci n i j + k).toNat
        have hmod : 0 ≤ y3 % p ∧ y3 % p < p := ⟨Int.emod_nonneg _ (by omega), Int.emod_lt_of_pos _ (by omega)⟩
        refine s_R_tableBy_29 ⟨fun q => by rw [e27 t3 hO3] at q; omega, fun _ => ?_⟩
        rw [e26 t3 hO3, Int.tmod_eq_emod_of_nonneg (by omega)]
        refine ⟨by omega, R_setMK (by omega) kd_196 (by omega) (by omega) (by omega) ((hO3 196 0 (by omega)).trans a5) hpn ht3 i0 (by omega) hj k0 hk (by omega) (fun t4 ht4 hO4 => ?_)⟩
        have m1' : t4 161 26 = p := by rw [hO4 161 26 (by omega), e26 t3 hO3]
        have e7 : 0 ≤ y3 / p ∧ y3 / p ≤ y3 := ⟨Int.ediv_nonneg (by omega) (by omega), Int.ediv_le_self _ (by omega)⟩
        rw [m1', Int.tdiv_eq_ediv_of_nonneg (by omega), w32_id (x := y3 / p) (by omega) (by omega), w32_id (x := k + 1) (by omega) (by omega)]
        refine ⟨by omega, ih3 (y3 / p, t4) ⟨by omega, ?_, fun q q0 q1 => ?_, Off_trans hO3 (Off_mono hO4 (fun b j q => by omega))⟩⟩
        · simp only
          rw [hy3, div_step b1 hc, show n * ci n i j + k + 1 = n * ci n i j + (k + 1) by omega]
        · simp only
          rw [ht4 q q0 q1, ← wl_next, ← hV]
          simp only
          rw [dg_div hc, ← hy3]
/-- what stands in the number from a place on -/
def CDi (p n : Int) (T : Int → Int) (v q : Int) : Prop := 0 ≤ q ∧ q ≤ nTB n ∧ 0 ≤ v ∧ v < p ^ (nTB n - q).toNat ∧ ∀ i j k, 0 ≤ i → i < j → j < n → 0 ≤ k → k < n → q ≤ n * ci n i j + k → dg p v (n * ci n i j + k - q) = T (25 * i + 5 * j + k)
theorem CDi_step {p n : Int} {T : Int → Int} {v i j k : Int} (hs : SML p n) (hT : TW p n T) (i0 : 0 ≤ i) (ij : i < j) (jn : j < n) (k0 : 0 ≤ k) (kn : k < n) (h : CDi p n T v (n * ci n i j + (k + 1))) : CDi p n T (v * p + T (25 * i + 5 * j + k)) (n * ci n i j + k) ∧ v * p + T (25 * i + 5 * j + k) < 512 := by
  obtain ⟨hpn, n1, n3, nt0, hN, hN0⟩ := hs.b
  obtain ⟨b1, b2, b3, b4⟩ := hpn.b
  obtain ⟨h1, h2, h3, h4, h5⟩ := h
  have hTb := hT.2.1 (25 * i + 5 * j + k) (by omega) (by omega)
  have hc := cin n3 i0 ij jn k0 kn
  have e : p ^ (nTB n - (n * ci n i j + k)).toNat = p ^ (nTB n - (n * ci n i j + (k + 1))).toNat * p := by
    rw [← Int.pow_succ]; congr 1; omega
  have hv : v * p ≤ (p ^ (nTB n - (n * ci n i j + (k + 1))).toNat - 1) * p := Int.mul_le_mul_of_nonneg_right (by omega) (by omega)
  rw [Int.sub_mul] at hv
  have hv0 : 0 ≤ v * p := Int.mul_nonneg h3 (by omega)
  have hle : p ^ (nTB n - (n * ci n i j + k)).toNat ≤ p ^ (nTB n).toNat := pow_le (by omega) (by omega)
  refine ⟨⟨hc.1, by omega, by omega, by rw [e]; omega, fun a b c a0 ab bn c0 cn hq => ?_⟩, by rw [e] at hle; omega⟩
  by_cases g : n * ci n a b + c = n * ci n i j + k
  · rw [g, Int.sub_self, dg_hor0 b1 hTb.1 hTb.2]
    have hx := pl_abc n3 i0 ij jn k0 kn a0 ab bn c0 cn g.symm
    rw [hx.1, hx.2.1, hx.2.2]
  · have := h5 a b c a0 ab bn c0 cn (by omega)
    rw [show n * ci n a b + c - (n * ci n i j + k) = n * ci n a b + c - (n * ci n i j + (k + 1)) + 1 by omega, dg_horS b1 hTb.1 hTb.2 (by omega)]
    exact this
end RTB
