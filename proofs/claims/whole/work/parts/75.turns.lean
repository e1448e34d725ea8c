/-! ===== BASES changed: the model ===== -/
/-- M is P by B, and what M tells of is what B tells of -/
def TB (p n : Int) (B M P : Int → Int → Int) : Prop := (∀ i c, 0 ≤ i → i < n → 0 ≤ c → c < n → (0 ≤ M i c ∧ M i c < p) ∧ 0 ≤ P i c ∧ P i c < p) ∧ (∀ i m, 0 ≤ i → i < n → 0 ≤ m → m < n → p ∣ M i m - sR (fun l => P i l * B l m) 0 n) ∧ (∀ y : Int → Int, (∀ i, 0 ≤ i → i < n → p ∣ sR (fun m => M i m * y m) 0 n) → ∀ i, 0 ≤ i → i < n → p ∣ sR (fun m => B i m * y m) 0 n)
theorem TB_cg {p n : Int} {B M P M' P' : Int → Int → Int} (h : TB p n B M P) (hM : ∀ i c, 0 ≤ i → i < n → 0 ≤ c → c < n → M' i c = M i c ∧ P' i c = P i c) : TB p n B M' P' := by
  obtain ⟨a1, a2, a3⟩ := h
  refine ⟨fun i c i0 i1 c0 c1 => ?_, fun i m i0 i1 m0 m1 => ?_, fun y hy => a3 y (fun i i0 i1 => ?_)⟩
  · rw [(hM i c i0 i1 c0 c1).1, (hM i c i0 i1 c0 c1).2]; exact a1 i c i0 i1 c0 c1
  · rw [(hM i m i0 i1 m0 m1).1, sR_congr (g := fun l => P i l * B l m) (fun l l0 l1 => by rw [(hM i l i0 i1 l0 l1).2])]; exact a2 i m i0 i1 m0 m1
  · have := hy i i0 i1
    rw [sR_congr (g := fun m => M i m * y m) (fun m m0 m1 => by rw [(hM i m i0 i1 m0 m1).1])] at this
    exact this
/-- a row is turned -/
theorem TB_row {p n r q s t s' : Int} {B M P M' P' : Int → Int → Int} (h : TB p n B M P) (r0 : 0 ≤ r) (r1 : r < n) (q0 : 0 ≤ q) (q1 : q < n) (hqr : q ≠ r ∨ t = 0) (hs : p ∣ s' * s - 1) (hb : ∀ c, 0 ≤ c → c < n → (0 ≤ M' r c ∧ M' r c < p) ∧ 0 ≤ P' r c ∧ P' r c < p)
    (hr : ∀ c, 0 ≤ c → c < n → p ∣ M' r c - (s * M r c + t * M q c) ∧ p ∣ P' r c - (s * P r c + t * P q c)) (ho : ∀ i c, 0 ≤ i → i < n → i ≠ r → 0 ≤ c → c < n → M' i c = M i c ∧ P' i c = P i c) : TB p n B M' P' := by
  obtain ⟨a1, a2, a3⟩ := h
  refine ⟨fun i c i0 i1 c0 c1 => ?_, fun i m i0 i1 m0 m1 => ?_, fun y hy => a3 y ?_⟩
  · by_cases g : i = r
    · rw [g]; exact hb c c0 c1
    · rw [(ho i c i0 i1 g c0 c1).1, (ho i c i0 i1 g c0 c1).2]; exact a1 i c i0 i1 c0 c1
  · by_cases g : i = r
    · subst g
      have e1 : sR (fun l => P' i l * B l m) 0 n = sR (fun l => (P' i l - (s * P i l + t * P q l)) * B l m) 0 n + (s * sR (fun l => P i l * B l m) 0 n + t * sR (fun l => P q l * B l m) 0 n) := by
        rw [← sR_mul, ← sR_mul, ← sR_add, ← sR_add]
        apply sR_congr
        intro l _ _
        grind
      have h1 : p ∣ sR (fun l => (P' i l - (s * P i l + t * P q l)) * B l m) 0 n := sR_dvd (fun l l0 l1 => Int.dvd_mul_of_dvd_left (hr l l0 l1).2)
      obtain ⟨x1, h1⟩ := h1
      obtain ⟨x2, h2⟩ := (hr m m0 m1).1
      obtain ⟨x3, h3⟩ := a2 i m i0 i1 m0 m1
      obtain ⟨x4, h4⟩ := a2 q m q0 q1 m0 m1
      refine ⟨x2 - x1 + s * x3 + t * x4, ?_⟩
      rw [e1, h1]
      have e2 : M' i m = p * x2 + (s * M i m + t * M q m) := by omega
      have e3 : M i m = p * x3 + sR (fun l => P i l * B l m) 0 n := by omega
      have e4 : M q m = p * x4 + sR (fun l => P q l * B l m) 0 n := by omega
      rw [e2, e3, e4]
      grind
    · rw [(ho i m i0 i1 g m0 m1).1, sR_congr (g := fun l => P i l * B l m) (fun l l0 l1 => by rw [(ho i l i0 i1 g l0 l1).2])]; exact a2 i m i0 i1 m0 m1
  · have hoth : ∀ i, 0 ≤ i → i < n → i ≠ r → p ∣ sR (fun m => M i m * y m) 0 n := fun i i0 i1 g => by
      have := hy i i0 i1
      rw [sR_congr (g := fun m => M i m * y m) (fun m m0 m1 => by rw [(ho i m i0 i1 g m0 m1).1])] at this
      exact this
    intro i i0 i1
    by_cases g : i = r
    · subst g
      have e1 : sR (fun m => M' i m * y m) 0 n = sR (fun m => (M' i m - (s * M i m + t * M q m)) * y m) 0 n + (s * sR (fun m => M i m * y m) 0 n + t * sR (fun m => M q m * y m) 0 n) := by
        rw [← sR_mul, ← sR_mul, ← sR_add, ← sR_add]
        apply sR_congr
        intro l _ _
        grind
      have h1 : p ∣ sR (fun m => (M' i m - (s * M i m + t * M q m)) * y m) 0 n := sR_dvd (fun l l0 l1 => Int.dvd_mul_of_dvd_left (hr l l0 l1).1)
      have h2 := hy i i0 i1
      rw [e1] at h2
      have h3 : p ∣ t * sR (fun m => M q m * y m) 0 n := by
        rcases hqr with z | z
        · exact Int.dvd_mul_of_dvd_right (hoth q q0 q1 z)
        · rw [z, Int.zero_mul]; exact Int.dvd_zero p
      obtain ⟨x1, h1⟩ := h1
      obtain ⟨x2, h2⟩ := h2
      obtain ⟨x3, h3⟩ := h3
      obtain ⟨x4, h4⟩ := hs
      generalize sR (fun m => M i m * y m) 0 n = S at *
      have e5 : s * S = p * (x2 - x1 - x3) := by
        rw [Int.mul_sub, Int.mul_sub]; omega
      refine ⟨s' * (x2 - x1 - x3) - x4 * S, ?_⟩
      have e6 : s' * s = p * x4 + 1 := by omega
      have e7 : s' * (s * S) = (p * x4 + 1) * S := by rw [← Int.mul_assoc, e6]
      rw [e5] at e7
      grind
    · exact hoth i i0 i1 g
theorem TB_swap {p n r k : Int} {B M P M' P' : Int → Int → Int} (h : TB p n B M P) (r0 : 0 ≤ r) (r1 : r < n) (k0 : 0 ≤ k) (k1 : k < n)
    (hM : ∀ i c, 0 ≤ i → i < n → 0 ≤ c → c < n → M' i c = M (if i = r then k else if i = k then r else i) c ∧ P' i c = P (if i = r then k else if i = k then r else i) c) : TB p n B M' P' := by
  obtain ⟨a1, a2, a3⟩ := h
  have hx : ∀ i, 0 ≤ i → i < n → 0 ≤ (if i = r then k else if i = k then r else i) ∧ (if i = r then k else if i = k then r else i) < n := fun i i0 i1 => by
    by_cases g : i = r
    · rw [if_pos g]; exact ⟨k0, k1⟩
    · rw [if_neg g]
      by_cases g2 : i = k
      · rw [if_pos g2]; exact ⟨r0, r1⟩
      · rw [if_neg g2]; exact ⟨i0, i1⟩
  refine ⟨fun i c i0 i1 c0 c1 => ?_, fun i m i0 i1 m0 m1 => ?_, fun y hy => a3 y (fun i i0 i1 => ?_)⟩
  · rw [(hM i c i0 i1 c0 c1).1, (hM i c i0 i1 c0 c1).2]; exact a1 _ c (hx i i0 i1).1 (hx i i0 i1).2 c0 c1
  · rw [(hM i m i0 i1 m0 m1).1, sR_congr (g := fun l => P (if i = r then k else if i = k then r else i) l * B l m) (fun l l0 l1 => by rw [(hM i l i0 i1 l0 l1).2])]; exact a2 _ m (hx i i0 i1).1 (hx i i0 i1).2 m0 m1
  · have := hy _ (hx i i0 i1).1 (hx i i0 i1).2
    rw [sR_congr (g := fun m => M i m * y m) (fun m m0 m1 => by
      rw [(hM _ m (hx i i0 i1).1 (hx i i0 i1).2 m0 m1).1]
      congr 2
      by_cases g : i = r
      · rw [if_pos g]
        by_cases g2 : k = r
        · rw [if_pos g2]; omega
        · rw [if_neg g2, if_pos rfl, g]
      · rw [if_neg g]
        by_cases g2 : i = k
        · rw [if_pos g2, if_pos rfl, g2]
        · rw [if_neg g2, if_neg g, if_neg g2])] at this
    exact this
theorem TB_inv {p n : Int} {B M P : Int → Int → Int} (h : TB p n B M P) (hM : ∀ i c, 0 ≤ i → i < n → 0 ≤ c → c < n → M i c = if i = c then 1 else 0) : INV p n B P := by
  obtain ⟨a1, a2, a3⟩ := h
  refine ⟨fun l k l0 l1 k0 k1 => (a1 l k l0 l1 k0 k1).2, fun l m l0 l1 m0 m1 => ?_⟩
  have := a2 l m l0 l1 m0 m1
  rw [hM l m l0 l1 m0 m1] at this
  obtain ⟨q, hq⟩ := this
  exact ⟨-q, by rw [Int.mul_neg]; omega⟩
theorem TB_sng {p n k : Int} {B M P : Int → Int → Int} (hp : 2 ≤ p) (h : TB p n B M P) (k0 : 0 ≤ k) (k1 : k < n) (hM : ∀ i c, 0 ≤ i → i < n → 0 ≤ c → c < k → M i c = if i = c then 1 else 0) (hz : ∀ i, k ≤ i → i < n → M i k = 0) : SNG p n B := by
  obtain ⟨a1, a2, a3⟩ := h
  refine ⟨fun m => if m < k then -(M m k) else if m = k then 1 else 0, a3 _ (fun i i0 i1 => ?_), k, k0, k1, ?_⟩
  · have e1 : sR (fun m => M i m * (if m < k then -(M m k) else if m = k then 1 else 0)) 0 n = sR (fun m => M i m * (if m < k then -(M m k) else if m = k then 1 else 0)) 0 k + M i k := by
      rw [sR_split (mid := k) k0 (by omega)]
      congr 1
      rw [sR_one (l := k) (Int.le_refl _) k1 (fun m m0 m1 hm => by rw [if_neg (by omega), if_neg hm]; simp), if_neg (by omega), if_pos rfl, Int.mul_one]
    rw [e1]
    by_cases g : i < k
    · rw [sR_one (l := i) i0 g (fun m m0 m1 hm => by rw [hM i m i0 i1 m0 m1, if_neg (fun e => hm e.symm)]; simp), hM i i i0 i1 i0 g, if_pos rfl, if_pos g]
      exact ⟨0, by omega⟩
    · rw [sR_zero' (fun m m0 m1 => by rw [hM i m i0 i1 m0 m1, if_neg (by omega)]; simp), hz i (by omega) i1]
      exact ⟨0, by omega⟩
  · show ¬ p ∣ (if k < k then _ else if k = k then (1 : Int) else 0)
    rw [if_neg (by omega), if_pos rfl]
    intro z
    have := dvd_small (by omega) (by omega) z
    omega
section TRB
variable {d : Nat} {σ : SG} {Q : Int → SG → Prop}
theorem R_exchange_s {p n a x y : Int} {T : Int → Int} (hR : RW σ p n T) (hka : kd a = (100, 25)) (ha0 : 0 ≤ a) (ha1 : a ≠ 161) (x0 : 0 ≤ x) (x1 : x < n) (y0 : 0 ≤ y) (y1 : y < n) (h : ∀ σ', (∀ i c, 0 ≤ i → i < n → 0 ≤ c → c < n → σ' a (5 * i + c) = σ a (5 * (if i = x then y else if i = y then x else i) + c)) → Off (fun b j => b = a) σ σ' → Q 0 σ') : Tri (d + 1) M_R_exchange [vA 161, vA a, vI x, vI y] σ Q := by
  obtain ⟨b1, b2, b3, b4⟩ := hR.1.1.b
  have e27 := hR.2.2.1
  refine t_R_exchange (fun _ _ => ?_)
  refine loop_up (P := fun k t => L (d + 1) M_R_exchange 3 [vA 161, vA a, vI x, vI y, vI k, vU] [] t Q) (fun k t => 0 ≤ k ∧ (∀ i c, 0 ≤ i → i < n → 0 ≤ c → c < n → t a (5 * i + c) = if c < k then σ a (5 * (if i = x then y else if i = y then x else i) + c) else σ a (5 * i + c)) ∧ Off (fun b j => b = a) σ t) n ?_ ?_ 0 (by omega) σ ⟨by omega, fun i c _ _ c0 _ => by rw [if_neg (by omega)], Off_rfl⟩
  · rintro t ⟨_, ht, hO⟩
    refine s_R_exchange_3 ⟨fun _ => h t (fun i c i0 i1 c0 c1 => by rw [ht i c i0 i1 c0 c1, if_pos c1]) hO, fun q => ?_⟩
    rw [hO 161 27 (by omega)] at q; omega
  · rintro k t hk ⟨k0, ht, hO⟩ ih
    refine s_R_exchange_3 ⟨fun q => by rw [hO 161 27 (by omega)] at q; omega, fun _ => ?_⟩
    rw [w32_id (x := 5 * x) (by omega) (by omega), w32_id (x := 5 * y) (by omega) (by omega), w32_id (x := 5 * x + k) (by omega) (by omega), w32_id (x := 5 * y + k) (by omega) (by omega), w32_id (x := k + 1) (by omega) (by omega)]
    refine ⟨rd_of hka (by omega) (by omega), rd_of hka (by omega) (by omega), wr_of ha0 hka (by omega) (by omega), fun s2 e2 => ⟨wr_of ha0 hka (by omega) (by omega), fun s3 e3 => ih s3 ⟨by omega, fun i c i0 i1 c0 c1 => ?_, fun b j hb => by rw [e3, up_ne (by omega), e2, up_ne (by omega)]; exact hO b j hb⟩⟩⟩
    have hx := ht x k x0 x1 k0 hk
    have hy := ht y k y0 y1 k0 hk
    rw [if_neg (by omega)] at hx hy
    by_cases g : c = k
    · subst g
      rw [if_pos (by omega)]
      by_cases g1 : i = y
      · subst g1
        rw [e3, up_same, hx]
        by_cases g2 : i = x
        · rw [if_pos g2, g2]
        · rw [if_neg g2, if_pos rfl]
      · rw [e3, up_ne (by omega)]
        by_cases g2 : i = x
        · subst g2
          rw [e2, up_same, hy, if_pos rfl]
        · rw [e2, up_ne (by omega), ht i c i0 i1 c0 c1, if_neg (by omega), if_neg g2, if_neg g1]
    · have g1 : (c < k + 1) ↔ c < k := by omega
      simp only [g1]
      rw [e3, up_ne (by omega), e2, up_ne (by omega), ht i c i0 i1 c0 c1]
def mt (σ : SG) (a : Int) : Int → Int → Int := fun i c => σ a (5 * i + c)
/-- a row is scaled -/
theorem R_tb108 {p n k v : Int} {T : Int → Int} (hR : RW σ p n T) (k0 : 0 ≤ k) (k1 : k < n) (hb : ∀ i c, 0 ≤ i → i < n → 0 ≤ c → c < n → (0 ≤ mt σ 190 i c ∧ mt σ 190 i c < p) ∧ 0 ≤ mt σ 194 i c ∧ mt σ 194 i c < p) (v0 : 0 ≤ v) (v1 : v < p)
    (h : ∀ σ', (∀ c, 0 ≤ c → c < n → mt σ' 190 k c = (mt σ 190 k c * v) % p ∧ mt σ' 194 k c = (mt σ 194 k c * v) % p) → (∀ i c, 0 ≤ i → i < n → i ≠ k → 0 ≤ c → c < n → mt σ' 190 i c = mt σ 190 i c ∧ mt σ' 194 i c = mt σ 194 i c) → Off (fun b j => b = 190 ∨ b = 194) σ σ' → L (d + 1) M_R_turnsBack 184 [vA 161, vI k, vU, vU, vI 0, vU, vU] [] σ' Q) :
    L (d + 1) M_R_turnsBack 108 [vA 161, vI k, vU, vI v, vI 0, vU, vU] [] σ Q := by
  obtain ⟨b1, b2, b3, b4⟩ := hR.1.1.b
  have e27 := hR.2.2.1
  have e26 := hR.2.1
  refine loop_up (P := fun m t => L (d + 1) M_R_turnsBack 108 [vA 161, vI k, vU, vI v, vI m, vU, vU] [] t Q) (fun m t => 0 ≤ m ∧ (∀ c, 0 ≤ c → c < n → mt t 190 k c = (if c < m then (mt σ 190 k c * v) % p else mt σ 190 k c) ∧ mt t 194 k c = (if c < m then (mt σ 194 k c * v) % p else mt σ 194 k c)) ∧ Off (fun b j => (b = 190 ∨ b = 194) ∧ 5 * k ≤ j ∧ j < 5 * k + n) σ t) n ?_ ?_ 0 (by omega) σ ⟨by omega, fun c c0 _ => by rw [if_neg (by omega), if_neg (by omega)]; exact ⟨rfl, rfl⟩, Off_rfl⟩
  · rintro t ⟨_, ht, hO⟩
    refine s_R_turnsBack_108 ⟨fun _ => h t (fun c c0 c1 => by have := ht c c0 c1; rw [if_pos c1, if_pos c1] at this; exact this) (fun i c i0 i1 g c0 c1 => ⟨hO 190 _ (by omega), hO 194 _ (by omega)⟩) (Off_mono hO (fun b j q => q.1)), fun q => ?_⟩
    rw [hO 161 27 (by omega)] at q; omega
  · rintro m t hm ⟨m0, ht, hO⟩ ih
    refine s_R_turnsBack_108 ⟨fun q => by rw [hO 161 27 (by omega)] at q; omega, fun _ => ?_⟩
    have hm2 := ht m m0 hm
    rw [if_neg (by omega), if_neg (by omega)] at hm2
    change t 190 (5 * k + m) = _ ∧ t 194 (5 * k + m) = _ at hm2
    have hbm := hb k m k0 k1 m0 hm
    have u1 := mul_small hbm.1.1 (show _ ≤ (6 : Int) by omega) v0 (show v ≤ 6 by omega)
    have u2 := mul_small hbm.2.1 (show _ ≤ (6 : Int) by omega) v0 (show v ≤ 6 by omega)
    rw [hO 161 26 (by omega), e26, w32_id (x := 5 * k) (by omega) (by omega), w32_id (x := 5 * k + m) (by omega) (by omega), w32_id (x := m + 1) (by omega) (by omega), hm2.1, w32_id (x := mt σ 190 k m * v) (by omega) (by omega), Int.tmod_eq_emod_of_nonneg u1.1]
    refine ⟨⟨by omega, by omega⟩, by omega, ⟨by omega, by omega⟩, fun s2 e2 => ?_⟩
    have f26 : s2 161 26 = p := by rw [e2, up_ne (by omega), hO 161 26 (by omega), e26]
    have f194 : s2 194 (5 * k + m) = mt σ 194 k m := by rw [e2, up_ne (by omega)]; exact hm2.2
    rw [f26, f194, w32_id (x := mt σ 194 k m * v) (by omega) (by omega), Int.tmod_eq_emod_of_nonneg u2.1]
    refine ⟨⟨by omega, by omega⟩, by omega, ⟨by omega, by omega⟩, fun s3 e3 => ih s3 ⟨by omega, fun c c0 c1 => ?_, fun b j hb => by rw [e3, up_ne (by omega), e2, up_ne (by omega)]; exact hO b j hb⟩⟩
    by_cases g : c = m
    · subst g
      rw [if_pos (by omega), if_pos (by omega)]
      refine ⟨?_, ?_⟩
      · show s3 190 (5 * k + c) = _
        rw [e3, up_ne (by omega), e2, up_same]
      · show s3 194 (5 * k + c) = _
        rw [e3, up_same]
    · have := ht c c0 c1
      have g1 : (c < m + 1) ↔ c < m := by omega
      simp only [g1]
      refine ⟨?_, ?_⟩
      · show s3 190 (5 * k + c) = _
        rw [e3, up_ne (by omega), e2, up_ne (by omega)]; exact this.1
      · show s3 194 (5 * k + c) = _
        rw [e3, up_ne (by omega), e2, up_ne (by omega)]; exact this.2
/-- a row is taken from another -/
theorem R_tb219 {p n k i f : Int} {T : Int → Int} (hR : RW σ p n T) (k0 : 0 ≤ k) (k1 : k < n) (i0 : 0 ≤ i) (i1 : i < n) (hik : i ≠ k) (hb : ∀ i c, 0 ≤ i → i < n → 0 ≤ c → c < n → (0 ≤ mt σ 190 i c ∧ mt σ 190 i c < p) ∧ 0 ≤ mt σ 194 i c ∧ mt σ 194 i c < p) (f0 : 0 ≤ f) (f1 : f < p) (hf : f ≠ 0)
    (h : ∀ σ', (∀ c, 0 ≤ c → c < n → mt σ' 190 i c = (mt σ 190 i c - f * mt σ 190 k c) % p ∧ mt σ' 194 i c = (mt σ 194 i c - f * mt σ 194 k c) % p) → (∀ i' c, 0 ≤ i' → i' < n → i' ≠ i → 0 ≤ c → c < n → mt σ' 190 i' c = mt σ 190 i' c ∧ mt σ' 194 i' c = mt σ 194 i' c) → Off (fun b j => b = 190 ∨ b = 194) σ σ' → L (d + 2) M_R_turnsBack 184 [vA 161, vI k, vU, vU, vI (i + 1), vU, vU] [] σ' Q) :
    L (d + 2) M_R_turnsBack 219 [vA 161, vI k, vU, vU, vI i, vI f, vI 0] [] σ Q := by
  obtain ⟨b1, b2, b3, b4⟩ := hR.1.1.b
  have e27 := hR.2.2.1
  have e26 := hR.2.1
  refine loop_up (P := fun m t => L (d + 2) M_R_turnsBack 219 [vA 161, vI k, vU, vU, vI i, vI f, vI m] [] t Q) (fun m t => 0 ≤ m ∧ (∀ c, 0 ≤ c → c < n → mt t 190 i c = (if c < m then (mt σ 190 i c - f * mt σ 190 k c) % p else mt σ 190 i c) ∧ mt t 194 i c = (if c < m then (mt σ 194 i c - f * mt σ 194 k c) % p else mt σ 194 i c)) ∧ Off (fun b j => (b = 190 ∨ b = 194) ∧ 5 * i ≤ j ∧ j < 5 * i + n) σ t) n ?_ ?_ 0 (by omega) σ ⟨by omega, fun c c0 _ => by rw [if_neg (by omega), if_neg (by omega)]; exact ⟨rfl, rfl⟩, Off_rfl⟩
  · rintro t ⟨_, ht, hO⟩
    refine s_R_turnsBack_219 ⟨fun _ => ?_, fun q => ?_⟩
    · rw [w32_id (by omega) (by omega)]
      exact h t (fun c c0 c1 => by have := ht c c0 c1; rw [if_pos c1, if_pos c1] at this; exact this) (fun i' c i0 i1 g c0 c1 => ⟨hO 190 _ (by omega), hO 194 _ (by omega)⟩) (Off_mono hO (fun b j q => q.1))
    · rw [hO 161 27 (by omega)] at q; omega
  · rintro m t hm ⟨m0, ht, hO⟩ ih
    refine s_R_turnsBack_219 ⟨fun q => by rw [hO 161 27 (by omega)] at q; omega, fun _ => ⟨fun q => absurd q hf, fun _ => ?_⟩⟩
    have hm2 := ht m m0 hm
    rw [if_neg (by omega), if_neg (by omega)] at hm2
    change t 190 (5 * i + m) = _ ∧ t 194 (5 * i + m) = _ at hm2
    have hbm := hb k m k0 k1 m0 hm
    have hbi := hb i m i0 i1 m0 hm
    have u1 := mul_small f0 (show f ≤ 6 by omega) hbm.1.1 (show _ ≤ (6 : Int) by omega)
    have u2 := mul_small f0 (show f ≤ 6 by omega) hbm.2.1 (show _ ≤ (6 : Int) by omega)
    have k190 : t 190 (5 * k + m) = mt σ 190 k m := hO 190 _ (by omega)
    have k194 : t 194 (5 * k + m) = mt σ 194 k m := hO 194 _ (by omega)
    rw [hO 161 26 (by omega), e26, w32_id (x := 5 * i) (by omega) (by omega), w32_id (x := 5 * k) (by omega) (by omega), w32_id (x := 5 * k + m) (by omega) (by omega), w32_id (x := 5 * i + m) (by omega) (by omega), w32_id (x := m + 1) (by omega) (by omega), hm2.1, k190, w32_id (x := f * mt σ 190 k m) (by omega) (by omega), w32_id (x := mt σ 190 i m - f * mt σ 190 k m) (by omega) (by omega)]
    refine ⟨⟨by omega, by omega⟩, ⟨by omega, by omega⟩, R_left_s ⟨b1, b2⟩ ⟨⟨by omega, by omega⟩, fun s2 e2 => ?_⟩⟩
    have f26 : s2 161 26 = p := by rw [e2, up_ne (by omega), hO 161 26 (by omega), e26]
    have f194 : s2 194 (5 * i + m) = mt σ 194 i m := by rw [e2, up_ne (by omega)]; exact hm2.2
    have g194 : s2 194 (5 * k + m) = mt σ 194 k m := by rw [e2, up_ne (by omega)]; exact k194
    rw [f26, f194, g194, w32_id (x := f * mt σ 194 k m) (by omega) (by omega), w32_id (x := mt σ 194 i m - f * mt σ 194 k m) (by omega) (by omega)]
    refine ⟨⟨by omega, by omega⟩, ⟨by omega, by omega⟩, R_left_s ⟨b1, b2⟩ ⟨⟨by omega, by omega⟩, fun s3 e3 => ih s3 ⟨by omega, fun c c0 c1 => ?_, fun b j hb => by rw [e3, up_ne (by omega), e2, up_ne (by omega)]; exact hO b j hb⟩⟩⟩
    by_cases g : c = m
    · subst g
      rw [if_pos (by omega), if_pos (by omega)]
      refine ⟨?_, ?_⟩
      · show s3 190 (5 * i + c) = _
        rw [e3, up_ne (by omega), e2, up_same]
      · show s3 194 (5 * i + c) = _
        rw [e3, up_same]
    · have := ht c c0 c1
      have g1 : (c < m + 1) ↔ c < m := by omega
      simp only [g1]
      refine ⟨?_, ?_⟩
      · show s3 190 (5 * i + c) = _
        rw [e3, up_ne (by omega), e2, up_ne (by omega)]; exact this.1
      · show s3 194 (5 * i + c) = _
        rw [e3, up_ne (by omega), e2, up_ne (by omega)]; exact this.2
theorem emod_dvd {x p : Int} : p ∣ x % p - x := by
  obtain ⟨q, hq⟩ := emod_ex x p
  exact ⟨q, by omega⟩
theorem R_turnsBack_s {p n : Int} {T : Int → Int} {B : Int → Int → Int} (hR : RW σ p n T) (hB : ∀ i c, 0 ≤ i → i < n → 0 ≤ c → c < n → σ 193 (5 * i + c) = B i c ∧ 0 ≤ B i c ∧ B i c < p) (h1 : ∀ σ', INV p n B (mt σ' 194) → Off (fun b j => b = 190 ∨ b = 194) σ σ' → Q 1 σ') (h0 : SNG p n B → ∀ σ', Off (fun b j => b = 190 ∨ b = 194) σ σ' → Q 0 σ') : Tri (d + 2) M_R_turnsBack [vA 161] σ Q := by
  obtain ⟨b1, b2, b3, b4⟩ := hR.1.1.b
  have hfr : ∀ t, Off (fun b j => b = 190 ∨ b = 194) σ t → RW t p n T := fun t ht => hR.fr (fun k _ _ => ht 161 k (by omega)) (fun k => ht 166 k (by omega)) (fun k => ht 196 k (by omega))
  refine t_R_turnsBack (R_copySpan_s kd_193 kd_190 (by omega) (by omega) (fun s1 hc1 hO1 => ?_))
  have hO1' : Off (fun b j => b = 190 ∨ b = 194) σ s1 := Off_mono hO1 (fun b j q => by omega)
  refine R_wholeSpan_s (hfr s1 hO1') kd_194 (by omega) (by omega) (fun s2 hS2 hO2 => ?_)
  have hO2' : Off (fun b j => b = 190 ∨ b = 194) σ s2 := Off_trans hO1' (Off_mono hO2 (fun b j q => by omega))
  have hM0 : ∀ i c, 0 ≤ i → i < n → 0 ≤ c → c < n → mt s2 190 i c = B i c := fun i c i0 i1 c0 c1 => by
    show s2 190 (5 * i + c) = _
    rw [hO2 190 _ (by omega), hc1 _ (by omega) (by omega)]; exact (hB i c i0 i1 c0 c1).1
  have hP0 : ∀ i c, 0 ≤ i → i < n → 0 ≤ c → c < n → mt s2 194 i c = if i = c then 1 else 0 := fun i c i0 i1 c0 c1 => by
    have := hS2.2.1 i c i0 i1 rfl c0 c1
    rw [cdU i0] at this
    exact this
  have hTB0 : TB p n B (mt s2 190) (mt s2 194) := by
    refine TB_cg (M := B) (P := fun i c => if i = c then 1 else 0) ⟨fun i c i0 i1 c0 c1 => ⟨(hB i c i0 i1 c0 c1).2, ?_⟩, fun i m i0 i1 m0 m1 => ?_, fun y hy => hy⟩ (fun i c i0 i1 c0 c1 => ⟨hM0 i c i0 i1 c0 c1, hP0 i c i0 i1 c0 c1⟩)
    · show 0 ≤ (if i = c then (1 : Int) else 0) ∧ (if i = c then (1 : Int) else 0) < p
      split <;> omega
    · show p ∣ B i m - sR (fun l => (if i = l then (1 : Int) else 0) * B l m) 0 n
      rw [sR_one (l := i) i0 i1 (fun l _ _ hl => by rw [if_neg (fun e => hl e.symm)]; simp), if_pos rfl]
      exact ⟨0, by omega⟩
  refine loop_up (P := fun k t => L (d + 2) M_R_turnsBack 23 [vA 161, vI k, vU, vU, vU, vU, vU] [] t Q) (fun k t => 0 ≤ k ∧ TB p n B (mt t 190) (mt t 194) ∧ (∀ i c, 0 ≤ i → i < n → 0 ≤ c → c < k → mt t 190 i c = if i = c then 1 else 0) ∧ Off (fun b j => b = 190 ∨ b = 194) σ t) n ?_ ?_ 0 (by omega) s2 ⟨by omega, hTB0, fun i c _ _ _ _ => by omega, hO2'⟩
  · rintro t ⟨_, hT, hI, hO⟩
    refine s_R_turnsBack_23 ⟨fun _ => h1 t (TB_inv hT hI) hO, fun q => ?_⟩
    rw [(hfr t hO).2.2.1] at q; omega
  · rintro k t hk ⟨k0, hT, hI, hO⟩ ih
    have e27 := (hfr t hO).2.2.1
    refine s_R_turnsBack_23 ⟨fun q => by omega, fun _ => ?_⟩
    refine loop_up (P := fun r (_ : Unit) => L (d + 2) M_R_turnsBack 33 [vA 161, vI k, vI r, vU, vU, vU, vU] [] t Q) (fun r _ => k ≤ r ∧ ∀ i, k ≤ i → i < r → mt t 190 i k = 0) n ?_ ?_ k (by omega) () ⟨by omega, fun i _ _ => by omega⟩
    · rintro _ ⟨_, hz⟩
      exact s_R_turnsBack_33 ⟨fun _ => s_R_turnsBack_60 ⟨fun q => by omega, fun _ => h0 (TB_sng b1 hT k0 hk hI hz) t hO⟩, fun q => by omega⟩
    · rintro r _ hr ⟨r0, hz⟩ ih2
      refine s_R_turnsBack_33 ⟨fun q => by omega, fun _ => ?_⟩
      rw [w32_id (x := 5 * r) (by omega) (by omega), w32_id (x := 5 * r + k) (by omega) (by omega), w32_id (x := r + 1) (by omega) (by omega)]
      refine ⟨⟨by omega, by omega⟩, fun hne => ?_, fun hz0 => ih2 () ⟨by omega, fun i i0 i1 => ?_⟩⟩
      · change mt t 190 r k ≠ 0 at hne
        refine s_R_turnsBack_60 ⟨fun _ => ?_, fun q => by omega⟩
        refine R_exchange_s (hfr t hO) kd_190 (by omega) (by omega) (by omega) hr k0 hk (fun t1 hx1 hO1 => ?_)
        have hO1t : Off (fun b j => b = 190 ∨ b = 194) σ t1 := Off_trans hO (Off_mono hO1 (fun b j q => by omega))
        refine R_exchange_s (hfr t1 hO1t) kd_194 (by omega) (by omega) (by omega) hr k0 hk (fun t2 hx2 hO2 => ?_)
        have hO2t : Off (fun b j => b = 190 ∨ b = 194) σ t2 := Off_trans hO1t (Off_mono hO2 (fun b j q => by omega))
        have hsw : ∀ i c, 0 ≤ i → i < n → 0 ≤ c → c < n → mt t2 190 i c = mt t 190 (if i = r then k else if i = k then r else i) c ∧ mt t2 194 i c = mt t 194 (if i = r then k else if i = k then r else i) c := fun i c i0 i1 c0 c1 => by
          refine ⟨?_, ?_⟩
          · show t2 190 (5 * i + c) = t 190 (5 * _ + c)
            rw [hO2 190 _ (by omega)]; exact hx1 i c i0 i1 c0 c1
          · show t2 194 (5 * i + c) = t 194 (5 * _ + c)
            rw [hx2 i c i0 i1 c0 c1, hO1 194 _ (by omega)]
        have hT2 : TB p n B (mt t2 190) (mt t2 194) := TB_swap hT (by omega) hr k0 hk hsw
        have hI2 : ∀ i c, 0 ≤ i → i < n → 0 ≤ c → c < k → mt t2 190 i c = if i = c then 1 else 0 := fun i c i0 i1 c0 c1 => by
          rw [(hsw i c i0 i1 c0 (by omega)).1]
          by_cases g : i = r
          · rw [if_pos g, hI k c k0 hk c0 c1, if_neg (by omega), if_neg (by omega)]
          · rw [if_neg g]
            by_cases g2 : i = k
            · rw [if_pos g2, hI r c (by omega) hr c0 c1, if_neg (by omega), if_neg (by omega)]
            · rw [if_neg g2]; exact hI i c i0 i1 c0 c1
        have hkk : mt t2 190 k k = mt t 190 r k := by
          rw [(hsw k k k0 hk k0 hk).1]
          by_cases g : k = r
          · rw [if_pos g, ← g]
          · rw [if_neg g, if_pos rfl]
        have hkb := (hT2.1 k k k0 hk k0 hk).1
        rw [w32_id (x := 5 * k) (by omega) (by omega), w32_id (x := 5 * k + k) (by omega) (by omega)]
        refine ⟨⟨by omega, by omega⟩, R_inverse_s hR.1.1.pr (hfr t2 hO2t).2.1 (show 1 ≤ mt t2 190 k k by omega) hkb.2 ?_⟩
        obtain ⟨i1', i2', i3'⟩ := iv_s hR.1.1.pr (show 1 ≤ mt t2 190 k k by omega) hkb.2
        change L (d + 2) M_R_turnsBack 108 [vA 161, vI k, vU, vI (iv p (mt t2 190 k k)), vI 0, vU, vU] [] t2 Q
        generalize hv : iv p (mt t2 190 k k) = v at *
        refine R_tb108 (hfr t2 hO2t) k0 hk hT2.1 (by omega) i2' (fun t3 hr3 ho3 hO3 => ?_)
        have hO3t : Off (fun b j => b = 190 ∨ b = 194) σ t3 := Off_trans hO2t hO3
        have hT3 : TB p n B (mt t3 190) (mt t3 194) := by
          refine TB_row (q := k) (s := v) (t := 0) (s' := mt t2 190 k k) hT2 k0 hk k0 hk (Or.inr rfl) ?_ (fun c c0 c1 => ?_) (fun c c0 c1 => ?_) ho3
          · obtain ⟨q, hq⟩ := emod_ex (mt t2 190 k k * v) p
            exact ⟨-q, by rw [Int.mul_neg]; omega⟩
          · rw [(hr3 c c0 c1).1, (hr3 c c0 c1).2]
            exact ⟨⟨Int.emod_nonneg _ (by omega), Int.emod_lt_of_pos _ (by omega)⟩, Int.emod_nonneg _ (by omega), Int.emod_lt_of_pos _ (by omega)⟩
          · rw [(hr3 c c0 c1).1, (hr3 c c0 c1).2, Int.zero_mul, Int.zero_mul, Int.add_zero, Int.add_zero, Int.mul_comm v, Int.mul_comm v]
            exact ⟨emod_dvd, emod_dvd⟩
        have hI3 : ∀ i c, 0 ≤ i → i < n → 0 ≤ c → c < k → mt t3 190 i c = if i = c then 1 else 0 := fun i c i0 i1 c0 c1 => by
          by_cases g : i = k
          · rw [g, (hr3 c c0 (by omega)).1, hI2 k c k0 hk c0 c1, if_neg (by omega)]; simp
          · rw [(ho3 i c i0 i1 g c0 (by omega)).1]; exact hI2 i c i0 i1 c0 c1
        have hK3 : mt t3 190 k k = 1 := by rw [(hr3 k k0 hk).1]; exact i3'
        refine loop_up (P := fun i t => L (d + 2) M_R_turnsBack 184 [vA 161, vI k, vU, vU, vI i, vU, vU] [] t Q) (fun i t => 0 ≤ i ∧ TB p n B (mt t 190) (mt t 194) ∧ (∀ i c, 0 ≤ i → i < n → 0 ≤ c → c < k → mt t 190 i c = if i = c then 1 else 0) ∧ mt t 190 k k = 1 ∧ (∀ i', 0 ≤ i' → i' < i → i' < n → i' ≠ k → mt t 190 i' k = 0) ∧ Off (fun b j => b = 190 ∨ b = 194) σ t) n ?_ ?_ 0 (by omega) t3 ⟨by omega, hT3, hI3, hK3, fun i' _ _ => by omega, hO3t⟩
        · rintro t4 ⟨_, hT4, hI4, hK4, hz4, hO4⟩
          refine s_R_turnsBack_184 ⟨fun _ => ?_, fun q => by rw [(hfr t4 hO4).2.2.1] at q; omega⟩
          rw [w32_id (by omega) (by omega)]
          refine ih t4 ⟨by omega, hT4, fun i c i0 i1 c0 c1 => ?_, hO4⟩
          by_cases g : c = k
          · subst g
            by_cases g2 : i = c
            · rw [if_pos g2, g2]; exact hK4
            · rw [if_neg g2]; exact hz4 i i0 i1 i1 g2
          · exact hI4 i c i0 i1 c0 (by omega)
        · rintro i t4 hi ⟨i0, hT4, hI4, hK4, hz4, hO4⟩ ih4
          have e27' := (hfr t4 hO4).2.2.1
          refine s_R_turnsBack_184 ⟨fun q => by omega, fun _ => ⟨fun hne2 => ?_, fun heq => ?_⟩⟩
          · rw [w32_id (x := 5 * i) (by omega) (by omega), w32_id (x := 5 * i + k) (by omega) (by omega)]
            refine ⟨⟨by omega, by omega⟩, ?_⟩
            change L (d + 2) M_R_turnsBack 219 [vA 161, vI k, vU, vU, vI i, vI (mt t4 190 i k), vI 0] [] t4 Q
            have hfb := (hT4.1 i k i0 hi k0 hk).1
            by_cases hf : mt t4 190 i k = 0
            · refine s_R_turnsBack_219 ⟨fun q => by omega, fun _ => ⟨fun _ => ?_, fun q => absurd hf q⟩⟩
              rw [w32_id (by omega) (by omega)]
              refine ih4 t4 ⟨by omega, hT4, hI4, hK4, fun i' i0' i1' i2' hk' => ?_, hO4⟩
              by_cases g : i' = i
              · rw [g]; exact hf
              · exact hz4 i' i0' (by omega) i2' hk'
            · refine R_tb219 (hfr t4 hO4) k0 hk i0 hi hne2 hT4.1 hfb.1 hfb.2 hf (fun t5 hr5 ho5 hO5 => ih4 t5 ⟨by omega, ?_, fun i' c i0' i1' c0 c1 => ?_, ?_, fun i' i0' i1' i2' hk' => ?_, Off_trans hO4 hO5⟩)
              · refine TB_row (q := k) (s := 1) (t := -(mt t4 190 i k)) (s' := 1) hT4 i0 hi k0 hk (Or.inl (fun e => hne2 e.symm)) ⟨0, by omega⟩ (fun c c0 c1 => ?_) (fun c c0 c1 => ?_) ho5
                · rw [(hr5 c c0 c1).1, (hr5 c c0 c1).2]
                  exact ⟨⟨Int.emod_nonneg _ (by omega), Int.emod_lt_of_pos _ (by omega)⟩, Int.emod_nonneg _ (by omega), Int.emod_lt_of_pos _ (by omega)⟩
                · rw [(hr5 c c0 c1).1, (hr5 c c0 c1).2, Int.one_mul, Int.one_mul, Int.neg_mul, Int.neg_mul, ← Int.sub_eq_add_neg, ← Int.sub_eq_add_neg]
                  exact ⟨emod_dvd, emod_dvd⟩
              · by_cases g : i' = i
                · rw [g, (hr5 c c0 (by omega)).1, hI4 i c i0 hi c0 c1, hI4 k c k0 hk c0 c1, if_neg (show ¬ k = c by omega), Int.mul_zero, Int.sub_zero]
                  by_cases g2 : i = c
                  · rw [if_pos g2]; exact Int.emod_eq_of_lt (by omega) (by omega)
                  · rw [if_neg g2]; simp
                · rw [(ho5 i' c i0' i1' g c0 (by omega)).1]; exact hI4 i' c i0' i1' c0 c1
              · rw [(ho5 k k k0 hk (fun e => hne2 e.symm) k0 hk).1]; exact hK4
              · by_cases g : i' = i
                · rw [g, (hr5 k k0 hk).1, hK4, Int.mul_one, Int.sub_self]; simp
                · rw [(ho5 i' k i0' i2' g k0 hk).1]; exact hz4 i' i0' (by omega) i2' hk'
          · refine s_R_turnsBack_219 ⟨fun q => by omega, fun _ => ⟨fun _ => ?_, fun q => absurd rfl q⟩⟩
            rw [w32_id (by omega) (by omega)]
            exact ih4 t4 ⟨by omega, hT4, hI4, hK4, fun i' i0' i1' i2' hk' => hz4 i' i0' (by omega) i2' hk', hO4⟩
      · by_cases g : i = r
        · rw [g]; exact hz0
        · exact hz i i0 (by omega)
end TRB
