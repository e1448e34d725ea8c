/-! ===== TABLES that are made ===== -/
def MK (p m : Int) (v : Int → Int → Int → Int) (t : Int) : Int :=
  if t / 25 < t / 5 % 5 ∧ t / 5 % 5 < m ∧ t % 5 < m then v (t / 25) (t / 5 % 5) (t % 5) % p else if t / 5 % 5 < t / 25 ∧ t / 25 < m ∧ t % 5 < m then (-(v (t / 5 % 5) (t / 25) (t % 5))) % p else 0
theorem MK_at {p m i j k : Int} {v : Int → Int → Int → Int} (i0 : 0 ≤ i) (i1 : i < 5) (j0 : 0 ≤ j) (j1 : j < 5) (k0 : 0 ≤ k) (k1 : k < 5) : MK p m v (25 * i + 5 * j + k) = if i < j ∧ j < m ∧ k < m then v i j k % p else if j < i ∧ i < m ∧ k < m then (-(v j i k)) % p else 0 := by
  unfold MK
  rw [show (25 * i + 5 * j + k) / 25 = i by omega, show (25 * i + 5 * j + k) / 5 % 5 = j by omega, show (25 * i + 5 * j + k) % 5 = k by omega]
theorem t_ijk {t : Int} (h0 : 0 ≤ t) (h1 : t < 125) : ∃ i j k, 0 ≤ i ∧ i < 5 ∧ 0 ≤ j ∧ j < 5 ∧ 0 ≤ k ∧ k < 5 ∧ t = 25 * i + 5 * j + k := ⟨t / 25, t / 5 % 5, t % 5, by omega, by omega, by omega, by omega, by omega, by omega, by omega⟩
theorem MK_cg {p m : Int} {v w : Int → Int → Int → Int} (h : ∀ i j k, 0 ≤ i → i < j → j < m → 0 ≤ k → k < m → v i j k = w i j k) {t : Int} (t0 : 0 ≤ t) (t1 : t < 125) : MK p m v t = MK p m w t := by
  obtain ⟨i, j, k, i0, i1, j0, j1, k0, k1, rfl⟩ := t_ijk t0 t1
  rw [MK_at i0 i1 j0 j1 k0 k1, MK_at i0 i1 j0 j1 k0 k1]
  by_cases g : i < j ∧ j < m ∧ k < m
  · rw [if_pos g, if_pos g, h i j k i0 g.1 g.2.1 k0 g.2.2]
  · rw [if_neg g, if_neg g]
    by_cases g2 : j < i ∧ i < m ∧ k < m
    · rw [if_pos g2, if_pos g2, h j i k j0 g2.1 g2.2.1 k0 g2.2.2]
    · rw [if_neg g2, if_neg g2]
theorem neg_emod2 {x p : Int} : (-(x % p)) % p = (-x) % p := by
  obtain ⟨q, hq⟩ := emod_ex x p
  rw [hq]
  exact emod_cg (q := -q) (by grind)
theorem TW_MK {p m : Int} {v : Int → Int → Int → Int} (h : PN p m) : TW p m (MK p m v) := by
  obtain ⟨b1, b2, b3, b4⟩ := h.b
  refine ⟨h, fun t t0 t1 => ?_, fun i j k i0 i1 j0 j1 k0 k1 => ?_, fun i k i0 i1 k0 k1 => ?_, fun i j k i0 i1 j0 j1 k0 k1 ho => ?_⟩
  · unfold MK
    split
    · exact ⟨Int.emod_nonneg _ (by omega), Int.emod_lt_of_pos _ (by omega)⟩
    · split
      · exact ⟨Int.emod_nonneg _ (by omega), Int.emod_lt_of_pos _ (by omega)⟩
      · omega
  · rw [MK_at j0 j1 i0 i1 k0 k1, MK_at i0 i1 j0 j1 k0 k1]
    by_cases g : i < j ∧ j < m ∧ k < m
    · rw [if_pos g, if_neg (by omega), if_pos (by omega), neg_emod2]
    · rw [if_neg g]
      by_cases g2 : j < i ∧ i < m ∧ k < m
      · rw [if_pos (by omega), if_pos g2, if_neg g, neg_emod2, Int.neg_neg]
      · rw [if_neg (by omega), if_neg (by omega), if_neg g2]; rfl
  · rw [MK_at i0 i1 i0 i1 k0 k1, if_neg (by omega), if_neg (by omega)]
  · rw [MK_at i0 i1 j0 j1 k0 k1, if_neg (by omega), if_neg (by omega)]
theorem MK_self {p n m : Int} {T : Int → Int} (hT : TW p n T) (hm : n ≤ m) {t : Int} (t0 : 0 ≤ t) (t1 : t < 125) : MK p m (fun i j k => T (25 * i + 5 * j + k)) t = T t := by
  obtain ⟨hpn, h1, h2, h3, h4⟩ := hT
  obtain ⟨b1, b2, b3, b4⟩ := hpn.b
  obtain ⟨i, j, k, i0, i1, j0, j1, k0, k1, rfl⟩ := t_ijk t0 t1
  rw [MK_at i0 i1 j0 j1 k0 k1]
  have hb := h1 (25 * i + 5 * j + k) (by omega) (by omega)
  by_cases g : i < j ∧ j < m ∧ k < m
  · rw [if_pos g]; exact Int.emod_eq_of_lt hb.1 hb.2
  · rw [if_neg g]
    by_cases g2 : j < i ∧ i < m ∧ k < m
    · rw [if_pos g2]
      exact (h2 j i k j0 j1 i0 i1 k0 k1).symm
    · rw [if_neg g2]
      by_cases g3 : i = j
      · subst g3; exact (h3 i k i0 i1 k0 k1).symm
      · exact (h4 i j k i0 i1 j0 j1 k0 k1 (by omega)).symm
def w3 (w : Int → Int → Int → Int) (i j k v : Int) : Int → Int → Int → Int := fun i' j' k' => if i' = i ∧ j' = j ∧ k' = k then v else w i' j' k'
theorem MK_w3 {p m i j k v : Int} {w : Int → Int → Int → Int} (i0 : 0 ≤ i) (ij : i < j) (jm : j < m) (k0 : 0 ≤ k) (km : k < m) (hm : m ≤ 5) {t : Int} (t0 : 0 ≤ t) (t1 : t < 125) : MK p m (w3 w i j k v) t = if t = 25 * j + 5 * i + k then (-v) % p else if t = 25 * i + 5 * j + k then v % p else MK p m w t := by
  obtain ⟨a, b, c, a0, a1, b0, b1, c0, c1, rfl⟩ := t_ijk t0 t1
  rw [MK_at a0 a1 b0 b1 c0 c1, MK_at a0 a1 b0 b1 c0 c1]
  unfold w3
  by_cases g : a = j ∧ b = i ∧ c = k
  · obtain ⟨rfl, rfl, rfl⟩ := g
    rw [if_neg (by omega), if_pos (by omega), if_pos ⟨rfl, rfl, rfl⟩, if_pos rfl]
  · rw [if_neg (show ¬ 25 * a + 5 * b + c = 25 * j + 5 * i + k by omega)]
    by_cases g2 : a = i ∧ b = j ∧ c = k
    · obtain ⟨rfl, rfl, rfl⟩ := g2
      rw [if_pos (by omega), if_pos ⟨rfl, rfl, rfl⟩, if_pos rfl]
    · rw [if_neg (show ¬ 25 * a + 5 * b + c = 25 * i + 5 * j + k by omega)]
      by_cases g3 : a < b ∧ b < m ∧ c < m
      · rw [if_pos g3, if_pos g3, if_neg g2]
      · rw [if_neg g3, if_neg g3]
        by_cases g4 : b < a ∧ a < m ∧ c < m
        · rw [if_pos g4, if_pos g4, if_neg (by omega)]
        · rw [if_neg g4, if_neg g4]
/-- what stands before a place -/
def lx (i j k i' j' k' : Int) : Prop := i' < i ∨ (i' = i ∧ (j' < j ∨ (j' = j ∧ k' < k)))
def wl (v w : Int → Int → Int → Int) (i j k : Int) : Int → Int → Int → Int := fun i' j' k' => if i' < i ∨ (i' = i ∧ (j' < j ∨ (j' = j ∧ k' < k))) then v i' j' k' else w i' j' k'
theorem wl_next {v w : Int → Int → Int → Int} {i j k : Int} : w3 (wl v w i j k) i j k (v i j k) = wl v w i j (k + 1) := by
  funext a b c
  show (if a = i ∧ b = j ∧ c = k then v i j k else if a < i ∨ (a = i ∧ (b < j ∨ (b = j ∧ c < k))) then v a b c else w a b c) = (if a < i ∨ (a = i ∧ (b < j ∨ (b = j ∧ c < k + 1))) then v a b c else w a b c)
  by_cases g : a = i ∧ b = j ∧ c = k
  · obtain ⟨rfl, rfl, rfl⟩ := g
    rw [if_pos ⟨rfl, rfl, rfl⟩, if_pos (by omega)]
  · rw [if_neg g]
    by_cases g2 : a < i ∨ (a = i ∧ (b < j ∨ (b = j ∧ c < k)))
    · rw [if_pos g2, if_pos (by omega)]
    · rw [if_neg g2, if_neg (by omega)]
/-- at the ends of rows -/
theorem wl_k {p m i j k : Int} {v w : Int → Int → Int → Int} (hk : m ≤ k) {t : Int} (t0 : 0 ≤ t) (t1 : t < 125) : MK p m (wl v w i j k) t = MK p m (wl v w i (j + 1) 0) t := MK_cg (fun a b c a0 ab bm c0 cm => by
  show (if a < i ∨ (a = i ∧ (b < j ∨ (b = j ∧ c < k))) then v a b c else w a b c) = (if a < i ∨ (a = i ∧ (b < j + 1 ∨ (b = j + 1 ∧ c < 0))) then v a b c else w a b c)
  by_cases g : a < i ∨ (a = i ∧ (b < j ∨ (b = j ∧ c < k)))
  · rw [if_pos g, if_pos (by omega)]
  · rw [if_neg g, if_neg (by omega)]) t0 t1
theorem wl_j {p m i j : Int} {v w : Int → Int → Int → Int} (hj : m ≤ j) {t : Int} (t0 : 0 ≤ t) (t1 : t < 125) : MK p m (wl v w i j 0) t = MK p m (wl v w (i + 1) (i + 1 + 1) 0) t := MK_cg (fun a b c a0 ab bm c0 cm => by
  show (if a < i ∨ (a = i ∧ (b < j ∨ (b = j ∧ c < 0))) then v a b c else w a b c) = (if a < i + 1 ∨ (a = i + 1 ∧ (b < i + 1 + 1 ∨ (b = i + 1 + 1 ∧ c < 0))) then v a b c else w a b c)
  by_cases g : a < i ∨ (a = i ∧ (b < j ∨ (b = j ∧ c < 0)))
  · rw [if_pos g, if_pos (by omega)]
  · rw [if_neg g, if_neg (by omega)]) t0 t1
theorem wl_0 {p m : Int} {v w : Int → Int → Int → Int} {t : Int} (t0 : 0 ≤ t) (t1 : t < 125) : MK p m (wl v w 0 (0 + 1) 0) t = MK p m w t := MK_cg (fun a b c a0 ab bm c0 cm => by
  show (if a < 0 ∨ (a = 0 ∧ (b < 0 + 1 ∨ (b = 0 + 1 ∧ c < 0))) then v a b c else w a b c) = w a b c
  rw [if_neg (by omega)]) t0 t1
theorem wl_m {p m i j : Int} {v w : Int → Int → Int → Int} (hi : m ≤ i) {t : Int} (t0 : 0 ≤ t) (t1 : t < 125) : MK p m (wl v w i j 0) t = MK p m v t := MK_cg (fun a b c a0 ab bm c0 cm => by
  show (if a < i ∨ _ then v a b c else w a b c) = v a b c
  rw [if_pos (by omega)]) t0 t1
theorem MK_0 {p m t : Int} : MK p m (fun _ _ _ => 0) t = 0 := by
  unfold MK
  split
  · simp
  · split
    · simp
    · rfl
section MKS
variable {d : Nat} {σ : SG} {Q : Int → SG → Prop}
/-- a place of the class's made WORLD -/
theorem Wd_setMK {a p m i j k v : Int} {w : Int → Int → Int → Int} (ho : obok 10 a) (hp : σ a 1 = p) (hm : σ a 2 = m) (hpn : PN p m) (hT : ∀ t, 0 ≤ t → t < 125 → σ (a + 1) t = MK p m w t) (i0 : 0 ≤ i) (ij : i < j) (jm : j < m) (k0 : 0 ≤ k) (km : k < m) (hv : -1000000 ≤ v ∧ v ≤ 1000000)
    (h : ∀ σ', (∀ t, 0 ≤ t → t < 125 → σ' (a + 1) t = MK p m (w3 w i j k v) t) → Off (fun b j => b = a + 1) σ σ' → Q 0 σ') : Tri (d + 2) M_Wd_setCell [vA a, vI i, vI j, vI k, vI v] σ Q := by
  obtain ⟨b1, b2, b3, b4⟩ := hpn.b
  refine Wd_setCell_s ho (by omega) (by omega) (by omega) (by omega) (by omega) (by omega) hv (h _ (fun t t0 t1 => ?_) (fun b q hb => by rw [up_ne (by omega), up_ne (by omega)]))
  rw [MK_w3 i0 ij jm k0 km b4 t0 t1, hp]
  by_cases g : t = 25 * j + 5 * i + k
  · rw [if_pos g, g, up_same]
  · rw [if_neg g, up_ne (by omega)]
    by_cases g2 : t = 25 * i + 5 * j + k
    · rw [if_pos g2, g2, up_same]
    · rw [if_neg g2, up_ne (by omega)]; exact hT t t0 t1
theorem R_setMK {x f p m i j k v : Int} {w : Int → Int → Int → Int} {len : Nat} (hx : 0 ≤ x) (hk : kd x = (100, len)) (hf0 : 0 ≤ f) (hf1 : f + 127 ≤ (len : Int)) (hlen : len ≤ 5000) (hp : σ x f = p) (hpn : PN p m) (hT : ∀ t, 0 ≤ t → t < 125 → σ x (f + 2 + t) = MK p m w t) (i0 : 0 ≤ i) (ij : i < j) (jm : j < m) (k0 : 0 ≤ k) (km : k < m) (hv : -1000000 ≤ v ∧ v ≤ 1000000)
    (h : ∀ σ', (∀ t, 0 ≤ t → t < 125 → σ' x (f + 2 + t) = MK p m (w3 w i j k v) t) → Off (fun b j => b = x ∧ f + 2 ≤ j ∧ j < f + 127) σ σ' → Q 0 σ') : Tri (d + 2) M_R_set [vA x, vI f, vI i, vI j, vI k, vI v] σ Q := by
  obtain ⟨b1, b2, b3, b4⟩ := hpn.b
  refine t_R_set (fun _ _ _ _ _ => ⟨rd_of hk hf0 (by omega), R_cell_s ⟨i0, by omega⟩ ⟨by omega, by omega⟩ ⟨k0, by omega⟩ ?_⟩)
  rw [hp, w32_id (x := -v) (by omega) (by omega)]
  refine R_left_s ⟨b1, b2⟩ ?_
  rw [w32_id (x := f + (2 + 25 * i + 5 * j + k)) (by omega) (by omega)]
  refine ⟨wr_of hx hk (by omega) (by omega), fun s3 e3 => R_cell_s ⟨by omega, by omega⟩ ⟨i0, by omega⟩ ⟨k0, by omega⟩ (R_left_s ⟨b1, b2⟩ ?_)⟩
  rw [w32_id (x := f + (2 + 25 * j + 5 * i + k)) (by omega) (by omega)]
  refine ⟨wr_of hx hk (by omega) (by omega), fun s6 e6 => h s6 (fun t t0 t1 => ?_) (fun b q hb => by rw [e6, up_ne (by omega), e3, up_ne (by omega)])⟩
  rw [MK_w3 i0 ij jm k0 km b4 t0 t1]
  by_cases g : t = 25 * j + 5 * i + k
  · rw [if_pos g, g, e6, show f + 2 + (25 * j + 5 * i + k) = f + (2 + 25 * j + 5 * i + k) by omega, up_same]
  · rw [if_neg g, e6, up_ne (by omega)]
    by_cases g2 : t = 25 * i + 5 * j + k
    · rw [if_pos g2, g2, e3, show f + 2 + (25 * i + 5 * j + k) = f + (2 + 25 * i + 5 * j + k) by omega, up_same]
    · rw [if_neg g2, e3, up_ne (by omega)]; exact hT t t0 t1
theorem R_clear_s {x f p m : Int} {len : Nat} (hx : 0 ≤ x) (hk : kd x = (100, len)) (hf0 : 0 ≤ f) (hf1 : f + 127 ≤ (len : Int)) (hlen : len ≤ 5000) (h : ∀ σ', σ' x f = p → σ' x (f + 1) = m → (∀ t, 0 ≤ t → t < 125 → σ' x (f + 2 + t) = 0) → Off (fun b j => b = x ∧ f ≤ j ∧ j < f + 127) σ σ' → Q 0 σ') : Tri (d + 1) M_R_clear [vA x, vI f, vI p, vI m] σ Q := by
  refine t_R_clear (fun _ _ _ => ?_)
  refine loop_up (P := fun k t => L (d + 1) M_R_clear 3 [vA x, vI f, vI p, vI m, vI k] [] t Q) (fun k t => 0 ≤ k ∧ (∀ q, 0 ≤ q → q < k → t x (f + q) = 0) ∧ Off (fun b j => b = x ∧ f ≤ j ∧ j < f + 127) σ t) 127 ?_ ?_ 0 (by omega) σ ⟨by omega, fun q _ _ => by omega, Off_rfl⟩
  · rintro t ⟨_, hz, hO⟩
    refine s_R_clear_3 ⟨fun _ => ⟨wr_of hx hk (by omega) (by omega), fun s2 e2 => ?_⟩, fun q => by omega⟩
    rw [w32_id (by omega) (by omega)]
    refine ⟨wr_of hx hk (by omega) (by omega), fun s3 e3 => h s3 (by rw [e3, up_ne (by omega), e2, up_same]) (by rw [e3, up_same]) (fun q q0 q1 => ?_) (fun b j hb => ?_)⟩
    · rw [e3, up_ne (by omega), e2, up_ne (by omega), show f + 2 + q = f + (2 + q) by omega]; exact hz _ (by omega) (by omega)
    · rw [e3, up_ne (by omega), e2, up_ne (by omega)]; exact hO b j hb
  · rintro k t hk2 ⟨k0, hz, hO⟩ ih
    refine s_R_clear_3 ⟨fun q => by omega, fun _ => ?_⟩
    rw [w32_id (x := f + k) (by omega) (by omega), w32_id (x := k + 1) (by omega) (by omega)]
    refine ⟨wr_of hx hk (by omega) (by omega), fun s4 e4 => ih s4 ⟨by omega, fun q q0 q1 => ?_, fun b j hb => by rw [e4, up_ne (by omega)]; exact hO b j hb⟩⟩
    by_cases g : q = k
    · subst g; rw [e4, up_same]
    · rw [e4, up_ne (by omega)]; exact hz q q0 (by omega)
theorem R_move_s {x f y g : Int} {lx ly : Nat} (hkx : kd x = (100, lx)) (hy : 0 ≤ y) (hky : kd y = (100, ly)) (hf0 : 0 ≤ f) (hf1 : f + 127 ≤ (lx : Int)) (hg0 : 0 ≤ g) (hg1 : g + 127 ≤ (ly : Int)) (hlx : lx ≤ 5000) (hly : ly ≤ 5000) (hsep : x ≠ y ∨ f + 127 ≤ g ∨ g + 127 ≤ f) (h : ∀ σ', (∀ k, 0 ≤ k → k < 127 → σ' y (g + k) = σ x (f + k)) → Off (fun b j => b = y ∧ g ≤ j ∧ j < g + 127) σ σ' → Q 0 σ') : Tri (d + 1) M_R_move [vA 161, vA x, vI f, vA y, vI g] σ Q := by
  refine t_R_move (fun _ _ => ?_)
  refine loop_up (P := fun k t => L (d + 1) M_R_move 3 [vU, vA x, vI f, vA y, vI g, vI k] [] t Q) (fun k t => 0 ≤ k ∧ (∀ q, 0 ≤ q → q < k → t y (g + q) = σ x (f + q)) ∧ Off (fun b j => b = y ∧ g ≤ j ∧ j < g + 127) σ t) 127 ?_ ?_ 0 (by omega) σ ⟨by omega, fun q _ _ => by omega, Off_rfl⟩
  · rintro t ⟨_, hz, hO⟩
    exact s_R_move_3 ⟨fun _ => h t hz hO, fun q => by omega⟩
  · rintro k t hk ⟨k0, hz, hO⟩ ih
    refine s_R_move_3 ⟨fun q => by omega, fun _ => ?_⟩
    rw [w32_id (x := f + k) (by omega) (by omega), w32_id (x := g + k) (by omega) (by omega), w32_id (x := k + 1) (by omega) (by omega), hO x (f + k) (by omega)]
    refine ⟨rd_of hkx (by omega) (by omega), wr_of hy hky (by omega) (by omega), fun s2 e2 => ih s2 ⟨by omega, fun q q0 q1 => ?_, fun b j hb => by rw [e2, up_ne (by omega)]; exact hO b j hb⟩⟩
    by_cases gq : q = k
    · subst gq; rw [e2, up_same]
    · rw [e2, up_ne (by omega)]; exact hz q q0 (by omega)
/-- the model's WORLD at a place of c -/
def WM (σ : SG) (f p n : Int) (T : Int → Int) : Prop := σ 166 f = p ∧ σ 166 (f + 1) = n ∧ (∀ t, 0 ≤ t → t < 125 → σ 166 (f + 2 + t) = T t) ∧ TW p n T
theorem R_ask_s {f p n : Int} {T : Int → Int} (hW : WM σ f p n T) (hf0 : 0 ≤ f) (hf1 : f + 127 ≤ 3440) (h : ∀ σ', RW σ' p n T → Off (fun b j => b = 161 ∧ 24 ≤ j ∧ j ≤ 27) σ σ' → Q 0 σ') : Tri (d + 1) M_R_ask [vA 161, vA 166, vI f] σ Q := by
  obtain ⟨h1, h2, h3, h4⟩ := hW
  refine t_R_ask (fun _ s1 e1 s2 e2 => ⟨rd_of kd_166 hf0 (by omega), fun s3 e3 => ?_⟩)
  rw [w32_id (by omega) (by omega)]
  refine ⟨rd_of kd_166 (by omega) (by omega), fun s4 e4 => ?_⟩
  have f166 : ∀ k, s2 166 k = σ 166 k := fun k => by rw [e2, up_ne (by omega), e1, up_ne (by omega)]
  have g166 : ∀ k, s3 166 k = σ 166 k := fun k => by rw [e3, up_ne (by omega)]; exact f166 k
  have k24 : s4 161 24 = 166 := by rw [e4, up_ne (by omega), e3, up_ne (by omega), e2, up_ne (by omega), e1, up_same]
  have k25 : s4 161 25 = f := by rw [e4, up_ne (by omega), e3, up_ne (by omega), e2, up_same]
  have k26 : s4 161 26 = p := by rw [e4, up_ne (by omega), e3, up_same, f166]; exact h1
  have k27 : s4 161 27 = n := by rw [e4, up_same, g166]; exact h2
  refine h s4 ⟨h4, k26, k27, Or.inl ⟨k24, by omega, by omega⟩, fun t t0 t1 => ?_⟩ (fun b j hb => by rw [e4, up_ne (by omega), e3, up_ne (by omega), e2, up_ne (by omega), e1, up_ne (by omega)])
  rw [k24, k25, e4, up_ne (by omega), g166]; exact h3 t t0 t1
theorem R_askNow_s {p n : Int} {T : Int → Int} (hW : WM σ 0 p n T) (h : ∀ σ', RW σ' p n T → Off (fun b j => b = 161 ∧ 24 ≤ j ∧ j ≤ 27) σ σ' → Q 0 σ') : Tri (d + 2) M_R_askNow [vA 161] σ Q :=
  t_R_askNow (R_ask_s hW (by omega) (by omega) h)
theorem R_takeOther_s {p m : Int} {T : Int → Int} (hT : TW p m T) (h1 : σ 168 0 = p) (h2 : σ 168 1 = m) (h3 : ∀ t, 0 ≤ t → t < 125 → σ 168 (0 + 2 + t) = T t) (h : ∀ σ', WM σ' 0 p m T → Off (fun b j => b = 166 ∧ 0 ≤ j ∧ j < 127) σ σ' → Q 0 σ') : Tri (d + 2) M_R_takeOther [vA 161] σ Q := by
  refine t_R_takeOther (R_move_s kd_168 (by omega) kd_166 (by omega) (by omega) (by omega) (by omega) (by omega) (by omega) (by omega) (fun s hk hO => h s ⟨?_, ?_, fun t t0 t1 => ?_, hT⟩ (Off_mono hO (fun b j q => by omega))))
  · have := hk 0 (by omega) (by omega); rw [show (0 : Int) + 0 = 0 from rfl] at this; rw [this]; exact h1
  · have := hk 1 (by omega) (by omega); rw [this]; exact h2
  · have := hk (2 + t) (by omega) (by omega)
    rw [show (0 : Int) + (2 + t) = 0 + 2 + t by omega] at this
    rw [this]; exact h3 t t0 t1
theorem R_greatest_s {p n : Int} (h : PN p n) (hq : ∀ r, (p = 2 → r = 5) → (p = 3 → r = 5) → (p = 5 → r = 4) → (p = 7 → r = 3) → Q r σ) : Tri (d + 1) M_R_greatest [vI p] σ Q := by
  unfold PN at h
  refine t_R_greatest (fun _ => ⟨fun q1 => ⟨fun q2 => hq _ (fun _ => rfl) (fun _ => rfl) (fun z => by omega) (fun z => by omega), fun q2 => hq _ (fun z => by omega) (fun z => by omega) (fun z => by omega) (fun _ => rfl)⟩, fun q1 => hq _ (fun z => by omega) (fun z => by omega) (fun _ => rfl) (fun z => by omega)⟩)
end MKS
