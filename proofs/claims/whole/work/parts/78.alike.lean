/-! ===== worlds that are alike: by MAPS, by BASES ===== -/
theorem AUG_ew {p n : Int} {B : Int → Int → Int} (hp : PR p) (hn : 0 ≤ n) : EW p (2 * n) (AUG p n B) := (cd_lpins (v := aug B n) (w := 2 * n) hp (by omega) hn).1
theorem AUG_hi {p n : Int} {B : Int → Int → Int} (hp : PR p) (hn : 0 ≤ n) (h : BOK p n B) {k : Int} (k0 : n ≤ k) (k1 : k < 2 * n) : (AUG p n B).1 k = false := by
  have hcd : cd (AUG p n B).1 (2 * n) ≤ n := (cd_lpins (v := aug B n) (w := 2 * n) hp (by omega) hn).2
  have hcn : cd (AUG p n B).1 n = n := (cd_cg (ℓ := (AUG p n B).1) (ℓ' := EU.1) (fun l l0 l1 => by rw [h l l0 l1]; rfl)).trans (cdU hn)
  exact cd_flat hn (show n ≤ 2 * n by omega) (by have := cd_mono (ℓ := (AUG p n B).1) hn (show n ≤ 2 * n by omega); omega) k k0 k1
theorem AUG_bp {p n : Int} {B : Int → Int → Int} (hp : PR p) (hn : 0 ≤ n) (h : BOK p n B) {k c : Int} (k0 : 0 ≤ k) (k1 : k < n) (c0 : 0 ≤ c) (c1 : c < n) : p ∣ (if k = c then 1 else 0) - sR (fun l => B k l * (AUG p n B).2 l (n + c)) 0 n := by
  have h1 : In p (2 * n) (AUG p n B) (aug B n k) := lpins_in (v := aug B n) hp (by omega) k0 k1
  have h2 := h1 (n + c) (by omega) (by omega)
  rw [sR_split (mid := n) hn (by omega), sR_zero' (lo := n) (fun l l0 l1 => by rw [if_neg (by rw [AUG_hi hp hn h l0 l1]; simp)]), Int.add_zero, sR_congr (g := fun l => B k l * (AUG p n B).2 l (n + c)) (fun l l0 l1 => by
    rw [if_pos (h l l0 l1)]
    unfold aug
    rw [if_pos l1])] at h2
  have e : aug B n k (n + c) = if k = c then 1 else 0 := by
    unfold aug
    rw [if_neg (by omega)]
    by_cases g : k = c
    · rw [if_pos g, if_pos (by omega)]
    · rw [if_neg g, if_neg (by omega)]
  rw [e] at h2
  exact h2
theorem AUG_pb {p n : Int} {B : Int → Int → Int} (hp : PR p) (hn : 0 ≤ n) (h : BOK p n B) {l m : Int} (l0 : 0 ≤ l) (l1 : l < n) (m0 : 0 ≤ m) (m1 : m < n) : p ∣ (if l = m then 1 else 0) - sR (fun i => (AUG p n B).2 l (n + i) * B i m) 0 n := by
  have hEW := AUG_ew (B := B) hp hn
  obtain ⟨e1, e2, e3, e4⟩ := hEW l l0 (by omega) (h l l0 l1)
  have h1 := AUG_told (B := B) hp hn _ (In_row hEW l0 (by omega) (h l l0 l1)) m m0 m1
  have e : (AUG p n B).2 l m = if l = m then 1 else 0 := by
    by_cases g : l = m
    · rw [if_pos g, ← g]; exact e2
    · rw [if_neg g]; exact e4 m m0 (by omega) (h m m0 m1) (fun z => g z.symm)
  rw [e] at h1
  exact h1
theorem AUG_bd {p n : Int} {B : Int → Int → Int} (hp : PR p) (hn : 0 ≤ n) (h : BOK p n B) {l k : Int} (l0 : 0 ≤ l) (l1 : l < n) (k0 : 0 ≤ k) (k1 : k < n) : 0 ≤ (AUG p n B).2 l (n + k) ∧ (AUG p n B).2 l (n + k) < p := (AUG_ew hp hn l l0 (by omega) (h l l0 l1)).1 (n + k) (by omega) (by omega)
def Bbd (p n : Int) (B : Int → Int → Int) : Prop := ∀ i c, 0 ≤ i → i < n → 0 ≤ c → c < n → 0 ≤ B i c ∧ B i c < p
/-- T1 is T2 told by some base -/
def SEE (p n : Int) (T1 T2 : Int → Int) : Prop := ∃ B, Bbd p n B ∧ BOK p n B ∧ ∀ t, 0 ≤ t → t < 125 → T1 t = MK p n (BCH p n T2 B) t
def HOM (p n : Int) (T1 T2 : Int → Int) (B : Int → Int → Int) : Prop := ∀ i j m, 0 ≤ i → i < j → j < n → 0 ≤ m → m < n → p ∣ br p n T2 (B i) (B j) m - sR (fun k => T1 (25 * i + 5 * j + k) * B k m) 0 n
theorem HOM_see {p n : Int} {T1 T2 : Int → Int} {B : Int → Int → Int} (hT : TW p n T1) (hok : BOK p n B) (h : HOM p n T1 T2 B) {t : Int} (t0 : 0 ≤ t) (t1 : t < 125) : T1 t = MK p n (BCH p n T2 B) t := by
  obtain ⟨b1, b2, b3, b4⟩ := hT.1.b
  rw [← MK_self hT (Int.le_refl n) t0 t1]
  have e : ∀ i j k, 0 ≤ i → i < j → j < n → 0 ≤ k → k < n → BCH p n T2 B i j k % p = T1 (25 * i + 5 * j + k) := fun i j k i0 ij jn k0 kn => by
    have hb := hT.2.1 (25 * i + 5 * j + k) (by omega) (by omega)
    have h1 : p ∣ BCH p n T2 B i j k - T1 (25 * i + 5 * j + k) := by
      have e1 : BCH p n T2 B i j k = sR (fun l => (br p n T2 (B i) (B j) l - sR (fun q => T1 (25 * i + 5 * j + q) * B q l) 0 n) * (AUG p n B).2 l (n + k)) 0 n + sR (fun q => T1 (25 * i + 5 * j + q) * sR (fun l => B q l * (AUG p n B).2 l (n + k)) 0 n) 0 n := by
        have e2 : sR (fun q => T1 (25 * i + 5 * j + q) * sR (fun l => B q l * (AUG p n B).2 l (n + k)) 0 n) 0 n = sR (fun l => sR (fun q => T1 (25 * i + 5 * j + q) * (B q l * (AUG p n B).2 l (n + k))) 0 n) 0 n := by
          rw [sR_swap]
          apply sR_congr
          intro q _ _
          rw [sR_mul]
        rw [e2, ← sR_add]
        show sR (fun l => br p n T2 (B i) (B j) l * (AUG p n B).2 l (n + k)) 0 n = _
        apply sR_congr
        intro l _ _
        have e3 : sR (fun q => T1 (25 * i + 5 * j + q) * (B q l * (AUG p n B).2 l (n + k))) 0 n = sR (fun q => T1 (25 * i + 5 * j + q) * B q l) 0 n * (AUG p n B).2 l (n + k) := by
          rw [Int.mul_comm (sR _ 0 n), ← sR_mul]
          apply sR_congr
          intro q _ _
          grind
        rw [e3]
        grind
      have h2 : p ∣ sR (fun l => (br p n T2 (B i) (B j) l - sR (fun q => T1 (25 * i + 5 * j + q) * B q l) 0 n) * (AUG p n B).2 l (n + k)) 0 n := sR_dvd (fun l l0 l1 => Int.dvd_mul_of_dvd_left (h i j l i0 ij jn l0 l1))
      have h3 : p ∣ sR (fun q => T1 (25 * i + 5 * j + q) * ((if q = k then 1 else 0) - sR (fun l => B q l * (AUG p n B).2 l (n + k)) 0 n)) 0 n := sR_dvd (fun q q0 q1 => Int.dvd_mul_of_dvd_right (AUG_bp hT.1.pr (by omega) hok q0 q1 k0 kn))
      have e4 : sR (fun q => T1 (25 * i + 5 * j + q) * ((if q = k then 1 else 0) - sR (fun l => B q l * (AUG p n B).2 l (n + k)) 0 n)) 0 n = T1 (25 * i + 5 * j + k) - sR (fun q => T1 (25 * i + 5 * j + q) * sR (fun l => B q l * (AUG p n B).2 l (n + k)) 0 n) 0 n := by
        have e5 : sR (fun q => T1 (25 * i + 5 * j + q) * (if q = k then 1 else 0)) 0 n = T1 (25 * i + 5 * j + k) := by
          rw [sR_one (l := k) k0 kn (fun q _ _ hq => by rw [if_neg hq]; simp), if_pos rfl, Int.mul_one]
        rw [← e5, ← sR_sub]
        apply sR_congr
        intro q _ _
        rw [Int.mul_sub]
      rw [e4] at h3
      rw [e1]
      obtain ⟨x, hx⟩ := h2
      obtain ⟨y, hy⟩ := h3
      exact ⟨x - y, by rw [Int.mul_sub]; omega⟩
    obtain ⟨q, hq⟩ := h1
    rw [show BCH p n T2 B i j k = T1 (25 * i + 5 * j + k) + p * q by omega, Int.add_mul_emod_self_left, Int.emod_eq_of_lt hb.1 hb.2]
  obtain ⟨i, j, k, i0, i1, j0, j1, k0, k1, rfl⟩ := t_ijk t0 t1
  rw [MK_at i0 i1 j0 j1 k0 k1, MK_at i0 i1 j0 j1 k0 k1]
  by_cases g : i < j ∧ j < n ∧ k < n
  · rw [if_pos g, if_pos g, e i j k i0 g.1 g.2.1 k0 g.2.2]
    have hb := hT.2.1 (25 * i + 5 * j + k) (by omega) (by omega)
    exact Int.emod_eq_of_lt hb.1 hb.2
  · rw [if_neg g, if_neg g]
    by_cases g2 : j < i ∧ i < n ∧ k < n
    · rw [if_pos g2, if_pos g2, ← neg_emod2 (x := BCH p n T2 B j i k), e j i k j0 g2.1 g2.2.1 k0 g2.2.2]
    · rw [if_neg g2, if_neg g2]
theorem see_HOM {p n : Int} {T1 T2 : Int → Int} {B : Int → Int → Int} (hpn : PN p n) (hok : BOK p n B) (h : ∀ t, 0 ≤ t → t < 125 → T1 t = MK p n (BCH p n T2 B) t) : HOM p n T1 T2 B := by
  obtain ⟨b1, b2, b3, b4⟩ := hpn.b
  intro i j m i0 ij jn m0 m1
  have e1 : ∀ k, 0 ≤ k → k < n → p ∣ T1 (25 * i + 5 * j + k) - BCH p n T2 B i j k := fun k k0 k1 => by
    rw [h _ (by omega) (by omega), MK_at i0 (by omega) (by omega) (by omega) k0 (by omega), if_pos ⟨ij, jn, k1⟩]
    exact emod_dvd
  have h1 : p ∣ sR (fun k => (T1 (25 * i + 5 * j + k) - BCH p n T2 B i j k) * B k m) 0 n := sR_dvd (fun k k0 k1 => Int.dvd_mul_of_dvd_left (e1 k k0 k1))
  have h2 : p ∣ sR (fun l => br p n T2 (B i) (B j) l * ((if l = m then 1 else 0) - sR (fun k => (AUG p n B).2 l (n + k) * B k m) 0 n)) 0 n := sR_dvd (fun l l0 l1 => Int.dvd_mul_of_dvd_right (AUG_pb hpn.pr (by omega) hok l0 l1 m0 m1))
  have e2 : sR (fun k => (T1 (25 * i + 5 * j + k) - BCH p n T2 B i j k) * B k m) 0 n = sR (fun k => T1 (25 * i + 5 * j + k) * B k m) 0 n - sR (fun l => br p n T2 (B i) (B j) l * sR (fun k => (AUG p n B).2 l (n + k) * B k m) 0 n) 0 n := by
    have e3 : sR (fun l => br p n T2 (B i) (B j) l * sR (fun k => (AUG p n B).2 l (n + k) * B k m) 0 n) 0 n = sR (fun k => BCH p n T2 B i j k * B k m) 0 n := by
      have e4 : sR (fun l => br p n T2 (B i) (B j) l * sR (fun k => (AUG p n B).2 l (n + k) * B k m) 0 n) 0 n = sR (fun l => sR (fun k => br p n T2 (B i) (B j) l * ((AUG p n B).2 l (n + k) * B k m)) 0 n) 0 n := sR_congr (fun l _ _ => by rw [sR_mul])
      rw [e4, sR_swap]
      apply sR_congr
      intro k _ _
      show _ = sR (fun l => br p n T2 (B i) (B j) l * (AUG p n B).2 l (n + k)) 0 n * B k m
      rw [Int.mul_comm (sR _ 0 n), ← sR_mul]
      apply sR_congr
      intro l _ _
      grind
    rw [e3, ← sR_sub]
    apply sR_congr
    intro k _ _
    grind
  have e5 : sR (fun l => br p n T2 (B i) (B j) l * ((if l = m then 1 else 0) - sR (fun k => (AUG p n B).2 l (n + k) * B k m) 0 n)) 0 n = br p n T2 (B i) (B j) m - sR (fun l => br p n T2 (B i) (B j) l * sR (fun k => (AUG p n B).2 l (n + k) * B k m) 0 n) 0 n := by
    have e6 : sR (fun l => br p n T2 (B i) (B j) l * (if l = m then 1 else 0)) 0 n = br p n T2 (B i) (B j) m := by
      rw [sR_one (l := m) m0 m1 (fun q _ _ hq => by rw [if_neg hq]; simp), if_pos rfl, Int.mul_one]
    rw [← e6, ← sR_sub]
    apply sR_congr
    intro q _ _
    rw [Int.mul_sub]
  rw [e2] at h1
  rw [e5] at h2
  obtain ⟨x, hx⟩ := h1
  obtain ⟨y, hy⟩ := h2
  exact ⟨y - x, by rw [Int.mul_sub]; omega⟩
/-- what vanishes on the vectors that span vanishes on all -/
theorem lpins_van {p n : Int} {v : Int → Int → Int} {y : Int → Int} (hp : PR p) (hn : 0 ≤ n) {l : Int} (l0 : 0 ≤ l) (h : ∀ k, 0 ≤ k → k < l → p ∣ sR (fun m => v k m * y m) 0 n) : ∀ u, In p n (lp (fun k E => ins p n E (v k)) 0 l E0) u → p ∣ sR (fun m => u m * y m) 0 n := by
  refine (lp_ind (P := fun _ E => EW p n E ∧ ∀ u, In p n E u → p ∣ sR (fun m => u m * y m) 0 n) ⟨EW0, fun u hu => ?_⟩ (fun k E k0 k1 hE => ⟨EW_ins hp hn hE.1, fun u hu => ?_⟩) l0).2
  · exact sR_dvd (fun m m0 m1 => Int.dvd_mul_of_dvd_left (In_E0.mp hu m m0 m1))
  · obtain ⟨t, ht⟩ := (In_ins hp hn hE.1).mp hu
    have h1 := hE.2 _ ht
    have e : sR (fun m => (u m - t * v k m) * y m) 0 n = sR (fun m => u m * y m) 0 n - t * sR (fun m => v k m * y m) 0 n := by
      rw [← sR_mul, ← sR_sub]
      apply sR_congr
      intro m _ _
      grind
    rw [e] at h1
    have h2 : p ∣ t * sR (fun m => v k m * y m) 0 n := Int.dvd_mul_of_dvd_right (h k k0 k1)
    have := Int.dvd_add h1 h2
    rwa [Int.sub_add_cancel] at this
/-- what is spanned stands in what is spanned of the rows with their names -/
theorem lpins_lift {p n : Int} {B : Int → Int → Int} (hp : PR p) (hn : 0 ≤ n) {l : Int} (l0 : 0 ≤ l) : ∀ u, In p n (lp (fun k E => ins p n E (B k)) 0 l E0) u → ∃ w, In p (2 * n) (lp (fun k E => ins p (2 * n) E (aug B n k)) 0 l E0) w ∧ ∀ m, 0 ≤ m → m < n → p ∣ w m - u m := by
  refine up_ind (P := fun l => ∀ u, In p n (lp (fun k E => ins p n E (B k)) 0 l E0) u → ∃ w, In p (2 * n) (lp (fun k E => ins p (2 * n) E (aug B n k)) 0 l E0) w ∧ ∀ m, 0 ≤ m → m < n → p ∣ w m - u m) ?_ ?_ l l0
  · intro u hu
    rw [lp_nil (by omega)] at hu
    refine ⟨fun _ => 0, In_zero (fun c _ _ => Int.dvd_zero p), fun m m0 m1 => ?_⟩
    obtain ⟨q, hq⟩ := In_E0.mp hu m m0 m1
    show p ∣ 0 - u m
    exact ⟨-q, by rw [Int.mul_neg]; omega⟩
  · intro k k0 ih u hu
    rw [lp_succ k0] at hu ⊢
    have hE1 := (cd_lpins (v := B) (w := n) hp hn k0).1
    have hE2 := (cd_lpins (v := aug B n) (w := 2 * n) hp (by omega) k0).1
    obtain ⟨t, ht⟩ := (In_ins hp hn hE1).mp hu
    obtain ⟨w, hw, hwm⟩ := ih _ ht
    refine ⟨fun c => w c + t * aug B n k c, (In_ins hp (by omega) hE2).mpr ⟨t, hw.cg (fun c _ _ => ?_)⟩, fun m m0 m1 => ?_⟩
    · rw [show w c - (w c + t * aug B n k c - t * aug B n k c) = 0 by omega]; exact Int.dvd_zero p
    · have e : aug B n k m = B k m := by unfold aug; rw [if_pos m1]
      have := hwm m m0 m1
      simp only at this ⊢
      rw [e]
      rw [show w m + t * B k m - u m = w m - (u m - t * B k m) by omega]
      exact this
theorem BOK_full {p n : Int} {B : Int → Int → Int} (hp : PR p) (hn : 0 ≤ n) (h : ∀ l, 0 ≤ l → l < n → In p n (lp (fun k E => ins p n E (B k)) 0 n E0) (EU.2 l)) : BOK p n B := by
  have hp2 : 2 ≤ p := by unfold PR at hp; omega
  intro l l0 l1
  obtain ⟨w, hw, hwm⟩ := lpins_lift (B := B) hp hn hn _ (h l l0 l1)
  refine In_lead (AUG_ew hp hn) hw l0 (by omega) (fun c c0 c1 => ?_) (fun z => ?_)
  · have := hwm c c0 (by omega)
    rw [EUv, if_neg (by omega), Int.sub_zero] at this; exact this
  · have h2 := hwm l l0 l1
    rw [EUv, if_pos rfl] at h2
    have h3 := Int.dvd_sub z h2
    rw [show w l - (w l - 1) = 1 by omega] at h3
    have := dvd_small (by omega) (by omega) h3
    omega
