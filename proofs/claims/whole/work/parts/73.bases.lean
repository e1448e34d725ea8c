/-! ===== BASES changed: what is told purely ===== -/
def aug (B : Int → Int → Int) (n i c : Int) : Int := if c < n then B i c else if c = n + i then 1 else 0
def AUG (p n : Int) (B : Int → Int → Int) : ES := lp (fun i E => ins p (2 * n) E (aug B n i)) 0 n E0
def CHG (p n : Int) (T : Int → Int) (B P : Int → Int → Int) : Int → Int → Int → Int := fun i j k => sR (fun l => br p n T (B i) (B j) l * P l k) 0 n
/-- P tells the old BASE by the new one -/
def INV (p n : Int) (B P : Int → Int → Int) : Prop := (∀ l k, 0 ≤ l → l < n → 0 ≤ k → k < n → 0 ≤ P l k ∧ P l k < p) ∧ ∀ l m, 0 ≤ l → l < n → 0 ≤ m → m < n → p ∣ sR (fun k => P l k * B k m) 0 n - (if l = m then 1 else 0)
def SNG (p n : Int) (B : Int → Int → Int) : Prop := ∃ y : Int → Int, (∀ i, 0 ≤ i → i < n → p ∣ sR (fun m => B i m * y m) 0 n) ∧ ∃ q, 0 ≤ q ∧ q < n ∧ ¬ p ∣ y q
theorem cd_lpins {p w : Int} {v : Int → Int → Int} (hp : PR p) (hw : 0 ≤ w) {n : Int} (hn : 0 ≤ n) : EW p w (lp (fun k E => ins p w E (v k)) 0 n E0) ∧ cd (lp (fun k E => ins p w E (v k)) 0 n E0).1 w ≤ n :=
  lp_ind (P := fun k E => EW p w E ∧ cd E.1 w ≤ k) ⟨EW0, by rw [cd0]; omega⟩ (fun k E k0 k1 hE => ⟨EW_ins hp hw hE.1, by
    rw [cd_ins hw hE.1]
    have := hE.2
    split <;> omega⟩) hn
theorem AUG_told {p n : Int} {B : Int → Int → Int} (hp : PR p) (hn : 0 ≤ n) : ∀ u, In p (2 * n) (AUG p n B) u → ∀ m, 0 ≤ m → m < n → p ∣ u m - sR (fun i => u (n + i) * B i m) 0 n := by
  unfold AUG
  refine (lp_ind (P := fun _ E => EW p (2 * n) E ∧ ∀ u, In p (2 * n) E u → ∀ m, 0 ≤ m → m < n → p ∣ u m - sR (fun i => u (n + i) * B i m) 0 n) ⟨EW0, fun u hu m m0 m1 => ?_⟩ (fun k E k0 k1 hE => ⟨EW_ins hp (by omega) hE.1, fun u hu m m0 m1 => ?_⟩) hn).2
  · have hz := In_E0.mp hu
    have h1 : p ∣ sR (fun i => u (n + i) * B i m) 0 n := sR_dvd (fun i i0 i1 => Int.dvd_mul_of_dvd_left (hz (n + i) (by omega) (by omega)))
    exact Int.dvd_sub (hz m m0 (by omega)) h1
  · obtain ⟨t, ht⟩ := (In_ins hp (by omega) hE.1).mp hu
    obtain ⟨q, hq⟩ := hE.2 _ ht m m0 m1
    have e1 : sR (fun i => (u (n + i) - t * aug B n k (n + i)) * B i m) 0 n = sR (fun i => u (n + i) * B i m) 0 n - t * B k m := by
      have e2 : sR (fun i => (u (n + i) - t * aug B n k (n + i)) * B i m) 0 n = sR (fun i => u (n + i) * B i m) 0 n - sR (fun i => if i = k then t * B i m else 0) 0 n := by
        rw [← sR_sub]
        apply sR_congr
        intro i i0 i1
        unfold aug
        rw [if_neg (by omega)]
        by_cases g : i = k
        · rw [if_pos (by omega), if_pos g]; grind
        · rw [if_neg (by omega), if_neg g]; grind
      rw [e2, sR_one (l := k) k0 k1 (fun j _ _ hj => if_neg hj), if_pos rfl]
    have e3 : aug B n k m = B k m := by unfold aug; rw [if_pos m1]
    change u m - t * aug B n k m - sR (fun i => (u (n + i) - t * aug B n k (n + i)) * B i m) 0 n = p * q at hq
    rw [e1, e3] at hq
    exact ⟨q, by omega⟩
theorem AUG_ok {p n : Int} {B P : Int → Int → Int} (hp : PR p) (hn : 0 ≤ n) (hI : INV p n B P) : (∀ l, 0 ≤ l → l < n → (AUG p n B).1 l = true) ∧ ∀ l k, 0 ≤ l → l < n → 0 ≤ k → k < n → (AUG p n B).2 l (n + k) = P l k := by
  have hp2 : 2 ≤ p := by unfold PR at hp; omega
  obtain ⟨hPb, hPI⟩ := hI
  obtain ⟨hEW, hcd⟩ := cd_lpins (v := aug B n) (w := 2 * n) hp (by omega) hn
  change EW p (2 * n) (AUG p n B) at hEW
  change cd (AUG p n B).1 (2 * n) ≤ n at hcd
  have hin : ∀ l, 0 ≤ l → l < n → In p (2 * n) (AUG p n B) (fun c => if c < n then (if l = c then 1 else 0) else P l (c - n)) := fun l l0 l1 => by
    have h1 : In p (2 * n) (AUG p n B) (fun c => sR (fun i => P l i * aug B n i c) 0 n) := In.sum (f := fun i c => P l i * aug B n i c) (fun i i0 i1 => (lpins_in (v := aug B n) hp (by omega) i0 i1).scl (P l i))
    refine h1.cg (fun c c0 c1 => ?_)
    show p ∣ sR (fun i => P l i * aug B n i c) 0 n - (if c < n then (if l = c then 1 else 0) else P l (c - n))
    by_cases g : c < n
    · rw [if_pos g, sR_congr (g := fun i => P l i * B i c) (fun i _ _ => by unfold aug; rw [if_pos g])]
      exact hPI l c l0 l1 c0 g
    · rw [if_neg g, sR_one (l := c - n) (by omega) (by omega) (fun i _ _ hi => by unfold aug; rw [if_neg g, if_neg (by omega)]; simp)]
      unfold aug
      rw [if_neg g, if_pos (by omega), Int.mul_one, Int.sub_self]
      exact Int.dvd_zero p
  have hl : ∀ l, 0 ≤ l → l < n → (AUG p n B).1 l = true := fun l l0 l1 => by
    refine In_lead hEW (hin l l0 l1) l0 (by omega) (fun c c0 c1 => ?_) ?_
    · show p ∣ (if c < n then (if l = c then (1 : Int) else 0) else P l (c - n))
      rw [if_pos (by omega), if_neg (by omega)]; exact Int.dvd_zero p
    · show ¬ p ∣ (if l < n then (if l = l then (1 : Int) else 0) else P l (l - n))
      rw [if_pos l1, if_pos rfl]
      intro z
      have := dvd_small (by omega) (by omega) z
      omega
  have hcn : cd (AUG p n B).1 n = n := (cd_cg (ℓ := (AUG p n B).1) (ℓ' := EU.1) (fun l l0 l1 => by rw [hl l l0 l1]; rfl)).trans (cdU hn)
  have hno : ∀ k, n ≤ k → k < 2 * n → (AUG p n B).1 k = false := fun k k0 k1 => cd_flat hn (show n ≤ 2 * n by omega) (by have := cd_mono (ℓ := (AUG p n B).1) hn (show n ≤ 2 * n by omega); omega) k k0 k1
  refine ⟨hl, fun l k l0 l1 k0 k1 => ?_⟩
  have h2 := hin l l0 l1 (n + k) (by omega) (by omega)
  rw [sR_one (l := l) l0 (by omega) (fun q q0 q1 hq => by
    by_cases g : q < n
    · rw [if_pos (hl q q0 g)]
      show (if q < n then (if l = q then (1 : Int) else 0) else _) * _ = 0
      rw [if_pos g, if_neg (fun e => hq e.symm)]; simp
    · rw [if_neg (by rw [hno q (by omega) q1]; simp)]), if_pos (hl l l0 l1)] at h2
  change p ∣ (if n + k < n then (if l = n + k then (1 : Int) else 0) else P l (n + k - n)) - (if l < n then (if l = l then (1 : Int) else 0) else P l (l - n)) * (AUG p n B).2 l (n + k) at h2
  rw [if_neg (show ¬ n + k < n by omega), if_pos l1, if_pos rfl, Int.one_mul, show n + k - n = k by omega] at h2
  have b1 := hPb l k l0 l1 k0 k1
  have b2 := (hEW l l0 (by omega) (hl l l0 l1)).1 (n + k) (by omega) (by omega)
  obtain ⟨q, hq⟩ := h2
  have : q = 0 := by
    rcases Int.lt_trichotomy q 0 with g | g | g
    · have : p * q ≤ p * (-1) := Int.mul_le_mul_of_nonneg_left (by omega) (by omega)
      omega
    · exact g
    · have : p * 1 ≤ p * q := Int.mul_le_mul_of_nonneg_left (by omega) (by omega)
      omega
  rw [this] at hq
  omega
theorem AUG_no {p n : Int} {B : Int → Int → Int} (hp : PR p) (hn : 0 ≤ n) (hS : SNG p n B) : ¬ ∀ l, 0 ≤ l → l < n → (AUG p n B).1 l = true := by
  have hp2 : 2 ≤ p := by unfold PR at hp; omega
  obtain ⟨y, hy, q, q0, q1, hq⟩ := hS
  intro hl
  obtain ⟨hEW, hcd⟩ := cd_lpins (v := aug B n) (w := 2 * n) hp (by omega) hn
  change EW p (2 * n) (AUG p n B) at hEW
  obtain ⟨e1, e2, e3, e4⟩ := hEW q q0 (by omega) (hl q q0 q1)
  have hA := AUG_told (B := B) hp hn _ (In_row hEW q0 (by omega) (hl q q0 q1))
  have hd : ∀ m, 0 ≤ m → m < n → (AUG p n B).2 q m = if m = q then 1 else 0 := fun m m0 m1 => by
    by_cases g : m = q
    · rw [if_pos g, g]; exact e2
    · rw [if_neg g]; exact e4 m m0 (by omega) (hl m m0 m1) g
  apply hq
  -- y q is a sum of what is 0
  have h1 : p ∣ sR (fun m => ((AUG p n B).2 q m - sR (fun i => (AUG p n B).2 q (n + i) * B i m) 0 n) * y m) 0 n := sR_dvd (fun m m0 m1 => Int.dvd_mul_of_dvd_left (hA m m0 m1))
  have h2 : sR (fun m => ((AUG p n B).2 q m - sR (fun i => (AUG p n B).2 q (n + i) * B i m) 0 n) * y m) 0 n = y q - sR (fun i => (AUG p n B).2 q (n + i) * sR (fun m => B i m * y m) 0 n) 0 n := by
    have h3 : sR (fun m => ((AUG p n B).2 q m - sR (fun i => (AUG p n B).2 q (n + i) * B i m) 0 n) * y m) 0 n = sR (fun m => (AUG p n B).2 q m * y m) 0 n - sR (fun m => sR (fun i => (AUG p n B).2 q (n + i) * (B i m * y m)) 0 n) 0 n := by
      rw [← sR_sub]
      apply sR_congr
      intro m _ _
      rw [Int.sub_mul, Int.mul_comm (sR _ 0 n), ← sR_mul]
      congr 1
      apply sR_congr
      intro i _ _
      grind
    rw [h3, sR_one (l := q) q0 q1 (fun m m0 m1 hm => by rw [hd m m0 m1, if_neg hm]; simp), hd q q0 q1, if_pos rfl, Int.one_mul, sR_swap]
    congr 1
    apply sR_congr
    intro i _ _
    rw [sR_mul]
  rw [h2] at h1
  have h4 : p ∣ sR (fun i => (AUG p n B).2 q (n + i) * sR (fun m => B i m * y m) 0 n) 0 n := sR_dvd (fun i i0 i1 => Int.dvd_mul_of_dvd_right (hy i i0 i1))
  have := Int.dvd_add h1 h4
  rwa [Int.sub_add_cancel] at this
theorem tb_and {m k l : Int} (m0 : 0 ≤ m) (m1 : m < 2147483648) (k0 : 0 ≤ k) : tb (and32 m k) l = (tb m l && tb k l) := by
  obtain ⟨m, rfl⟩ := nat_of m0
  obtain ⟨k, rfl⟩ := nat_of k0
  rw [and32_n (by omega)]
  unfold tb
  simp only [Int.toNat_natCast, Nat.testBit_and]
theorem low_full {m n : Int} (m0 : 0 ≤ m) (m1 : m < 1024) (n0 : 0 ≤ n) (hn : n ≤ 5) : (and32 m (w32 ((shl32 1 n) - 1)) = w32 ((shl32 1 n) - 1)) ↔ ∀ l, 0 ≤ l → l < n → tb m l = true := by
  have hp5 := pw5 n0 hn
  rw [shl1 n0 (by omega), w32_id (by omega) (by omega)]
  have hb : ∀ l, 0 ≤ l → tb (and32 m (2 ^ n.toNat - 1)) l = (tb m l && decide (l < n)) := fun l l0 => by rw [tb_and m0 (by omega) (by omega), ones_bit n0 (by omega) l0]
  have hle : 0 ≤ and32 m (2 ^ n.toNat - 1) ∧ and32 m (2 ^ n.toNat - 1) < 2 ^ 10 := by
    obtain ⟨a, rfl⟩ := nat_of m0
    obtain ⟨b, hb'⟩ := nat_of (show 0 ≤ (2 : Int) ^ n.toNat - 1 by omega)
    rw [hb', and32_n (by omega)]
    have := Nat.and_le_left (n := a) (m := b)
    omega
  constructor
  · intro h l l0 l1
    have := hb l l0
    rw [h, ones_bit n0 (by omega) l0] at this
    simp [l1] at this
    exact this
  · intro h
    refine tb_ext (w := 10) hle.1 hle.2 (by omega) (by omega) (fun l l0 l1 => ?_)
    rw [hb l l0, ones_bit n0 (by omega) l0]
    by_cases g : l < n
    · rw [h l l0 g]; simp
    · simp [g]
