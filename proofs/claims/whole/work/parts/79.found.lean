/-! ===== what the search finds ===== -/
def MAP (p n : Int) (T1 T2 : Int → Int) : Prop := ∃ xs : Int → Int, ∀ l, 0 ≤ l → l < n → 1 ≤ xs l ∧ xs l < p ^ n.toNat ∧ FIT p n T1 T2 l xs
theorem MAP_see {p n : Int} {T1 T2 : Int → Int} (hT1 : TW p n T1) : MAP p n T1 T2 ↔ SEE p n T1 T2 := by
  obtain ⟨b1, b2, b3, b4⟩ := hT1.1.b
  have hp : PR p := hT1.1.pr
  constructor
  · rintro ⟨xs, hx⟩
    have hsp : ∀ l, 0 ≤ l → l ≤ n → EW p n (SPN p n xs l) ∧ cd (SPN p n xs l).1 n = l := fun l l0 => by
      refine up_ind (P := fun l => l ≤ n → EW p n (SPN p n xs l) ∧ cd (SPN p n xs l).1 n = l) ?_ ?_ l l0
      · intro _
        unfold SPN
        rw [lp_nil (by omega)]
        exact ⟨EW0, cd0⟩
      · intro k k0 ih k1
        obtain ⟨i1, i2⟩ := ih (by omega)
        have e : SPN p n xs (k + 1) = ins p n (SPN p n xs k) (dg p (xs k)) := by unfold SPN; rw [lp_succ k0]
        rw [e]
        refine ⟨EW_ins hp (by omega) i1, ?_⟩
        rw [cd_ins (by omega) i1, i2]
        have hno := (hx k k0 (by omega)).2.2.1
        have h1 : ¬ ild p n (SPN p n xs k) (dg p (xs k)) = n := fun z => hno ((In_ild (by omega)).mpr z)
        have h2 : ild p n (SPN p n xs k) (dg p (xs k)) ≤ n := (ldw_s (by omega) _).2.1
        rw [if_pos (by omega)]
    have hfull : ∀ u, In p n (SPN p n xs n) u := by
      obtain ⟨i1, i2⟩ := hsp n (by omega) (Int.le_refl _)
      have := ES_full (E := SPN p n xs n) (E' := EU) b1 i1 (EWU b1) (fun u _ => In_EU) (by rw [i2, cdU (by omega)]; omega)
      exact fun u => this.symm.inn In_EU
    have hok : BOK p n (fun i => dg p (xs i)) := BOK_full hp (by omega) (fun l _ _ => hfull _)
    refine ⟨fun i => dg p (xs i), fun i c _ _ _ _ => dg_in b1, hok, fun t t0 t1 => HOM_see hT1 hok (fun i j m i0 ij jn m0 m1 => ?_) t0 t1⟩
    have h1 := (hx (n - 1) (by omega) (by omega)).2.2.2 i j i0 ij (by omega) (fun k k0 k1 => by omega) m m0 m1
    rw [show n - 1 + 1 = n by omega] at h1
    show p ∣ br p n T2 (dg p (xs i)) (dg p (xs j)) m - sR (fun k => T1 (25 * i + 5 * j + k) * dg p (xs k) m) 0 n
    rw [h1]
    exact emod_dvd
  · rintro ⟨B, hB, hok, hT⟩
    have hH := see_HOM hT1.1 hok hT
    have hdg : ∀ i c, 0 ≤ i → i < n → 0 ≤ c → c < n → dg p (pk p (fun c => B i c % p) n) c = B i c := fun i c i0 i1 c0 c1 => by
      rw [pk_dg b1 (fun j => ⟨Int.emod_nonneg _ (by omega), Int.emod_lt_of_pos _ (by omega)⟩) n (by omega) c c0 c1]
      have := hB i c i0 i1 c0 c1
      exact Int.emod_eq_of_lt this.1 this.2
    have hpb : ∀ i, 0 ≤ pk p (fun c => B i c % p) n ∧ pk p (fun c => B i c % p) n < p ^ n.toNat := fun i => pk_b b1 (fun j => ⟨Int.emod_nonneg _ (by omega), Int.emod_lt_of_pos _ (by omega)⟩) n (by omega)
    have hy : ∀ k l, 0 ≤ k → k < n → 0 ≤ l → l < n → p ∣ (if k = l then 1 else 0) - sR (fun m => dg p (pk p (fun c => B k c % p) n) m * (AUG p n B).2 m (n + l)) 0 n := fun k l k0 k1 l0 l1 => by
      rw [sR_congr (g := fun m => B k m * (AUG p n B).2 m (n + l)) (fun m m0 m1 => by rw [hdg k m k0 k1 m0 m1])]
      exact AUG_bp hp (by omega) hok k0 k1 l0 l1
    have hone : ∀ l, 0 ≤ l → l < n → ¬ p ∣ sR (fun m => dg p (pk p (fun c => B l c % p) n) m * (AUG p n B).2 m (n + l)) 0 n := fun l l0 l1 z => by
      have h1 := hy l l l0 l1 l0 l1
      rw [if_pos rfl] at h1
      have h2 := Int.dvd_add h1 z
      rw [Int.sub_add_cancel] at h2
      have := dvd_small (by omega) (by omega) h2
      omega
    refine ⟨fun i => pk p (fun c => B i c % p) n, fun l l0 l1 => ⟨?_, (hpb l).2, fun hin => ?_, fun i j i0 ij jl hdu => ?_⟩⟩
    · have := (hpb l).1
      rcases Int.lt_or_le 0 (pk p (fun c => B l c % p) n) with g | g
      · exact g
      · exfalso
        apply hone l l0 l1
        rw [show pk p (fun c => B l c % p) n = 0 by omega]
        exact sR_dvd (fun m _ _ => by rw [dg_z, Int.zero_mul]; exact Int.dvd_zero p)
    · refine hone l l0 l1 (lpins_van (v := fun k => dg p (pk p (fun c => B k c % p) n)) hp (by omega) l0 (fun k k0 k1 => ?_) _ hin)
      have h1 := hy k l k0 (by omega) l0 l1
      rw [if_neg (by omega)] at h1
      obtain ⟨q, hq⟩ := h1
      exact ⟨-q, by rw [Int.mul_neg]; omega⟩
    · refine (AG_more hdu l0 (show l ≤ n - 1 by omega) (by omega)).mpr (fun m m0 m1 => ?_)
      rw [show n - 1 + 1 = n by omega]
      have h1 := hH i j m i0 ij (by omega) m0 m1
      have e1 : br p n T2 (dg p (pk p (fun c => B i c % p) n)) (dg p (pk p (fun c => B j c % p) n)) m = br p n T2 (B i) (B j) m := br_cg (fun c c0 c1 => hdg i c i0 (by omega) c0 c1) (fun c c0 c1 => hdg j c (by omega) (by omega) c0 c1)
      have e2 : sR (fun k => T1 (25 * i + 5 * j + k) * dg p (pk p (fun c => B k c % p) n) m) 0 n = sR (fun k => T1 (25 * i + 5 * j + k) * B k m) 0 n := sR_congr (fun k k0 k1 => by rw [hdg k m k0 k1 m0 m1])
      rw [e1, e2]
      have hb : 0 ≤ br p n T2 (B i) (B j) m ∧ br p n T2 (B i) (B j) m < p := ⟨Int.emod_nonneg _ (by omega), Int.emod_lt_of_pos _ (by omega)⟩
      obtain ⟨q, hq⟩ := h1
      rw [← Int.emod_eq_of_lt hb.1 hb.2]
      exact emod_cg (q := q) (by omega)
/-! what the search counts, where its tries suffice -/
def gTr (N : Int) : Nat → Int
  | 0 => 0
  | k + 1 => (N - 1) * (1 + gTr N k)
def EXT (F : Int → (Int → Int) → Prop) (n N : Int) (k : Nat) (xs : Int → Int) : Prop := ∃ ys : Int → Int, (∀ i, i < n - k → ys i = xs i) ∧ ∀ l, n - k ≤ l → l < n → 1 ≤ ys l ∧ ys l < N ∧ F l ys
theorem lcF_found {F : Int → (Int → Int) → Prop} {f : (Int → Int) → MS → MS} {l g : Int} {xs : Int → Int} (g0 : 0 ≤ g) (Gd : (Int → Int) → Prop) (hf : ∀ ys (s : MS), s.2.1 = 0 → s.2.2 = false → s.1 + g < 200000 → (f ys s).2.2 = false ∧ s.1 ≤ (f ys s).1 ∧ (f ys s).1 ≤ s.1 + g ∧ 0 ≤ (f ys s).2.1 ∧ (0 < (f ys s).2.1 ↔ Gd ys)) :
    ∀ (c : Nat) (x : Int) (s : MS), s.2.1 = 0 → s.2.2 = false → s.1 + c * (1 + g) < 200000 → (lcF F true f l xs c x s).2.2 = false ∧ s.1 ≤ (lcF F true f l xs c x s).1 ∧ (lcF F true f l xs c x s).1 ≤ s.1 + c * (1 + g) ∧ 0 ≤ (lcF F true f l xs c x s).2.1 ∧ (0 < (lcF F true f l xs c x s).2.1 ↔ ∃ y, x ≤ y ∧ y < x + c ∧ F l (upx xs l y) ∧ Gd (upx xs l y))
  | 0, x, s, h1, h2, h3 => by
    show s.2.2 = false ∧ s.1 ≤ s.1 ∧ s.1 ≤ s.1 + ((0 : Nat) : Int) * (1 + g) ∧ 0 ≤ s.2.1 ∧ (0 < s.2.1 ↔ _)
    refine ⟨h2, by omega, by simp, by omega, ⟨fun q => by omega, fun ⟨y, a, b, _⟩ => by omega⟩⟩
  | c + 1, x, s, h1, h2, h3 => by
    have e : ((c + 1 : Nat) : Int) * (1 + g) = (c : Int) * (1 + g) + (1 + g) := by push_cast; grind
    have c0 : 0 ≤ (c : Int) * (1 + g) := Int.mul_nonneg (by omega) (by omega)
    rw [e] at h3 ⊢
    have hst : stp true s = false := by unfold stp; rw [h2, h1]; rfl
    by_cases hF : F l (upx xs l x)
    · rw [lcF_yes hst (by omega) hF]
      obtain ⟨r1, r2, r3, r4, r5⟩ := hf (upx xs l x) (s.1 + 1, s.2) h1 h2 (show s.1 + 1 + g < 200000 by omega)
      generalize hs' : f (upx xs l x) (s.1 + 1, s.2) = s' at *
      simp only at r2 r3
      by_cases hp : 0 < s'.2.1
      · rw [lcF_stop (by unfold stp; simp [hp])]
        exact ⟨r1, by omega, by omega, r4, ⟨fun _ => ⟨x, by omega, by omega, hF, r5.mp hp⟩, fun _ => hp⟩⟩
      · obtain ⟨q1, q2, q3, q4, q5⟩ := lcF_found (xs := xs) (l := l) (F := F) g0 Gd hf c (x + 1) s' (by omega) r1 (by omega)
        refine ⟨q1, by omega, by omega, q4, q5.trans ⟨fun ⟨y, a, b, z⟩ => ⟨y, by omega, by omega, z⟩, fun ⟨y, a, b, z1, z2⟩ => ?_⟩⟩
        by_cases hy : y = x
        · subst hy; exact absurd (r5.mpr z2) hp
        · exact ⟨y, by omega, by omega, z1, z2⟩
    · rw [lcF_no hst (by omega) hF]
      obtain ⟨q1, q2, q3, q4, q5⟩ := lcF_found (xs := xs) (l := l) (F := F) g0 Gd hf c (x + 1) (s.1 + 1, s.2) h1 h2 (show s.1 + 1 + _ < 200000 by omega)
      simp only at q2 q3
      refine ⟨q1, by omega, by omega, q4, q5.trans ⟨fun ⟨y, a, b, z⟩ => ⟨y, by omega, by omega, z⟩, fun ⟨y, a, b, z1, z2⟩ => ?_⟩⟩
      by_cases hy : y = x
      · subst hy; exact absurd z1 hF
      · exact ⟨y, by omega, by omega, z1, z2⟩
theorem gTr_nn {N : Int} (hN : 1 ≤ N) : ∀ k, 0 ≤ gTr N k
  | 0 => Int.le_refl _
  | k + 1 => Int.mul_nonneg (by omega) (by have := gTr_nn hN k; omega)
theorem gmF_found {F : Int → (Int → Int) → Prop} {n : Int} {N : Nat} (hN : 1 ≤ N) (hF : ∀ l xs ys, 0 ≤ l → (∀ i, 0 ≤ i → i ≤ l → xs i = ys i) → (F l xs ↔ F l ys)) :
    ∀ (k : Nat), (k : Int) ≤ n → ∀ (xs : Int → Int) (s : MS), s.2.1 = 0 → s.2.2 = false → s.1 + gTr N k < 200000 → (gmF F true n N k xs s).2.2 = false ∧ s.1 ≤ (gmF F true n N k xs s).1 ∧ (gmF F true n N k xs s).1 ≤ s.1 + gTr N k ∧ 0 ≤ (gmF F true n N k xs s).2.1 ∧ (0 < (gmF F true n N k xs s).2.1 ↔ EXT F n N k xs)
  | 0, hk, xs, s, h1, h2, h3 => by
    show s.2.2 = false ∧ s.1 ≤ s.1 ∧ s.1 ≤ s.1 + gTr N 0 ∧ 0 ≤ s.2.1 + 1 ∧ (0 < s.2.1 + 1 ↔ _)
    refine ⟨h2, by omega, by unfold gTr; omega, by omega, ⟨fun _ => ⟨xs, fun i _ => rfl, fun l l0 l1 => by omega⟩, fun _ => by omega⟩⟩
  | k + 1, hk, xs, s, h1, h2, h3 => by
    have hg := gTr_nn (N := (N : Int)) (by omega) k
    have e : gTr N (k + 1) = ((N - 1 : Nat) : Int) * (1 + gTr N k) := by show ((N : Int) - 1) * _ = _; congr 1; omega
    rw [e] at h3 ⊢
    show (lcF F true (gmF F true n N k) (n - ((k : Int) + 1)) xs (N - 1) 1 s).2.2 = false ∧ _
    obtain ⟨q1, q2, q3, q4, q5⟩ := lcF_found (F := F) (l := n - ((k : Int) + 1)) (xs := xs) hg (EXT F n N k) (fun ys s' a b c => gmF_found hN hF k (by omega) ys s' a b c) (N - 1) 1 s h1 h2 h3
    refine ⟨q1, q2, q3, q4, q5.trans ⟨fun ⟨y, y0, y1, hy, ys, hys, hl⟩ => ⟨ys, fun i hi => ?_, fun l l0 l1 => ?_⟩, fun ⟨ys, hys, hl⟩ => ⟨ys (n - ((k : Int) + 1)), ?_, ?_, ?_, ys, fun i hi => ?_, fun l l0 l1 => hl l (by omega) l1⟩⟩⟩
    · rw [hys i (by omega)]
      unfold upx
      rw [if_neg (by omega)]
    · by_cases g : l = n - ((k : Int) + 1)
      · have e1 : ys l = y := by rw [hys l (by omega)]; unfold upx; rw [if_pos g]
        refine ⟨by omega, by omega, (hF l _ _ (by omega) (fun i i0 i1 => ?_)).mp (g ▸ hy)⟩
        rw [hys i (by omega), ← g]
      · exact hl l (by omega) l1
    · exact (hl _ (by omega) (by omega)).1
    · have := (hl (n - ((k : Int) + 1)) (by omega) (by omega)).2.1
      omega
    · refine (hF _ _ _ (by omega) (fun i i0 i1 => ?_)).mp (hl _ (by omega) (by omega)).2.2
      unfold upx
      by_cases g : i = n - ((k : Int) + 1)
      · rw [if_pos g, g]
      · rw [if_neg g]; exact hys i (by omega)
    · unfold upx
      by_cases g : i = n - ((k : Int) + 1)
      · rw [if_pos g, g]
      · rw [if_neg g]; exact hys i (by omega)
def SML (p n : Int) : Prop := (p = 2 ∧ 1 ≤ n ∧ n ≤ 3) ∨ (p = 3 ∧ 1 ≤ n ∧ n ≤ 2)
theorem SML.pn {p n : Int} (h : SML p n) : PN p n := by unfold SML at h; unfold PN; omega
theorem FND_small {p n : Int} {T1 T2 : Int → Int} (hs : SML p n) (hT1 : TW p n T1) : 0 < (FND p n T1 T2 true).2.1 ↔ SEE p n T1 T2 := by
  rw [← MAP_see hT1]
  have hg : 1 ≤ (p ^ n.toNat).toNat ∧ ((p ^ n.toNat).toNat : Int) = p ^ n.toNat ∧ gTr ((p ^ n.toNat).toNat : Int) n.toNat < 200000 := by
    have : (p = 2 ∧ n = 1) ∨ (p = 2 ∧ n = 2) ∨ (p = 2 ∧ n = 3) ∨ (p = 3 ∧ n = 1) ∨ (p = 3 ∧ n = 2) := by unfold SML at hs; omega
    rcases this with ⟨rfl, rfl⟩ | ⟨rfl, rfl⟩ | ⟨rfl, rfl⟩ | ⟨rfl, rfl⟩ | ⟨rfl, rfl⟩ <;> decide
  have hn0 : 0 ≤ n := by unfold SML at hs; omega
  have hk : ((n.toNat : Nat) : Int) = n := Int.toNat_of_nonneg hn0
  have := (gmF_found (F := FIT p n T1 T2) (n := n) hg.1 (fun l xs ys l0 h => FIT_cg h l0) n.toNat (by omega) (fun _ => 0) (0, 0, false) rfl rfl (by show (0 : Int) + _ < _; omega)).2.2.2.2
  unfold FND
  rw [this]
  unfold EXT MAP
  rw [hk, hg.2.1]
  constructor
  · rintro ⟨ys, _, hl⟩
    exact ⟨ys, fun l l0 l1 => hl l (by omega) l1⟩
  · rintro ⟨ys, hl⟩
    refine ⟨fun i => if i < 0 then 0 else ys i, fun i hi => if_pos (by omega), fun l l0 l1 => ?_⟩
    show 1 ≤ (if l < 0 then 0 else ys l) ∧ (if l < 0 then 0 else ys l) < p ^ n.toNat ∧ FIT p n T1 T2 l (fun i => if i < 0 then 0 else ys i)
    rw [if_neg (show ¬ l < 0 by omega)]
    have := hl l (by omega) l1
    refine ⟨this.1, this.2.1, (FIT_cg (fun i i0 i1 => ?_) (by omega)).mp this.2.2⟩
    rw [if_neg (by omega)]
