/-! ===== lines: movers and ranks, commuting, simple ===== -/
theorem lp_one {S : Type} {f : Int → S → S} {n k : Int} {s : S} (k0 : 0 ≤ k) (k1 : k < n) (h : ∀ j t, 0 ≤ j → j < n → j ≠ k → f j t = t) : lp f 0 n s = f k s := by
  have := lp_ind (f := f) (lo := 0) (s := s) (P := fun j t => (j ≤ k → t = s) ∧ (k < j → t = f k s)) ⟨fun _ => rfl, fun q => by omega⟩ (hi := n) (fun j t j0 j1 ht => ?_) (by omega)
  · exact this.2 k1
  · by_cases hj : j = k
    · subst hj
      exact ⟨fun q => by omega, fun _ => by rw [ht.1 (Int.le_refl _)]⟩
    · rw [h j t j0 j1 hj]
      exact ⟨fun q => ht.1 (by omega), fun q => ht.2 (by omega)⟩
theorem mvr_cg {p n : Int} {T : Int → Int} {A A' B : ES} (hn : 0 ≤ n) (hA : ESm n A A') : ESm n (mvr p n T A B) (mvr p n T A' B) := by
  unfold mvr
  refine lp_rel (R := ESm n) ESm.rfl' (fun l t t' l0 l1 ht => ?_)
  by_cases h : A.1 l = true
  · rw [if_pos h, if_pos (by rw [← hA.1 l l0 l1]; exact h)]
    exact bnd_cg hn (fun c c0 c1 => hA.2 l c l0 l1 h c0 c1) ht
  · rw [if_neg h, if_neg (by rw [← hA.1 l l0 l1]; exact h)]; exact ht
theorem bs_scl {n s : Int} {T x y : Int → Int} {c : Int} : bs n T x (fun c => s * y c) c = s * bs n T x y c := by
  unfold bs
  rw [← sR_mul]
  apply sR_congr
  intro i _ _
  rw [← sR_mul]
  apply sR_congr
  intro j _ _
  grind
theorem br_scl {p n s : Int} {T x y : Int → Int} : Mg p n (br p n T x (fun c => s * y c)) (fun c => s * br p n T x y c) := by
  intro c c0 c1
  obtain ⟨q1, h1⟩ := br_mg (p := p) (T := T) (x := x) (y := fun c => s * y c) c c0 c1
  obtain ⟨q2, h2⟩ := br_mg (p := p) (T := T) (x := x) (y := y) c c0 c1
  rw [bs_scl] at h1
  exact ⟨q1 - s * q2, by show br p n T x (fun c => s * y c) c - s * br p n T x y c = _; grind⟩
theorem cd_zero_of {p n : Int} {E : ES} (hp : 2 ≤ p) (hn : 0 ≤ n) (hE : EW p n E) (h : ∀ u, In p n E u → In p n E0 u) : cd E.1 n = 0 := by
  have := cd_sub hp hE EW0 h
  rw [cd0] at this
  have := (cd_b (ℓ := E.1) hn).1
  omega
/-- the SIZE that a VECTOR's MATRIX spans, by its rows and by the bonds -/
theorem mvr_rks {p n : Int} {T v : Int → Int} (hT : TW p n T) : cd (mvr p n T (ins p n E0 v) E0).1 n = cd (rks p n T v).1 n := by
  obtain ⟨b1, b2, b3, b4⟩ := hT.1.b
  have hp := hT.1.pr
  have hn : 0 ≤ n := by omega
  have hrEW : EW p n (rks p n T v) := EW_lpins (v := fun i => br p n T v (EU.2 i)) hp hn hn
  by_cases hc : ild p n E0 v < n
  · obtain ⟨l1, l2, l3, l4⟩ := ild_s hn EW0 hc
    obtain ⟨s, m1, m2⟩ := irow_mg hp hn (EW0 (p := p)) hc
    have hins := ins_yes hc
    generalize hLd : ild p n E0 v = Ld at *
    generalize hu : irow p n E0 v = u at *
    generalize hr : rd p n E0 v Ld = r at *
    have e1 : mvr p n T (ins p n E0 v) E0 = bnd p n T u E0 E0 := by
      unfold mvr
      rw [lp_one l1 hc (fun j t j0 j1 hj => by rw [if_neg]; rw [hins]; simp [hj]; rfl)]
      rw [if_pos (by rw [hins]; simp), hins]
      show bnd p n T (fun c => if Ld = Ld then u c else _) E0 E0 = _
      simp
    have e2 : ESm n (bnd p n T u E0 E0) (lp (fun k E => ins p n E (fun i => br p n T (EU.2 i) u k)) 0 n E0) := by
      unfold bnd
      refine lp_rel (R := ESm n) ESm.rfl' (fun k t t' k0 k1 ht => ht.insv hn (fun i i0 i1 => ?_))
      rw [rd_E0]
      exact Int.emod_eq_of_lt (Int.emod_nonneg _ (by omega)) (Int.emod_lt_of_pos _ (by omega))
    rw [e1, e2.cdw, rank_eq (M := fun i => br p n T (EU.2 i) u) hp hn]
    have hEWu : EW p n (lp (fun i E => ins p n E (br p n T (EU.2 i) u)) 0 n E0) := EW_lpins (v := fun i => br p n T (EU.2 i) u) hp hn hn
    have hv : Mg p n v (fun c => r * u c) := fun c c0 c1 => by
      obtain ⟨q1, h1⟩ := m2 c c0 c1
      obtain ⟨q2, h2⟩ := emod_ex (v c) p
      change rd p n E0 v c - r * u c = _ at h1
      rw [rd_E0] at h1
      exact ⟨q1 - q2, by show v c - r * u c = _; grind⟩
    have hu2 : Mg p n u (fun c => s * v c) := fun c c0 c1 => by
      obtain ⟨q1, h1⟩ := m1 c c0 c1
      obtain ⟨q2, h2⟩ := emod_ex (v c) p
      change u c - s * rd p n E0 v c = _ at h1
      rw [rd_E0] at h1
      exact ⟨q1 + s * q2, by show u c - s * v c = _; grind⟩
    refine Int.le_antisymm (cd_sub b1 hEWu hrEW (lpins_sub (v := fun i => br p n T (EU.2 i) u) hp hn hn (fun i i0 i1 => ?_))) (cd_sub b1 hrEW hEWu (lpins_sub (v := fun i => br p n T v (EU.2 i)) hp hn hn (fun i i0 i1 => ?_)))
    · have h1 : In p n (rks p n T v) (br p n T v (EU.2 i)) := lpins_in (v := fun i => br p n T v (EU.2 i)) hp hn i0 i1
      have h2 := (br_swap_in hT h1).scl s
      exact h2.cg ((br_scl (T := T) (x := EU.2 i) (y := v)).symm.trans (br_mgc Mg.rfl' hu2.symm))
    · have h1 : In p n (lp (fun i E => ins p n E (br p n T (EU.2 i) u)) 0 n E0) (br p n T (EU.2 i) u) := lpins_in (v := fun i => br p n T (EU.2 i) u) hp hn i0 i1
      have h2 := h1.scl r
      exact br_swap_in hT (h2.cg ((br_scl (T := T) (x := EU.2 i) (y := u)).symm.trans (br_mgc Mg.rfl' hv.symm)))
  · have hz : ∀ c, 0 ≤ c → c < n → p ∣ v c := In_E0.mp ((In_ild hn).mpr (by have := (ldw_s hn (rd p n E0 v)).2.1; unfold ild at *; omega))
    have e1 : mvr p n T (ins p n E0 v) E0 = E0 := by
      rw [ins_no hc]
      unfold mvr
      exact lp_ind (P := fun _ E => E = E0) rfl (fun l E _ _ hE => by rw [if_neg (by simp [E0])]; exact hE) hn
    rw [e1, cd0]
    refine (cd_zero_of b1 hn hrEW (lpins_sub (v := fun i => br p n T v (EU.2 i)) hp hn hn (fun i i0 i1 => ?_))).symm
    have hv0 : Mg p n v (fun c => 0 * v c) := fun c c0 c1 => by
      obtain ⟨q, hq⟩ := hz c c0 c1
      exact ⟨q, by show v c - 0 * v c = _; omega⟩
    refine br_swap_in hT (In.cg (v := fun c => 0 * br p n T (EU.2 i) v c) (In_zero (fun c _ _ => by rw [Int.zero_mul]; exact Int.dvd_zero p)) ((br_scl (T := T) (x := EU.2 i) (y := v)).symm.trans (br_mgc Mg.rfl' hv0.symm)))
/-- the line of a VECTOR that isn't 0 -/
theorem line_c {p n x : Int} (hp : 2 ≤ p) (hPR : PR p) (hn : 0 ≤ n) (x0 : 1 ≤ x) (x1 : x < p ^ n.toNat) : cd (ins p n E0 (dg p x)).1 n = 1 := by
  rw [cd_ins hn (EW0 (p := p)), cd0]
  have : ild p n E0 (dg p x) < n := by
    rcases Int.lt_or_le (ild p n E0 (dg p x)) n with g | g
    · exact g
    · exfalso
      have hz := In_E0.mp ((In_ild (p := p) (E := E0) (v := dg p x) hn).mpr (by have := (ldw_s hn (rd p n E0 (dg p x))).2.1; unfold ild at *; omega))
      have : x = 0 := dg_ext hp n.toNat x 0 (by omega) x1 (by omega) (by have := ppos hp n.toNat; omega) (fun j j0 j1 => by
        rw [dg_z]
        exact dvd_small (dg_in hp).1 (dg_in hp).2 (hz j j0 (by omega)))
      omega
  rw [if_pos this]; omega
theorem cd_one {ℓ : Int → Bool} {n : Int} (hn : 0 ≤ n) (h : cd ℓ n = 1) : ∃ L, 0 ≤ L ∧ L < n ∧ ℓ L = true ∧ ∀ l, 0 ≤ l → l < n → l ≠ L → ℓ l = false := by
  obtain ⟨L, l0, l1, l2, l3⟩ := cd_sel (ℓ := ℓ) (w := n) (r := 0) hn (by omega) (by omega)
  refine ⟨L, l0, l1, l2, fun l m0 m1 hne => ?_⟩
  cases hb : ℓ l with
  | false => rfl
  | true =>
    exfalso
    rcases Int.lt_or_le l L with g | g
    · have h1 := cd_lt m0 g hb
      have := (cd_b (ℓ := ℓ) m0).1
      omega
    · have h1 := cd_lt l0 (show L < l by omega) l2
      have h2 := cd_lt m0 m1 hb
      omega
theorem lines_n {p n m y : Int} (hpn : PN p n) (m0 : 0 ≤ m) (m1 : m < 2 ^ n.toNat) (hb : bt m = 1) : sR (fun x => ind (ESm n (ins p n E0 (dg p x)) (spn p n (tb m) y))) 1 (p ^ n.toNat) = p - 1 := by
  obtain ⟨b1, b2, b3, b4⟩ := hpn.b
  have hp := hpn.pr
  have hn : 0 ≤ n := by omega
  have hE : EW p n (spn p n (tb m) y) := EW_spn b1
  have hcd : cd (spn p n (tb m) y).1 n = 1 := by
    show cd (tb m) n = 1
    rw [bt_n m0 hn b4 m1, hb]
  obtain ⟨L, l0, l1, l2, l3⟩ := cd_one hn hcd
  obtain ⟨r1, r2, r3, r4⟩ := hE L l0 l1 l2
  generalize spn p n (tb m) y = S at *
  have hpp := ppos b1 n.toNat
  -- what is held is a multiple of the row
  have hmul : ∀ w, In p n S w → ∀ c, 0 ≤ c → c < n → p ∣ w c - w L * S.2 L c := fun w hw c c0 c1 => by
    have := hw c c0 c1
    rwa [sR_one (l := L) l0 l1 (fun k k0 k1 hk => by rw [if_neg (by rw [l3 k k0 k1 hk]; simp)]), if_pos l2] at this
  have hsb : ∀ s j, 0 ≤ s * S.2 L j % p ∧ s * S.2 L j % p < p := fun s j => ⟨Int.emod_nonneg _ (by omega), Int.emod_lt_of_pos _ (by omega)⟩
  have hxd : ∀ s j, 0 ≤ j → j < n → dg p (pk p (fun c => s * S.2 L c % p) n) j = s * S.2 L j % p := fun s j j0 j1 => pk_dg b1 (hsb s) n hn j j0 j1
  have hxb : ∀ s, 0 ≤ pk p (fun c => s * S.2 L c % p) n ∧ pk p (fun c => s * S.2 L c % p) n < p ^ n.toNat := fun s => pk_b b1 (hsb s) n hn
  have hxL : ∀ s, 0 ≤ s → s < p → dg p (pk p (fun c => s * S.2 L c % p) n) L = s := fun s s0 s1 => by
    rw [hxd s L l0 l1, r2, Int.mul_one]; exact Int.emod_eq_of_lt s0 s1
  have hx1 : ∀ s, 1 ≤ s → s < p → 1 ≤ pk p (fun c => s * S.2 L c % p) n := fun s s0 s1 => by
    have h1 := hxL s (by omega) s1
    have h2 := (hxb s).1
    rcases Int.lt_or_le 0 (pk p (fun c => s * S.2 L c % p) n) with g | g
    · omega
    · rw [show pk p (fun c => s * S.2 L c % p) n = 0 by omega, dg_z] at h1; omega
  have hiff : ∀ x, 1 ≤ x → x < p ^ n.toNat → (ESm n (ins p n E0 (dg p x)) S ↔ ∃ s, 1 ≤ s ∧ s < p ∧ x = pk p (fun c => s * S.2 L c % p) n) := fun x x0 x1 => by
    constructor
    · intro h
      have hin : In p n S (dg p x) := h.inn (In_ins_v hp hn EW0)
      have hd : ∀ j, 0 ≤ j → j < n → dg p x j = dg p x L * S.2 L j % p := fun j j0 j1 => by
        obtain ⟨q, hq⟩ := hmul _ hin j j0 j1
        have : dg p x j % p = dg p x L * S.2 L j % p := emod_cg (q := q) (by omega)
        rw [← this]
        exact (Int.emod_eq_of_lt (dg_in b1).1 (dg_in b1).2).symm
      have hxe : x = pk p (fun c => dg p x L * S.2 L c % p) n := dg_ext b1 n.toNat x _ (by omega) x1 (hxb _).1 (hxb _).2 (fun j j0 j1 => by rw [hxd _ j j0 (by omega)]; exact hd j j0 (by omega))
      refine ⟨dg p x L, ?_, (dg_in b1).2, hxe⟩
      have h0 := (dg_in (p := p) (x := x) (k := L) b1).1
      rcases Int.lt_or_le 0 (dg p x L) with g | g
      · omega
      · exfalso
        have : x = 0 := dg_ext b1 n.toNat x 0 (by omega) x1 (by omega) (by omega) (fun j j0 j1 => by
          rw [dg_z, hd j j0 (by omega), show dg p x L = 0 by omega, Int.zero_mul]; rfl)
        omega
    · rintro ⟨s, s0, s1, hx⟩
      refine ES_full b1 (EW_ins hp hn EW0) hE (ins_sub hp hn EW0 (fun u hu => In_zero (In_E0.mp hu)) ?_) (by rw [hcd, line_c b1 hp hn x0 x1]; omega)
      refine ((In_row hE l0 l1 l2).scl s).cg (fun c c0 c1 => ?_)
      rw [hx, hxd s c c0 c1]
      obtain ⟨q, hq⟩ := emod_ex (s * S.2 L c) p
      exact ⟨-q, by show s * S.2 L c - s * S.2 L c % p = _; grind⟩
  rw [sR_congr (g := fun x => sR (fun s => ind (x = pk p (fun c => s * S.2 L c % p) n)) 1 p) (fun x x0 x1 => ?_), sR_swap, sR_congr (g := fun _ => 1) (fun s s0 s1 => ?_), sR_const (by omega)]
  · rw [sR_one (l := pk p (fun c => s * S.2 L c % p) n) (hx1 s s0 s1) (hxb s).2 (fun k _ _ hk => ind_f hk), ind_t rfl]
  · by_cases h : ESm n (ins p n E0 (dg p x)) S
    · obtain ⟨s, s0, s1, hx⟩ := (hiff x x0 x1).mp h
      rw [ind_t h, sR_one (l := s) s0 s1 (fun k k0 k1 hk => ind_f (fun e => hk ?_)), ind_t hx]
      have h1 := hxL s (by omega) s1
      have h2 := hxL k (by omega) k1
      rw [← hx] at h1
      rw [← e] at h2
      omega
    · rw [ind_f h, sR_zero' (fun s s0 s1 => ind_f (fun e => h ((hiff x x0 x1).mpr ⟨s, s0, s1, e⟩)))]
theorem commute_eq {p n : Int} {T : Int → Int} (hT : TW p n T) : sR (fun x => p ^ (n - cd (rks p n T (dg p x)).1 n).toNat) 0 (p ^ n.toNat) = p ^ n.toNat + TT p n 1 (fun m x => (p - 1) * p ^ (n - cd (mvr p n T (spn p n (tb m) x) E0).1 n).toNat) := by
  have hpn := hT.1
  obtain ⟨b1, b2, b3, b4⟩ := hpn.b
  have hp := hpn.pr
  have hn : 0 ≤ n := by omega
  have hpp := ppos b1 n.toNat
  rw [sR_split (mid := 1) (by omega) (by omega)]
  congr 1
  · rw [show (1 : Int) = 0 + 1 from rfl, sR_succ (by omega), sR_nil (lo := 0) (hi := 0) (by omega), Int.zero_add]
    have : cd (rks p n T (dg p 0)).1 n = 0 := by
      rw [← mvr_rks hT]
      have hz : ¬ ild p n E0 (dg p 0) < n := by
        have : In p n E0 (dg p 0) := In_E0.mpr (fun c _ _ => by rw [dg_z]; exact Int.dvd_zero p)
        have := (In_ild hn).mp this
        omega
      rw [ins_no hz]
      have e1 : mvr p n T E0 E0 = E0 := by
        unfold mvr
        exact lp_ind (P := fun _ E => E = E0) rfl (fun l E _ _ hE => by rw [if_neg (by simp [E0])]; exact hE) hn
      rw [e1, cd0]
    rw [this, Int.sub_zero]
  · have h1 : ∀ x, 1 ≤ x → x < p ^ n.toNat → p ^ (n - cd (rks p n T (dg p x)).1 n).toNat = sR (fun m => if bt m = 1 then sR (fun y => ind (ESm n (ins p n E0 (dg p x)) (spn p n (tb m) y)) * p ^ (n - cd (mvr p n T (spn p n (tb m) y) E0).1 n).toNat) 0 (cds p n m) else 0) 0 (2 ^ n.toNat) := fun x x0 x1 => by
      obtain ⟨m, y, m0, m1, y0, y1, hbm, hE⟩ := spn_of b1 hn b4 (EW_ins (v := dg p x) hp hn (EW0 (p := p) (w := n)))
      rw [line_c b1 hp hn x0 x1] at hbm
      have huq : ∀ m' y', 0 ≤ m' → m' < 2 ^ n.toNat → 0 ≤ y' → y' < cds p n m' → ESm n (ins p n E0 (dg p x)) (spn p n (tb m') y') → m' = m ∧ y' = y := fun m' y' q0 q1 q2 q3 h =>
        spn_inj b1 hn b4 q0 q1 q2 q3 m0 m1 y0 y1 (h.symm.trans hE)
      rw [sR_one (l := m) m0 m1 (fun k k0 k1 hk => ?_), if_pos hbm, sR_one (l := y) y0 y1 (fun k k0 k1 hk => by rw [ind_f (fun h => hk (huq m k m0 m1 k0 k1 h).2), Int.zero_mul]), ind_t hE, Int.one_mul, ← mvr_rks hT, (mvr_cg hn hE).cdw]
      split
      · exact sR_zero' (fun y' q0 q1 => by rw [ind_f (fun h => hk (huq k y' k0 k1 q0 q1 h).1), Int.zero_mul])
      · rfl
    rw [sR_congr h1, sR_swap]
    unfold TT
    apply sR_congr
    intro m m0 m1
    by_cases hb : bt m = 1
    · rw [if_pos hb, sR_congr (g := fun x => sR (fun y => ind (ESm n (ins p n E0 (dg p x)) (spn p n (tb m) y)) * p ^ (n - cd (mvr p n T (spn p n (tb m) y) E0).1 n).toNat) 0 (cds p n m)) (fun x _ _ => by rw [if_pos hb]), sR_swap]
      apply sR_congr
      intro y y0 y1
      rw [sR_congr (g := fun x => p ^ (n - cd (mvr p n T (spn p n (tb m) y) E0).1 n).toNat * ind (ESm n (ins p n E0 (dg p x)) (spn p n (tb m) y))) (fun x _ _ => Int.mul_comm _ _), sR_mul, lines_n hpn m0 m1 hb, Int.mul_comm]
    · rw [if_neg hb]
      exact sR_zero' (fun x _ _ => by rw [if_neg hb])
theorem ClI.esm {p n : Int} {T : Int → Int} {E E' : ES} (h : ClI p n T E) (he : ESm n E E') : ClI p n T E' := fun u v hu => he.inn (h u v (he.symm.inn hu))
theorem cnt_zero {p n : Int} {T : Int → Int} (hT : TW p n T) : cnt n T = 0 ↔ cd (brk p n T EU EU).1 n = 0 := by
  obtain ⟨b1, b2, b3, b4⟩ := hT.1.b
  rw [cd_E0_iff hT (EWU b1)]
  have hnn : ∀ i j k, (0 : Int) ≤ (if T (25 * i + 5 * j + k) = 0 then 0 else 1) := fun i j k => by split <;> omega
  constructor
  · intro h
    have hz : ∀ i j k, 0 ≤ i → i < j → j < n → 0 ≤ k → k < n → T (25 * i + 5 * j + k) = 0 := fun i j k i0 ij jn k0 kn => by
      have h1 := sR_pos (f := fun i => sR (fun j => sR (fun k => if T (25 * i + 5 * j + k) = 0 then (0 : Int) else 1) 0 n) (i + 1) n) (fun i => sR_nn (fun j _ _ => sR_nn (fun k _ _ => hnn i j k))) i0 (show i < n by omega)
      have h2 := sR_pos (f := fun j => sR (fun k => if T (25 * i + 5 * j + k) = 0 then (0 : Int) else 1) 0 n) (lo := i + 1) (fun j => sR_nn (fun k _ _ => hnn i j k)) (show i + 1 ≤ j by omega) jn
      have h3 := sR_pos (f := fun k => if T (25 * i + 5 * j + k) = 0 then (0 : Int) else 1) (fun k => hnn i j k) k0 kn
      unfold cnt at h
      try simp only at h1 h2 h3
      by_cases g : T (25 * i + 5 * j + k) = 0
      · exact g
      · rw [if_neg g] at h3; omega
    refine ClP_of hT (fun l m l0 hlm m1 _ _ => In_E0.mpr (fun c c0 c1 => ?_))
    rw [br_units hT l0 (by omega) (by omega) m1 c0 c1, hz l m c l0 hlm m1 c0 c1]
    exact Int.dvd_zero p
  · intro h
    unfold cnt
    refine sR_zero' (fun i i0 i1 => sR_zero' (fun j j0 j1 => sR_zero' (fun k k0 k1 => ?_)))
    have h1 := In_E0.mp (h (EU.2 i) (EU.2 j) In_EU In_EU) k k0 k1
    rw [br_units hT i0 i1 (by omega) j1 k0 k1] at h1
    have := hT.2.1 (25 * i + 5 * j + k) (by omega) (by omega)
    rw [if_pos (dvd_small this.1 this.2 h1)]
theorem Lst_exI {p n : Int} {T : Int → Int} (hT : TW p n T) : ∀ (k : Nat) (E : ES), EW p n E → n - cd E.1 n ≤ (k : Int) → ∃ C, Lst p n T True E C
  | 0, E, hE, hk => by
    obtain ⟨b1, b2, b3, b4⟩ := hT.1.b
    have hG := Gr_gI (T := T) hT.1.pr (show 0 ≤ n by omega) hE
    have h1 := (cd_b (ℓ := (gI p n T E).1) (w := n) (by omega)).2
    have h2 := hG.2.1
    exact ⟨E, hE, fun _ h => h, fun _ => gI_still hT hE (by omega), fun z => (z trivial).elim, fun F _ h _ _ => h⟩
  | k + 1, E, hE, hk => by
    obtain ⟨b1, b2, b3, b4⟩ := hT.1.b
    have hG := Gr_gI (T := T) hT.1.pr (show 0 ≤ n by omega) hE
    by_cases he : cd (gI p n T E).1 n = cd E.1 n
    · exact ⟨E, hE, fun _ h => h, fun _ => gI_still hT hE he, fun z => (z trivial).elim, fun F _ h _ _ => h⟩
    · have h2 := hG.2.1
      obtain ⟨C, c1, c2, c3, c4, c5⟩ := Lst_exI hT k (gI p n T E) hG.1 (by omega)
      exact ⟨C, c1, fun u hu => c2 u (hG.2.2.1 u hu), c3, c4, fun F hF hs hc hd => c5 F hF (gI_sub hT.1.pr (by omega) hE (hc trivial) hs) hc hd⟩
theorem simple_iff {p n : Int} {T : Int → Int} (hT : TW p n T) : SIM p n T ↔ SIMR p n T := by
  have hpn := hT.1
  obtain ⟨b1, b2, b3, b4⟩ := hpn.b
  have hp := hpn.pr
  have hn : 0 ≤ n := by omega
  have hpp := ppos b1 n.toNat
  unfold SIM SIMR
  rw [Ne, Ne, cnt_zero hT]
  refine and_congr_right (fun _ => ⟨fun h z z0 z1 => ?_, fun h x x0 x1 E' hL => ?_⟩)
  · -- an IDEAL between would hold a line's closure
    unfold TT
    refine sR_zero' (fun m m0 m1 => ?_)
    by_cases hb : bt m = z
    · rw [if_pos hb]
      refine sR_zero' (fun y y0 y1 => ind_f (fun hk => ?_))
      have hI : ClI p n T (spn p n (tb m) y) := by unfold KD at hk; rwa [if_neg (by omega), if_neg (by omega), if_pos rfl] at hk
      have hE : EW p n (spn p n (tb m) y) := EW_spn b1
      have hcd : cd (spn p n (tb m) y).1 n = z := by
        show cd (tb m) n = z
        rw [bt_n m0 hn b4 m1, hb]
      obtain ⟨L, l0, l1, l2, _⟩ := cd_sel (ℓ := (spn p n (tb m) y).1) (w := n) (r := 0) hn (by omega) (by omega)
      obtain ⟨r1, r2, r3, r4⟩ := hE L l0 l1 l2
      generalize spn p n (tb m) y = S at *
      have hfb : ∀ j, 0 ≤ S.2 L j % p ∧ S.2 L j % p < p := fun j => ⟨Int.emod_nonneg _ (by omega), Int.emod_lt_of_pos _ (by omega)⟩
      have hxb := pk_b b1 hfb n hn
      have hxd := pk_dg b1 hfb n hn
      have hx1 : 1 ≤ pk p (fun j => S.2 L j % p) n := by
        have h1 := hxd L l0 l1
        rw [r2] at h1
        rcases Int.lt_or_le 0 (pk p (fun j => S.2 L j % p) n) with g | g
        · omega
        · rw [show pk p (fun j => S.2 L j % p) n = 0 by omega, dg_z, Int.emod_eq_of_lt (by omega) (by omega)] at h1; omega
      -- its closure
      have hin : In p n S (dg p (pk p (fun j => S.2 L j % p) n)) := (In_row hE l0 l1 l2).eqv (fun c c0 c1 => by
        rw [hxd c c0 c1]
        exact (Int.emod_eq_of_lt (r1 c c0 c1).1 (r1 c c0 c1).2).symm)
      have hsub : ∀ u, In p n (ins p n E0 (dg p (pk p (fun j => S.2 L j % p) n))) u → In p n S u := ins_sub hp hn EW0 (fun u hu => In_zero (In_E0.mp hu)) hin
      obtain ⟨C, hC⟩ : ∃ C, Lst p n T True (ins p n E0 (dg p (pk p (fun j => S.2 L j % p) n))) C := Lst_exI hT n.toNat _ (EW_ins hp hn EW0) (by have := (cd_b (ℓ := (ins p n E0 (dg p (pk p (fun j => S.2 L j % p) n))).1) hn).1; omega)
      have h1 := h _ hx1 hxb.2 C hC
      have h2 := cd_sub b1 hC.1 hE (hC.2.2.2.2 S hE hsub (fun _ => hI) (fun z => (z trivial).elim))
      omega
    · rw [if_neg hb]
  · rcases Int.lt_or_le (cd E'.1 n) n with g | g
    · exfalso
      obtain ⟨m, y, m0, m1, y0, y1, hbm, hE⟩ := spn_of b1 hn b4 hL.1
      have hc1 : 1 ≤ cd E'.1 n := by
        have := cd_sub b1 (EW_ins hp hn EW0) hL.1 hL.2.1
        rw [line_c b1 hp hn x0 x1] at this
        exact this
      have h1 := TT_zero (F := fun m x => ind (KD p n T 1 (spn p n (tb m) x))) (fun _ _ => ind_nn.1) (h (cd E'.1 n) hc1 g) m0 m1 hbm y0 y1
      have hk : KD p n T 1 (spn p n (tb m) y) := by
        unfold KD
        rw [if_neg (by omega), if_neg (by omega), if_pos rfl]
        exact (hL.2.2.1 trivial).esm hE
      simp only [ind_t hk] at h1
      omega
    · have := (cd_b (ℓ := E'.1) hn).2; omega
/-- nilpotent, solvable: at 5, and behind the SIZE -/
theorem ser_five {p n : Int} {T : Int → Int} {lo : Prop} [Decidable lo] (hT : TW p n T) : cd (ser p n T lo EU 5).1 n = cd (ser p n T lo EU (n + 1).toNat).1 n := by
  obtain ⟨b1, b2, b3, b4⟩ := hT.1.b
  have hc : cd EU.1 n ≤ (n.toNat : Int) := by rw [cdU (by omega)]; omega
  rw [(ser_end (lower := lo) hT (EWU b1) ClU (k := n.toNat) (m := 5) hc (by omega)).cdw, (ser_end (lower := lo) hT (EWU b1) ClU (k := n.toNat) (m := (n + 1).toNat) hc (by omega)).cdw]
