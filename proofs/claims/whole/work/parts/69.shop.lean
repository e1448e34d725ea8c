/-! ===== the class's WORKSHOP: squeezing, growth, sums ===== -/
theorem TW_cg {p n : Int} {T T' : Int → Int} (h : TW p n T) (he : ∀ t, 0 ≤ t → t < 125 → T' t = T t) : TW p n T' := by
  obtain ⟨h0, h1, h2, h3, h4⟩ := h
  refine ⟨h0, fun t t0 t1 => by rw [he t t0 t1]; exact h1 t t0 t1, fun i j k i0 i1 j0 j1 k0 k1 => ?_, fun i k i0 i1 k0 k1 => ?_, fun i j k i0 i1 j0 j1 k0 k1 ho => ?_⟩
  · rw [he _ (by omega) (by omega), he _ (by omega) (by omega)]; exact h2 i j k i0 i1 j0 j1 k0 k1
  · rw [he _ (by omega) (by omega)]; exact h3 i k i0 i1 k0 k1
  · rw [he _ (by omega) (by omega)]; exact h4 i j k i0 i1 j0 j1 k0 k1 ho
/-- a TABLE laid into another one from a place on -/
def lyd (T : Int → Int) (f n : Int) (w : Int → Int → Int → Int) : Int → Int → Int → Int := fun i j k => if f ≤ i ∧ f ≤ k ∧ j < f + n ∧ k < f + n then T (25 * (i - f) + 5 * (j - f) + (k - f)) else w i j k
def lyx (T : Int → Int) (f n : Int) (w : Int → Int → Int → Int) (i j k : Int) : Int → Int → Int → Int := fun a b c => if f ≤ a ∧ f ≤ c ∧ b < f + n ∧ c < f + n ∧ (a - f < i ∨ (a - f = i ∧ (b - f < j ∨ (b - f = j ∧ c - f < k)))) then T (25 * (a - f) + 5 * (b - f) + (c - f)) else w a b c
def SQZ (T wt : Int → Int) : Int → Int → Int → Int := fun i j k => if 0 < wt i + wt j - wt k then 0 else T (25 * i + 5 * j + k)
def SQok (n : Int) (T wt : Int → Int) : Prop := ∀ i j k, 0 ≤ i → i < j → j < n → 0 ≤ k → k < n → ¬ (T (25 * i + 5 * j + k) ≠ 0 ∧ wt i + wt j - wt k < 0)
def GRW (n : Int) (T c : Int → Int) : Int → Int → Int → Int := fun i j k => if k = n ∧ j < n then c (ci n i j) else T (25 * i + 5 * j + k)
def SUM2 (n1 n2 : Int) (T1 T2 : Int → Int) : Int → Int → Int → Int := lyd T2 n1 n2 (fun i j k => T1 (25 * i + 5 * j + k))
theorem lyd_0 {p n m : Int} {T : Int → Int} (hT : TW p n T) (hm : n ≤ m) (hm5 : m ≤ 5) {t : Int} (t0 : 0 ≤ t) (t1 : t < 125) : MK p m (lyd T 0 n (fun _ _ _ => 0)) t = MK p m (fun i j k => T (25 * i + 5 * j + k)) t := MK_cg (fun i j k i0 ij jm k0 km => by
  show (if (0 : Int) ≤ i ∧ 0 ≤ k ∧ j < 0 + n ∧ k < 0 + n then T (25 * (i - 0) + 5 * (j - 0) + (k - 0)) else 0) = T (25 * i + 5 * j + k)
  by_cases g : (0 : Int) ≤ i ∧ 0 ≤ k ∧ j < 0 + n ∧ k < 0 + n
  · rw [if_pos g]; congr 1; omega
  · rw [if_neg g]; exact (hT.2.2.2.2 i j k i0 (by omega) (by omega) (by omega) k0 (by omega) (by omega)).symm) t0 t1
section SHP
variable {d : Nat} {σ : SG} {Q : Int → SG → Prop}
/-- the class's WORLD at a, by its numbers -/
def WN (σ : SG) (a p m : Int) (v : Int → Int → Int → Int) : Prop := σ a 1 = p ∧ σ a 2 = m ∧ ∀ t, 0 ≤ t → t < 125 → σ (a + 1) t = MK p m v t
theorem WN.fr {σ σ' : SG} {a p m : Int} {v : Int → Int → Int → Int} (h : WN σ a p m v) (h1 : ∀ k, σ' a k = σ a k) (h2 : ∀ k, σ' (a + 1) k = σ (a + 1) k) : WN σ' a p m v := ⟨by rw [h1]; exact h.1, by rw [h1]; exact h.2.1, fun t t0 t1 => by rw [h2]; exact h.2.2 t t0 t1⟩
theorem Wd_empty_s {p m : Int} (hpn : PN p m) (h : ∀ σ', WN σ' 105 p m (fun _ _ _ => 0) → Off (fun b j => (b = 105 ∧ (j = 1 ∨ j = 2)) ∨ b = 106) σ σ' → Q 0 σ') : Tri (d + 2) M_Wd_makeEmpty [vA 105, vI p, vI m] σ Q := by
  refine Wd_makeEmpty_s ob_105 hpn (h _ ⟨?_, ?_, fun t t0 t1 => ?_⟩ (fun b j hb => ?_))
  · rw [fil_ne (by omega), up_ne (by omega), up_same]
  · rw [fil_ne (by omega), up_same]
  · rw [fil_in (by omega) (by omega), MK_0]
  · rw [fil_ne (by omega), up_ne (by omega), up_ne (by omega)]
theorem Wd_back_s {a p m : Int} {v : Int → Int → Int → Int} (ho : obok 10 a) (ha : a ≤ 20) (hW : WN σ 105 p m v) (h : ∀ σ', WN σ' a p m v → Off (fun b j => (b = a ∧ (j = 1 ∨ j = 2)) ∨ b = a + 1) σ σ' → Q 0 σ') : Tri (d + 1) M_Wd_copyFrom [vA a, vA 105] σ Q := by
  obtain ⟨kw1, _, _⟩ := kd_world ho
  refine Wd_copyFrom_s ho ob_105 (h _ ⟨?_, ?_, fun t t0 t1 => ?_⟩ (fun b j hb => ?_))
  · rw [cpy_ne (by omega), up_ne (by omega), up_same]; exact hW.1
  · rw [cpy_ne (by omega), up_same]; exact hW.2.1
  · rw [cpy_in (by omega) (by omega), up_ne (by omega), up_ne (by omega), show (0 : Int) + (t - 0) = t by omega]; exact hW.2.2 t t0 t1
  · rw [cpy_ne (by omega), up_ne (by omega), up_ne (by omega)]
theorem Wo_layInto_s {a p n m f : Int} {T : Int → Int} {w : Int → Int → Int → Int} (hW : WD σ a p n T) (ha : a ≤ 20) (hM : WN σ 105 p m w) (hpn : PN p m) (f0 : 0 ≤ f) (fm : f + n ≤ m) (h : ∀ σ', WN σ' 105 p m (lyd T f n w) → Off (fun b j => b = 106) σ σ' → Q 0 σ') : Tri (d + 3) M_Wo_layInto [vA 104, vA a, vI f] σ Q := by
  obtain ⟨b1, b2, b3, b4⟩ := hW.pn.b
  obtain ⟨c1, c2, c3, c4⟩ := hpn.b
  obtain ⟨ho, hp, hn, _, hT⟩ := id hW
  have wcg : ∀ t, Off (fun b j => b = 106) σ t → WD t a p n T := fun t ht => hW.cg (fun k => ht a k (by omega)) (fun k => ht (a + 1) k (by omega))
  have mcg : ∀ t, Off (fun b j => b = 106) σ t → t 105 1 = p ∧ t 105 2 = m := fun t ht => ⟨(ht 105 1 (by omega)).trans hM.1, (ht 105 2 (by omega)).trans hM.2.1⟩
  refine t_Wo_layInto (fun _ => ?_)
  refine loop_up (P := fun i t => L (d + 3) M_Wo_layInto 2 [vA 104, vA a, vI f, vI i, vU, vU] [] t Q)
    (fun i t => 0 ≤ i ∧ (∀ q, 0 ≤ q → q < 125 → t 106 q = MK p m (lyx T f n w i (i + 1) 0) q) ∧ Off (fun b j => b = 106) σ t) n ?_ ?_ 0 (by omega) σ ⟨by omega, fun q q0 q1 => ?_, Off_rfl⟩
  · rintro t ⟨_, ht, hO⟩
    have e2 := (wcg t hO).2.2.1
    refine s_Wo_layInto_2 ⟨ho, fun _ => h t ⟨(mcg t hO).1, (mcg t hO).2, fun q q0 q1 => ?_⟩ hO, fun q => by omega⟩
    show t 106 q = _
    rw [ht q q0 q1]
    refine MK_cg (fun a b c a0 ab bm c0 cm => ?_) q0 q1
    show (if f ≤ a ∧ f ≤ c ∧ b < f + n ∧ c < f + n ∧ (a - f < n ∨ _) then T (25 * (a - f) + 5 * (b - f) + (c - f)) else w a b c) = (if f ≤ a ∧ f ≤ c ∧ b < f + n ∧ c < f + n then _ else w a b c)
    by_cases g : f ≤ a ∧ f ≤ c ∧ b < f + n ∧ c < f + n
    · rw [if_pos g, if_pos ⟨g.1, g.2.1, g.2.2.1, g.2.2.2, Or.inl (by omega)⟩]
    · rw [if_neg g, if_neg (fun z => g ⟨z.1, z.2.1, z.2.2.1, z.2.2.2.1⟩)]
  · rintro i t hi ⟨i0, ht, hO⟩ ih
    have e2 := (wcg t hO).2.2.1
    refine s_Wo_layInto_2 ⟨ho, fun q => by omega, fun _ => ?_⟩
    rw [w32_id (by omega) (by omega)]
    refine loop_up (P := fun j t => L (d + 3) M_Wo_layInto 15 [vA 104, vA a, vI f, vI i, vI j, vU] [] t Q)
      (fun j t => i + 1 ≤ j ∧ (∀ q, 0 ≤ q → q < 125 → t 106 q = MK p m (lyx T f n w i j 0) q) ∧ Off (fun b j => b = 106) σ t) n ?_ ?_ (i + 1) (by omega) t ⟨by omega, ht, hO⟩
    · rintro t2 ⟨_, ht2, hO2⟩
      have e2 := (wcg t2 hO2).2.2.1
      refine s_Wo_layInto_15 ⟨ho, fun _ => ?_, fun q => by omega⟩
      rw [w32_id (by omega) (by omega)]
      refine ih t2 ⟨by omega, fun q q0 q1 => ?_, hO2⟩
      rw [ht2 q q0 q1]
      refine MK_cg (fun a b c a0 ab bm c0 cm => ?_) q0 q1
      unfold lyx
      by_cases g : f ≤ a ∧ f ≤ c ∧ b < f + n ∧ c < f + n ∧ (a - f < i ∨ (a - f = i ∧ (b - f < n ∨ (b - f = n ∧ c - f < 0))))
      · rw [if_pos g, if_pos (by omega)]
      · rw [if_neg g, if_neg (by omega)]
    · rintro j t2 hj ⟨j0, ht2, hO2⟩ ih2
      have e2 := (wcg t2 hO2).2.2.1
      refine s_Wo_layInto_15 ⟨ho, fun q => by omega, fun _ => ?_⟩
      refine loop_up (P := fun k t => L (d + 3) M_Wo_layInto 27 [vA 104, vA a, vI f, vI i, vI j, vI k] [] t Q)
        (fun k t => 0 ≤ k ∧ (∀ q, 0 ≤ q → q < 125 → t 106 q = MK p m (lyx T f n w i j k) q) ∧ Off (fun b j => b = 106) σ t) n ?_ ?_ 0 (by omega) t2 ⟨by omega, ht2, hO2⟩
      · rintro t3 ⟨_, ht3, hO3⟩
        have e2 := (wcg t3 hO3).2.2.1
        refine s_Wo_layInto_27 ⟨ho, fun _ => ?_, fun q => by omega⟩
        rw [w32_id (by omega) (by omega)]
        refine ih2 t3 ⟨by omega, fun q q0 q1 => ?_, hO3⟩
        rw [ht3 q q0 q1]
        refine MK_cg (fun a b c a0 ab bm c0 cm => ?_) q0 q1
        unfold lyx
        by_cases g : f ≤ a ∧ f ≤ c ∧ b < f + n ∧ c < f + n ∧ (a - f < i ∨ (a - f = i ∧ (b - f < j ∨ (b - f = j ∧ c - f < n))))
        · rw [if_pos g, if_pos (by omega)]
        · rw [if_neg g, if_neg (by omega)]
      · rintro k t3 hk ⟨k0, ht3, hO3⟩ ih3
        have hW3 := wcg t3 hO3
        have e2 := hW3.2.2.1
        have hTb := hT.2.1 (25 * i + 5 * j + k) (by omega) (by omega)
        refine s_Wo_layInto_27 ⟨ho, fun q => by omega, fun _ => ⟨ho, hW3.cell ⟨i0, hi⟩ ⟨by omega, hj⟩ ⟨k0, hk⟩ ?_⟩⟩
        rw [w32_id (x := f + i) (by omega) (by omega), w32_id (x := f + j) (by omega) (by omega), w32_id (x := f + k) (by omega) (by omega), w32_id (x := k + 1) (by omega) (by omega)]
        refine Wd_setMK ob_105 (mcg t3 hO3).1 (mcg t3 hO3).2 hpn ht3 (by omega) (by omega) (by omega) (by omega) (by omega) (by omega) (fun t4 ht4 hO4 => ih3 t4 ⟨by omega, fun q q0 q1 => ?_, Off_trans hO3 (Off_mono hO4 (fun b j q => by omega))⟩)
        have := ht4 q q0 q1
        rw [show (105 : Int) + 1 = 106 from rfl] at this
        rw [this]
        refine MK_cg (fun a b c a0 ab bm c0 cm => ?_) q0 q1
        unfold w3 lyx
        by_cases g : a = f + i ∧ b = f + j ∧ c = f + k
        · rw [if_pos g, if_pos (by omega), g.1, g.2.1, g.2.2]
          congr 1; omega
        · rw [if_neg g]
          by_cases g2 : f ≤ a ∧ f ≤ c ∧ b < f + n ∧ c < f + n ∧ (a - f < i ∨ (a - f = i ∧ (b - f < j ∨ (b - f = j ∧ c - f < k))))
          · rw [if_pos g2, if_pos (by omega)]
          · rw [if_neg g2, if_neg (by omega)]
  · have := hM.2.2 q q0 q1
    rw [show (105 : Int) + 1 = 106 from rfl] at this
    rw [this]
    refine MK_cg (fun a b c a0 ab bm c0 cm => ?_) q0 q1
    unfold lyx
    rw [if_neg (by omega)]
theorem Wo_growBy_s {a p n : Int} {T c : Int → Int} (hW : WD σ a p n T) (ha : a ≤ 20) (ha4 : a ≠ 4 ∧ a + 1 ≠ 4) (hpn : PN p (n + 1)) (hc : ∀ q, 0 ≤ q → q < n * (n - 1) / 2 → σ 4 q = c q ∧ 0 ≤ c q ∧ c q < p) (h : ∀ σ', WN σ' a p (n + 1) (GRW n T c) → Off (fun b j => (b = a ∧ (j = 1 ∨ j = 2)) ∨ b = a + 1 ∨ (b = 105 ∧ (j = 1 ∨ j = 2)) ∨ b = 106) σ σ' → Q 0 σ') : Tri (d + 4) M_Wo_growBy [vA 104, vA a, vA 4] σ Q := by
  obtain ⟨b1, b2, b3, b4⟩ := hW.pn.b
  obtain ⟨c1, c2, c3, c4⟩ := hpn.b
  obtain ⟨ho, hp, hn, _, hT⟩ := id hW
  refine t_Wo_growBy ⟨ho, ho, ?_⟩
  rw [hp, hn, w32_id (by omega) (by omega)]
  refine Wd_empty_s hpn (fun s1 hM1 hO1 => ?_)
  have hW1 : WD s1 a p n T := hW.cg (fun k => hO1 a k (by omega)) (fun k => hO1 (a + 1) k (by omega))
  refine Wo_layInto_s hW1 ha hM1 hpn (by omega) (by omega) (fun s2 hM2 hO2 => ?_)
  have hO2' : Off (fun b j => (b = 105 ∧ (j = 1 ∨ j = 2)) ∨ b = 106) σ s2 := Off_trans hO1 (Off_mono hO2 (fun b j q => by omega))
  have mcg : ∀ t, Off (fun b j => b = 106) s2 t → t 105 1 = p ∧ t 105 2 = n + 1 := fun t ht => ⟨(ht 105 1 (by omega)).trans hM2.1, (ht 105 2 (by omega)).trans hM2.2.1⟩
  refine loop_up (P := fun i (s : Int × SG) => L (d + 4) M_Wo_growBy 31 [vA 104, vA a, vA 4, vI n, vI s.1, vI i, vU] [] s.2 Q)
    (fun i s => 0 ≤ i ∧ s.1 = ci n i (i + 1) ∧ (∀ q, 0 ≤ q → q < 125 → s.2 106 q = MK p (n + 1) (fun x y z => if z = n ∧ y < n ∧ x < i then c (ci n x y) else T (25 * x + 5 * y + z)) q) ∧ Off (fun b j => b = 106) s2 s.2) n ?_ ?_ 0 (by omega) (0, s2) ⟨by omega, by unfold ci; simp, fun q q0 q1 => ?_, Off_rfl⟩
  · rintro ⟨at_, t⟩ ⟨_, _, ht, hO⟩
    simp only at ht hO ⊢
    refine s_Wo_growBy_31 ⟨fun _ => ⟨ho, Wd_back_s (v := GRW n T c) ho ha ⟨(mcg t hO).1, (mcg t hO).2, fun q q0 q1 => ?_⟩ (fun t2 hN hO2 => h t2 hN ?_)⟩, fun q => by omega⟩
    · show t 106 q = _
      rw [ht q q0 q1]
      refine MK_cg (fun x y z x0 xy ym z0 zm => ?_) q0 q1
      unfold GRW
      by_cases g : z = n ∧ y < n
      · rw [if_pos g, if_pos ⟨g.1, g.2, by omega⟩]
      · rw [if_neg g, if_neg (fun q => g ⟨q.1, q.2.1⟩)]
    · exact Off_trans (Off_mono hO2' (fun b j q => by omega)) (Off_trans (Off_mono hO (fun b j q => by omega)) (Off_mono hO2 (fun b j q => by omega)))
  · rintro i ⟨at_, t⟩ hi ⟨i0, hat, ht, hO⟩ ih
    simp only at hat ht hO ⊢
    refine s_Wo_growBy_31 ⟨fun q => by omega, fun _ => ?_⟩
    rw [w32_id (by omega) (by omega)]
    refine loop_up (P := fun j (s : Int × SG) => L (d + 4) M_Wo_growBy 43 [vA 104, vA a, vA 4, vI n, vI s.1, vI i, vI j] [] s.2 Q)
      (fun j s => i + 1 ≤ j ∧ s.1 = ci n i j ∧ (∀ q, 0 ≤ q → q < 125 → s.2 106 q = MK p (n + 1) (fun x y z => if z = n ∧ y < n ∧ (x < i ∨ (x = i ∧ y < j)) then c (ci n x y) else T (25 * x + 5 * y + z)) q) ∧ Off (fun b j => b = 106) s2 s.2) n ?_ ?_ (i + 1) (by omega) (at_, t) ⟨by omega, hat, fun q q0 q1 => by
        show t 106 q = _
        rw [ht q q0 q1]
        refine MK_cg (fun x y z x0 xy ym z0 zm => ?_) q0 q1
        by_cases g : z = n ∧ y < n ∧ x < i
        · rw [if_pos g, if_pos (by omega)]
        · rw [if_neg g, if_neg (by omega)], hO⟩
    · rintro ⟨at2, t2⟩ ⟨_, hat2, ht2, hO2t⟩
      simp only at hat2 ht2 hO2t ⊢
      refine s_Wo_growBy_43 ⟨fun _ => ?_, fun q => by omega⟩
      rw [w32_id (by omega) (by omega)]
      refine ih (at2, t2) ⟨by omega, by simp only; rw [hat2, ci_0 i0 (by omega)], fun q q0 q1 => ?_, hO2t⟩
      simp only
      rw [ht2 q q0 q1]
      refine MK_cg (fun x y z x0 xy ym z0 zm => ?_) q0 q1
      by_cases g : z = n ∧ y < n ∧ (x < i ∨ (x = i ∧ y < n))
      · rw [if_pos g, if_pos (by omega)]
      · rw [if_neg g, if_neg (by omega)]
    · rintro j ⟨at2, t2⟩ hj ⟨j0, hat2, ht2, hO2t⟩ ih2
      simp only at hat2 ht2 hO2t ⊢
      have hcb := ci_b i0 (show i < j by omega) (show j ≤ n by omega) (show n ≤ 5 by omega)
      have hcc := hc (ci n i j) hcb.1 (hcb.2.2 hj)
      have e4 : t2 4 (ci n i j) = c (ci n i j) := by rw [hO2t 4 _ (by omega), hO2' 4 _ (by omega)]; exact hcc.1
      refine s_Wo_growBy_43 ⟨fun q => by omega, fun _ => ⟨by rw [kd_4], fun q => by rw [kd_4] at q; simp only at q; omega, fun _ => ⟨rd_of kd_4 (by omega) (by omega), ?_⟩⟩⟩
      rw [hat2, e4, w32_id (x := ci n i j + 1) (by omega) (by omega), w32_id (x := j + 1) (by omega) (by omega)]
      refine Wd_setMK ob_105 (mcg t2 hO2t).1 (mcg t2 hO2t).2 hpn ht2 i0 (by omega) (by omega) (by omega) (by omega) (by omega) (fun t4 ht4 hO4 => ih2 (_, t4) ⟨by omega, by simp only; rw [ci_s], fun q q0 q1 => ?_, Off_trans hO2t (Off_mono hO4 (fun b j q => by omega))⟩)
      have := ht4 q q0 q1
      rw [show (105 : Int) + 1 = 106 from rfl] at this
      simp only
      rw [this]
      refine MK_cg (fun x y z x0 xy ym z0 zm => ?_) q0 q1
      unfold w3
      by_cases g : x = i ∧ y = j ∧ z = n
      · rw [if_pos g, if_pos (by omega), g.1, g.2.1]
      · rw [if_neg g]
        show (if z = n ∧ y < n ∧ (x < i ∨ (x = i ∧ y < j)) then c (ci n x y) else T (25 * x + 5 * y + z)) = _
        by_cases g2 : z = n ∧ y < n ∧ (x < i ∨ (x = i ∧ y < j))
        · rw [if_pos g2, if_pos (by omega)]
        · rw [if_neg g2, if_neg (by omega)]
  · have := hM2.2.2 q q0 q1
    rw [show (105 : Int) + 1 = 106 from rfl] at this
    simp only
    rw [this, lyd_0 hT (by omega) c4 q0 q1]
    refine MK_cg (fun x y z x0 xy ym z0 zm => ?_) q0 q1
    rw [if_neg (by omega)]
theorem Wo_join_s {a b p n p2 n2 : Int} {T T2 : Int → Int} (hW : WD σ a p n T) (ha : a ≤ 20) (hB : WD σ b p2 n2 T2) (hb : b ≤ 20) (hab : a ≠ b ∧ a + 1 ≠ b ∧ b + 1 ≠ a) (h5 : p ≠ p2 → Q 5 σ) (h7 : p = p2 → ¬ PN p (n + n2) → Q 7 σ) (h : p = p2 → PN p (n + n2) → ∀ σ', WN σ' a p (n + n2) (SUM2 n n2 T T2) → Off (fun c j => (c = a ∧ (j = 1 ∨ j = 2)) ∨ c = a + 1 ∨ (c = 105 ∧ (j = 1 ∨ j = 2)) ∨ c = 106) σ σ' → Q 0 σ') : Tri (d + 4) M_Wo_join [vA 104, vA a, vA b] σ Q := by
  obtain ⟨b1, b2, b3, b4⟩ := hW.pn.b
  obtain ⟨c1, c2, c3, c4⟩ := hB.pn.b
  obtain ⟨ho, hp, hn, _, hT⟩ := id hW
  obtain ⟨hob, hpb, hnb, _, hTb⟩ := id hB
  obtain ⟨kw1, _, _⟩ := kd_world ho
  obtain ⟨kw2, _, _⟩ := kd_world hob
  have hq : PN p n := hW.pn
  refine t_Wo_join ⟨ho, hob, fun q => ⟨ho, hob, ho, ?_⟩, fun q => h5 (by rw [hp, hpb] at q; exact q)⟩
  rw [hp, hpb] at q
  rw [hp, hn, hnb, w32_id (by omega) (by omega)]
  have go : ∀ r, (PN p (n + n2) ↔ n + n2 ≤ r) → (n + n2 ≤ r → obok 10 a ∧ obok 10 a ∧ obok 10 b ∧ Tri (d + 3) M_Wd_makeEmpty [vA 105, vI (σ a 1), vI (w32 (σ a 2 + σ b 2))] σ (fun r4 σ4 => Tri (d + 3) M_Wo_layInto [vA 104, vA a, vI 0] σ4 (fun r5 σ5 => obok 10 a ∧ Tri (d + 3) M_Wo_layInto [vA 104, vA b, vI (σ5 a 2)] σ5 (fun r6 σ6 => obok 10 a ∧ Tri (d + 3) M_Wd_copyFrom [vA a, vA 105] σ6 (fun r7 σ7 => Q 0 σ7))))) ∧ (r < n + n2 → Q 7 σ) := fun r hr => by
    refine ⟨fun z => ⟨ho, ho, hob, ?_⟩, fun z => h7 q (fun y => by have := hr.mp y; omega)⟩
    have hpn := hr.mpr z
    obtain ⟨e1, e2, e3, e4⟩ := hpn.b
    rw [hp, hn, hnb, w32_id (by omega) (by omega)]
    refine Wd_empty_s hpn (fun s1 hM1 hO1 => ?_)
    have hW1 : WD s1 a p n T := hW.cg (fun k => hO1 a k (by omega)) (fun k => hO1 (a + 1) k (by omega))
    refine Wo_layInto_s hW1 ha hM1 hpn (by omega) (by omega) (fun s2 hM2 hO2 => ⟨ho, ?_⟩)
    have hB2 : WD s2 b p n2 T2 := by
      have := hB.cg (σ' := s2) (fun k => (hO2 b k (by omega)).trans (hO1 b k (by omega))) (fun k => (hO2 (b + 1) k (by omega)).trans (hO1 (b + 1) k (by omega)))
      rw [← q] at this; exact this
    have hn2' : s2 a 2 = n := ((hO2 a 2 (by omega)).trans (hO1 a 2 (by omega))).trans hn
    rw [hn2']
    refine Wo_layInto_s hB2 hb hM2 hpn (by omega) (by omega) (fun s3 hM3 hO3 => ⟨ho, Wd_back_s (v := SUM2 n n2 T T2) ho ha ⟨hM3.1, hM3.2.1, fun t t0 t1 => ?_⟩ (fun s4 hN hO4 => h q hpn s4 hN ?_)⟩)
    · rw [hM3.2.2 t t0 t1]
      refine MK_cg (fun x y z x0 xy ym z0 zm => ?_) t0 t1
      unfold SUM2 lyd
      by_cases g : n ≤ x ∧ n ≤ z ∧ y < n + n2 ∧ z < n + n2
      · rw [if_pos g, if_pos g]
      · rw [if_neg g, if_neg g]
        by_cases g2 : (0 : Int) ≤ x ∧ 0 ≤ z ∧ y < 0 + n ∧ z < 0 + n
        · rw [if_pos g2]; congr 1; omega
        · rw [if_neg g2]; exact (hT.2.2.2.2 x y z x0 (by omega) (by omega) (by omega) z0 (by omega) (by omega)).symm
    · exact Off_trans (Off_mono hO1 (fun b j q => by omega)) (Off_trans (Off_mono hO2 (fun b j q => by omega)) (Off_trans (Off_mono hO3 (fun b j q => by omega)) (Off_mono hO4 (fun b j q => by omega))))
  refine X_sizeLimit_s (fun z => go 5 ?_) (fun z => go 5 ?_) (fun z => go 4 ?_) (fun z => go 3 ?_) (fun z => by unfold PN at hq; omega) <;> (unfold PN; constructor <;> intro y <;> omega)
theorem Wo_squeezeBy_s {a p n : Int} {T wt : Int → Int} (hW : WD σ a p n T) (ha : a ≤ 20) (ha4 : a ≠ 4 ∧ a + 1 ≠ 4) (hw : ∀ q, 0 ≤ q → q < n → σ 4 q = wt q ∧ -20 ≤ wt q ∧ wt q ≤ 20) (h1 : SQok n T wt → ∀ σ', WN σ' a p n (SQZ T wt) → Off (fun b j => (b = a ∧ (j = 1 ∨ j = 2)) ∨ b = a + 1 ∨ (b = 105 ∧ (j = 1 ∨ j = 2)) ∨ b = 106) σ σ' → Q 1 σ') (h0 : ¬ SQok n T wt → ∀ σ', Off (fun b j => (b = 105 ∧ (j = 1 ∨ j = 2)) ∨ b = 106) σ σ' → Q 0 σ') : Tri (d + 3) M_Wo_squeezeBy [vA 104, vA a, vA 4] σ Q := by
  obtain ⟨b1, b2, b3, b4⟩ := hW.pn.b
  obtain ⟨ho, hp, hn, hTe, hT⟩ := id hW
  obtain ⟨kw1, _, _⟩ := kd_world ho
  refine t_Wo_squeezeBy (Wd_copyFrom_s ob_105 ho ?_)
  generalize hs1 : cpy (up (up σ 105 1 (σ a 1)) 105 2 (σ a 2)) (a + 1) 0 (105 + 1) 0 125 = s1
  have hO1 : Off (fun b j => (b = 105 ∧ (j = 1 ∨ j = 2)) ∨ b = 106) σ s1 := fun b j hb => by rw [← hs1, cpy_ne (by omega), up_ne (by omega), up_ne (by omega)]
  have m1 : s1 105 1 = p := by rw [← hs1, cpy_ne (by omega), up_ne (by omega), up_same]; exact hp
  have m2 : s1 105 2 = n := by rw [← hs1, cpy_ne (by omega), up_same]; exact hn
  have m3 : ∀ q, 0 ≤ q → q < 125 → s1 106 q = T q := fun q q0 q1 => by
    rw [← hs1, show (105 : Int) + 1 = 106 from rfl, cpy_in (by omega) (by omega), up_ne (by omega), up_ne (by omega), show (0 : Int) + (q - 0) = q by omega, hTe]
  have wcg : ∀ t, Off (fun b j => b = 106) s1 t → WD t a p n T := fun t ht => hW.cg (fun k => (ht a k (by omega)).trans (hO1 a k (by omega))) (fun k => (ht (a + 1) k (by omega)).trans (hO1 (a + 1) k (by omega)))
  have mcg : ∀ t, Off (fun b j => b = 106) s1 t → t 105 1 = p ∧ t 105 2 = n := fun t ht => ⟨(ht 105 1 (by omega)).trans m1, (ht 105 2 (by omega)).trans m2⟩
  have e4 : ∀ t, Off (fun b j => b = 106) s1 t → ∀ q, 0 ≤ q → q < n → t 4 q = wt q := fun t ht q q0 q1 => by rw [ht 4 q (by omega), hO1 4 q (by omega)]; exact (hw q q0 q1).1
  refine loop_up (P := fun i t => L (d + 3) M_Wo_squeezeBy 10 [vA 104, vA a, vA 4, vI i, vU, vU, vU] [] t Q)
    (fun i t => 0 ≤ i ∧ (∀ q, 0 ≤ q → q < 125 → t 106 q = MK p n (wl (SQZ T wt) (fun x y z => T (25 * x + 5 * y + z)) i (i + 1) 0) q) ∧ (∀ x y z, 0 ≤ x → x < i → x < y → y < n → 0 ≤ z → z < n → ¬ (T (25 * x + 5 * y + z) ≠ 0 ∧ wt x + wt y - wt z < 0)) ∧ Off (fun b j => b = 106) s1 t) n ?_ ?_ 0 (by omega) s1 ⟨by omega, fun q q0 q1 => by rw [m3 q q0 q1, wl_0 q0 q1, MK_self hT (Int.le_refl _) q0 q1], fun x y z _ _ => by omega, Off_rfl⟩
  · rintro t ⟨_, ht, hok, hO⟩
    have e2 := (wcg t hO).2.2.1
    refine s_Wo_squeezeBy_10 ⟨ho, fun _ => ⟨ho, Wd_back_s (v := SQZ T wt) ho ha ⟨(mcg t hO).1, (mcg t hO).2, fun q q0 q1 => ?_⟩ (fun t2 hN hO2 => h1 (fun i j k i0 ij jn k0 kn => hok i j k i0 (by omega) ij jn k0 kn) t2 hN ?_)⟩, fun q => by omega⟩
    · show t 106 q = _
      rw [ht q q0 q1]; exact wl_m (Int.le_refl _) q0 q1
    · exact Off_trans (Off_mono hO1 (fun b j q => by omega)) (Off_trans (Off_mono hO (fun b j q => by omega)) (Off_mono hO2 (fun b j q => by omega)))
  · rintro i t hi ⟨i0, ht, hok, hO⟩ ih
    have e2 := (wcg t hO).2.2.1
    refine s_Wo_squeezeBy_10 ⟨ho, fun q => by omega, fun _ => ?_⟩
    rw [w32_id (by omega) (by omega)]
    refine loop_up (P := fun j t => L (d + 3) M_Wo_squeezeBy 23 [vA 104, vA a, vA 4, vI i, vI j, vU, vU] [] t Q)
      (fun j t => i + 1 ≤ j ∧ (∀ q, 0 ≤ q → q < 125 → t 106 q = MK p n (wl (SQZ T wt) (fun x y z => T (25 * x + 5 * y + z)) i j 0) q) ∧ (∀ y z, i < y → y < j → 0 ≤ z → z < n → ¬ (T (25 * i + 5 * y + z) ≠ 0 ∧ wt i + wt y - wt z < 0)) ∧ Off (fun b j => b = 106) s1 t) n ?_ ?_ (i + 1) (by omega) t ⟨by omega, ht, fun y z _ _ => by omega, hO⟩
    · rintro t2 ⟨_, ht2, hok2, hO2⟩
      have e2 := (wcg t2 hO2).2.2.1
      refine s_Wo_squeezeBy_23 ⟨ho, fun _ => ?_, fun q => by omega⟩
      rw [w32_id (by omega) (by omega)]
      refine ih t2 ⟨by omega, fun q q0 q1 => by rw [ht2 q q0 q1]; exact wl_j (Int.le_refl _) q0 q1, fun x y z x0 x1 xy yn z0 zn => ?_, hO2⟩
      by_cases g : x = i
      · subst g; exact hok2 y z xy yn z0 zn
      · exact hok x y z x0 (by omega) xy yn z0 zn
    · rintro j t2 hj ⟨j0, ht2, hok2, hO2⟩ ih2
      have e2 := (wcg t2 hO2).2.2.1
      refine s_Wo_squeezeBy_23 ⟨ho, fun q => by omega, fun _ => ?_⟩
      refine loop_up (P := fun k t => L (d + 3) M_Wo_squeezeBy 35 [vA 104, vA a, vA 4, vI i, vI j, vI k, vU] [] t Q)
        (fun k t => 0 ≤ k ∧ (∀ q, 0 ≤ q → q < 125 → t 106 q = MK p n (wl (SQZ T wt) (fun x y z => T (25 * x + 5 * y + z)) i j k) q) ∧ (∀ z, 0 ≤ z → z < k → ¬ (T (25 * i + 5 * j + z) ≠ 0 ∧ wt i + wt j - wt z < 0)) ∧ Off (fun b j => b = 106) s1 t) n ?_ ?_ 0 (by omega) t2 ⟨by omega, ht2, fun z _ _ => by omega, hO2⟩
      · rintro t3 ⟨_, ht3, hok3, hO3⟩
        have e2 := (wcg t3 hO3).2.2.1
        refine s_Wo_squeezeBy_35 ⟨ho, fun _ => ?_, fun q => by omega⟩
        rw [w32_id (by omega) (by omega)]
        refine ih2 t3 ⟨by omega, fun q q0 q1 => by rw [ht3 q q0 q1]; exact wl_k (Int.le_refl _) q0 q1, fun y z y0 y1 z0 zn => ?_, hO3⟩
        by_cases g : y = j
        · subst g; exact hok3 z z0 zn
        · exact hok2 y z y0 (by omega) z0 zn
      · rintro k t3 hk ⟨k0, ht3, hok3, hO3⟩ ih3
        have hW3 := wcg t3 hO3
        have e2 := hW3.2.2.1
        have w1 := hw i i0 hi
        have w2 := hw j (by omega) hj
        have w3' := hw k k0 hk
        have next : ¬ (T (25 * i + 5 * j + k) ≠ 0 ∧ wt i + wt j - wt k < 0) → ∀ t4, (∀ q, 0 ≤ q → q < 125 → t4 106 q = MK p n (wl (SQZ T wt) (fun x y z => T (25 * x + 5 * y + z)) i j (k + 1)) q) → Off (fun b j => b = 106) s1 t4 → L (d + 3) M_Wo_squeezeBy 35 [vA 104, vA a, vA 4, vI i, vI j, vI (w32 (k + 1)), vU] [] t4 Q := fun hno t4 h4 hO4 => by
          rw [w32_id (by omega) (by omega)]
          refine ih3 t4 ⟨by omega, h4, fun z z0 z1 => ?_, hO4⟩
          by_cases g : z = k
          · subst g; exact hno
          · exact hok3 z z0 (by omega)
        have at78 : ¬ (T (25 * i + 5 * j + k) ≠ 0 ∧ wt i + wt j - wt k < 0) → L (d + 3) M_Wo_squeezeBy 78 [vA 104, vA a, vA 4, vI i, vI j, vI k, vI (wt i + wt j - wt k)] [] t3 Q := fun hno => by
          refine s_Wo_squeezeBy_78 ⟨fun q => next hno t3 (fun r r0 r1 => ?_) hO3, fun q => ?_⟩
          · rw [ht3 r r0 r1, ← wl_next, MK_w3 i0 (by omega) hj k0 hk b4 r0 r1]
            have hv : SQZ T wt i j k = T (25 * i + 5 * j + k) := by unfold SQZ; rw [if_neg (by omega)]
            have hTb := hT.2.1 (25 * i + 5 * j + k) (by omega) (by omega)
            by_cases g : r = 25 * j + 5 * i + k
            · rw [if_pos g, g, MK_at (by omega) (by omega) (by omega) (by omega) k0 (by omega), if_neg (by omega), if_pos (by omega), hv]
              show (-(if i < i ∨ (i = i ∧ (j < j ∨ (j = j ∧ k < k))) then _ else T (25 * i + 5 * j + k))) % p = _
              rw [if_neg (by omega)]
            · rw [if_neg g]
              by_cases g2 : r = 25 * i + 5 * j + k
              · rw [if_pos g2, g2, MK_at (by omega) (by omega) (by omega) (by omega) k0 (by omega), if_pos (by omega), hv]
                show (if i < i ∨ (i = i ∧ (j < j ∨ (j = j ∧ k < k))) then _ else T (25 * i + 5 * j + k)) % p = _
                rw [if_neg (by omega)]
              · rw [if_neg g2]
          · refine Wd_setMK ob_105 (mcg t3 hO3).1 (mcg t3 hO3).2 hW.pn ht3 i0 (by omega) hj k0 hk (by omega) (fun t4 ht4 hO4 => next hno t4 (fun r r0 r1 => ?_) (Off_trans hO3 (Off_mono hO4 (fun b j q => by omega))))
            have := ht4 r r0 r1
            rw [show (105 : Int) + 1 = 106 from rfl] at this
            rw [this, ← wl_next]
            have hv : SQZ T wt i j k = 0 := by unfold SQZ; rw [if_pos q]
            rw [hv]
        refine s_Wo_squeezeBy_35 ⟨ho, fun q => by omega, fun _ => ?_⟩
        rw [e4 t3 hO3 i i0 hi, e4 t3 hO3 j (by omega) hj, e4 t3 hO3 k k0 hk, w32_id (x := wt i + wt j) (by omega) (by omega), w32_id (x := wt i + wt j - wt k) (by omega) (by omega)]
        refine ⟨rd_of kd_4 i0 (by omega), rd_of kd_4 (by omega) (by omega), rd_of kd_4 k0 (by omega), fun q => at78 (by omega), fun q => ⟨ho, hW3.cell ⟨i0, hi⟩ ⟨by omega, hj⟩ ⟨k0, hk⟩ ⟨fun z => at78 (by omega), fun z => h0 (fun hok' => hok' i j k i0 (by omega) hj k0 hk ⟨z, q⟩) t3 (Off_trans hO1 (Off_mono hO3 (fun b j q => by omega)))⟩⟩⟩
end SHP
