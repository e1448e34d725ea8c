/-! ===== the class's search for MAPS ===== -/
def imx (p : Int) (xs : Int → Int) (i k : Int) : Int := dg p (xs i) k
def mtr (p n : Int) (T2 v : Int → Int) (b k : Int) : Int := sR (fun a => v a * T2 (25 * a + 5 * b + k)) 0 n % p
theorem mtr_b {p n b k : Int} {T2 v : Int → Int} (hp : 2 ≤ p) : 0 ≤ mtr p n T2 v b k ∧ mtr p n T2 v b k < p := ⟨Int.emod_nonneg _ (by omega), Int.emod_lt_of_pos _ (by omega)⟩
theorem br_mtr {p n k : Int} {T2 u v : Int → Int} : sR (fun b => v b * mtr p n T2 u b k) 0 n % p = br p n T2 u v k := by
  unfold br
  rw [sR_swap]
  apply sR_mod
  intro b _ _
  obtain ⟨q, hq⟩ := emod_ex (sR (fun a => u a * T2 (25 * a + 5 * b + k)) 0 n) p
  show v b * (sR (fun a => u a * T2 (25 * a + 5 * b + k)) 0 n % p) % p = _
  rw [hq, Int.mul_add, ← sR_mul]
  refine emod_cg (q := v b * q) ?_
  have : sR (fun a => v b * (u a * T2 (25 * a + 5 * b + k))) 0 n = sR (fun a => u a * v b * T2 (25 * a + 5 * b + k)) 0 n := sR_congr (fun a _ _ => by grind)
  rw [this]; grind
/-- the class's address of a WORLD that may be searched -/
def wad (a : Int) : Prop := a ≤ 20 ∨ a = 84 ∨ a = 86
/-- what the search may change -/
def DL (b j : Int) : Prop := (b = 78 ∧ j ≤ 2) ∨ (79 ≤ b ∧ b ≤ 82) ∨ (89 ≤ b ∧ b ≤ 103 ∧ ((b = 89 ∨ b = 92 ∨ b = 95 ∨ b = 98 ∨ b = 101) → 3 ≤ j))
section LOOK
variable {d : Nat} {σ : SG} {Q : Int → SG → Prop}
theorem WD.dl {σ σ' : SG} {a p n : Int} {T : Int → Int} (h : WD σ a p n T) (ha : wad a) (hO : Off DL σ σ') : WD σ' a p n T := by
  obtain ⟨h0, _, _⟩ := kd_world h.1
  unfold wad at ha
  exact h.cg (fun k => hO a k (by unfold DL; omega)) (fun k => hO (a + 1) k (by unfold DL; omega))
theorem ST.dl {σ σ' : SG} (h : ST σ) (hO : Off DL σ σ') : ST σ' := h.off hO (fun e h' => by have := ech_list h'; unfold DL; omega)
theorem Ma_noteDue_s {a p n : Int} {T : Int → Int} (hW : WD σ a p n T) (ha : wad a) (h : ∀ σ', (∀ i j, 0 ≤ i → i < j → j < n → due n T i j (σ' 81 (5 * i + j))) → Off (fun b j => b = 81) σ σ' → Q 0 σ') : Tri (d + 2) M_Ma_noteDue [vA 78, vA a] σ Q := by
  obtain ⟨b1, b2, b3, b4⟩ := hW.pn.b
  obtain ⟨ho, hp, hn, _, hT⟩ := id hW
  have wcg : ∀ t, Off (fun b j => b = 81) σ t → WD t a p n T := fun t ht => hW.dl ha (Off_mono ht (fun b j q => by unfold DL; omega))
  refine t_Ma_noteDue ?_
  refine loop_up (P := fun i t => L (d + 2) M_Ma_noteDue 2 [vA 78, vA a, vI i, vU, vU, vU] [] t Q)
    (fun i t => 0 ≤ i ∧ (∀ i' j, 0 ≤ i' → i' < i → i' < j → j < n → due n T i' j (t 81 (5 * i' + j))) ∧ Off (fun b j => b = 81) σ t) n ?_ ?_ 0 (by omega) σ ⟨by omega, fun i' j _ _ => by omega, Off_rfl⟩
  · rintro t ⟨_, hd, hO⟩
    have e2 := (wcg t hO).2.2.1
    exact s_Ma_noteDue_2 ⟨ho, fun _ => h t (fun i j i0 ij jn => hd i j i0 (by omega) ij jn) hO, fun q => by omega⟩
  · rintro i t hi ⟨i0, hd, hO⟩ ih
    have e2 := (wcg t hO).2.2.1
    refine s_Ma_noteDue_2 ⟨ho, fun q => by omega, fun _ => ?_⟩
    rw [w32_id (by omega) (by omega)]
    refine loop_up (P := fun j t => L (d + 2) M_Ma_noteDue 14 [vA 78, vA a, vI i, vI j, vU, vU] [] t Q)
      (fun j t => i + 1 ≤ j ∧ (∀ i' j', 0 ≤ i' → i' < j' → j' < n → (i' < i ∨ (i' = i ∧ j' < j)) → due n T i' j' (t 81 (5 * i' + j'))) ∧ Off (fun b j => b = 81) σ t) n ?_ ?_ (i + 1) (by omega) t ⟨by omega, fun i' j' q0 q1 q2 q3 => hd i' j' q0 (by omega) q1 q2, hO⟩
    · rintro t2 ⟨_, hd2, hO2⟩
      have e2 := (wcg t2 hO2).2.2.1
      refine s_Ma_noteDue_14 ⟨ho, fun _ => ?_, fun q => by omega⟩
      rw [w32_id (by omega) (by omega)]
      exact ih t2 ⟨by omega, fun i' j q0 q1 q2 q3 => hd2 i' j q0 q2 q3 (by omega), hO2⟩
    · rintro j t2 hj ⟨j0, hd2, hO2⟩ ih2
      have hW2 := wcg t2 hO2
      have e2 := hW2.2.2.1
      refine s_Ma_noteDue_14 ⟨ho, fun q => by omega, fun _ => ?_⟩
      rw [w32_id (by omega) (by omega)]
      refine loop_up (P := fun k dv => L (d + 2) M_Ma_noteDue 30 [vA 78, vA a, vI i, vI j, vI dv, vI k] [] t2 Q)
        (fun k dv => j + 1 ≤ k ∧ j ≤ dv ∧ dv < k ∧ (∀ q, dv < q → q < k → T (25 * i + 5 * j + q) = 0) ∧ (dv = j ∨ T (25 * i + 5 * j + dv) ≠ 0)) n ?_ ?_ (j + 1) (by omega) j ⟨by omega, by omega, by omega, fun q _ _ => by omega, Or.inl rfl⟩
      · rintro dv ⟨_, h1, h2, h3, h4⟩
        refine s_Ma_noteDue_30 ⟨ho, fun _ => ?_, fun q => by omega⟩
        rw [w32_id (x := i * 5) (by omega) (by omega), w32_id (x := i * 5 + j) (by omega) (by omega), w32_id (x := j + 1) (by omega) (by omega)]
        refine ⟨⟨by omega, by omega⟩, fun t3 e3 => ih2 t3 ⟨by omega, fun i' j' q0 q1 q2 q3 => ?_, fun b k hb => by rw [e3, up_ne (by omega)]; exact hO2 b k hb⟩⟩
        by_cases g : i' = i ∧ j' = j
        · rw [g.1, g.2, e3, show 5 * i + j = i * 5 + j by omega, up_same]
          exact ⟨h1, h2, fun k k0 k1 => h3 k k0 k1, h4⟩
        · rw [e3, up_ne (by omega)]; exact hd2 i' j' q0 q1 q2 (by omega)
      · rintro k dv hk ⟨k0, h1, h2, h3, h4⟩ ih3
        refine s_Ma_noteDue_30 ⟨ho, fun q => by omega, fun _ => ⟨ho, hW2.cell ⟨i0, hi⟩ ⟨by omega, hj⟩ ⟨by omega, hk⟩ ⟨fun q => ?_, fun q => ?_⟩⟩⟩
        · rw [w32_id (by omega) (by omega)]
          refine ih3 dv ⟨by omega, h1, by omega, fun r r0 r1 => ?_, h4⟩
          by_cases g : r = k
          · subst g; exact q
          · exact h3 r r0 (by omega)
        · rw [w32_id (by omega) (by omega)]
          exact ih3 k ⟨by omega, by omega, by omega, fun r r0 r1 => by omega, Or.inr q⟩
theorem Ma_startLevel_s {l : Int} (l0 : 0 ≤ l) (l1 : l < 5) (h : ∀ σ', σ' 82 l = 0 → (∀ k, 0 ≤ k → k < 5 → σ' 79 (5 * l + k) = 0) → Off (fun b j => (b = 82 ∧ j = l) ∨ (b = 79 ∧ 5 * l ≤ j ∧ j < 5 * l + 5)) σ σ' → Q 0 σ') : Tri (d + 3) M_Ma_startLevel [vA 78, vI l] σ Q := by
  refine t_Ma_startLevel (fun _ => ⟨⟨l0, l1⟩, fun s1 e1 => ?_⟩)
  rw [w32_id (x := l * 5) (by omega) (by omega), w32_id (by omega) (by omega)]
  refine JA_fillR_s (by omega) kd_79 (by omega) (by omega) (by omega) (h _ ?_ (fun k k0 k1 => ?_) (fun b j hb => ?_))
  · rw [fil_ne (by omega), e1, up_same]
  · rw [fil_in (by omega) (by omega)]
  · rw [fil_ne (by omega), e1, up_ne (by omega)]
theorem Ma_turnImage_s {b p n l x : Int} {T : Int → Int} (hW : WD σ b p n T) (hb : wad b) (l0 : 0 ≤ l) (l1 : l < 5) (x0 : 0 ≤ x) (x1 : x + 1 < p ^ n.toNat) (hi : ∀ k, 0 ≤ k → k < n → σ 79 (5 * l + k) = dg p x k) (h : ∀ σ', (∀ k, 0 ≤ k → k < n → σ' 79 (5 * l + k) = dg p (x + 1) k) → Off (fun b j => b = 79 ∧ 5 * l ≤ j ∧ j < 5 * l + n) σ σ' → Q 0 σ') : Tri (d + 1) M_Ma_turnImage [vA 78, vA b, vI l] σ Q := by
  obtain ⟨b1, b2, b3, b4⟩ := hW.pn.b
  obtain ⟨ho, hp, hn, _, hT⟩ := id hW
  have wcg : ∀ t, Off (fun b j => b = 79 ∧ 5 * l ≤ j ∧ j < 5 * l + n) σ t → WD t b p n T := fun t ht => hW.dl hb (Off_mono ht (fun b j q => by unfold DL; omega))
  refine t_Ma_turnImage (fun _ => ?_)
  rw [w32_id (x := l * 5) (by omega) (by omega)]
  refine loop_up (P := fun k t => L (d + 1) M_Ma_turnImage 4 [vA 78, vA b, vI l, vI k] [] t Q)
    (fun k t => 5 * l ≤ k ∧ x % p ^ (k - 5 * l).toNat = p ^ (k - 5 * l).toNat - 1 ∧ (∀ q, 0 ≤ q → q < n → t 79 (5 * l + q) = if 5 * l + q < k then 0 else dg p x q) ∧ Off (fun b j => b = 79 ∧ 5 * l ≤ j ∧ j < 5 * l + n) σ t) (5 * l + n) ?_ ?_ (l * 5) (by omega) σ ⟨by omega, by rw [show l * 5 - 5 * l = 0 by omega]; simp, fun q q0 q1 => by rw [if_neg (by omega)]; exact hi q q0 q1, Off_rfl⟩
  · rintro t ⟨_, hx, _, hO⟩
    exfalso
    rw [show 5 * l + n - 5 * l = n by omega] at hx
    have := dg_end b1 x0 (show x < p ^ n.toNat by omega) hx
    omega
  · rintro k t hk ⟨k0, hx, ht, hO⟩ ih
    have hWt := wcg t hO
    have e2 := hWt.2.2.1
    have hcur : t 79 k = dg p x (k - 5 * l) := by
      have := ht (k - 5 * l) (by omega) (by omega)
      rw [show 5 * l + (k - 5 * l) = k by omega, if_neg (by omega)] at this
      exact this
    have hd := dg_in (p := p) (x := x) (k := k - 5 * l) b1
    obtain ⟨s1, s2⟩ := dg_step b1 x0 (show 0 ≤ k - 5 * l by omega) hx
    refine s_Ma_turnImage_4 ⟨ho, fun q => by rw [e2, w32_id (x := l * 5) (by omega) (by omega), w32_id (by omega) (by omega)] at q; omega, fun _ => ⟨⟨by omega, by omega⟩, ⟨by omega, by omega⟩, fun t2 e => ⟨⟨by omega, by omega⟩, ho, ?_⟩⟩⟩
    rw [hcur, w32_id (by omega) (by omega)] at e
    have e1 : t2 b 1 = p := by rw [e, up_ne (by have := kd_world ho; unfold wad at hb; omega)]; exact hWt.2.1
    have ek : t2 79 k = dg p x (k - 5 * l) + 1 := by rw [e, up_same]
    rw [e1, ek]
    refine ⟨fun q => ⟨⟨by omega, by omega⟩, fun t4 e4 => ?_⟩, fun q => ?_⟩
    · rw [w32_id (by omega) (by omega)]
      refine ih t4 ⟨by omega, ?_, fun r r0 r1 => ?_, fun b' j hb' => by rw [e4, up_ne (by omega), e, up_ne (by omega)]; exact hO b' j hb'⟩
      · rw [show k + 1 - 5 * l = k - 5 * l + 1 by omega]; exact s2 q
      · by_cases g : 5 * l + r = k
        · rw [g, e4, up_same, if_pos (by omega)]
        · rw [e4, up_ne (by omega), e, up_ne (by omega), ht r r0 r1]
          by_cases g2 : 5 * l + r < k
          · rw [if_pos g2, if_pos (by omega)]
          · rw [if_neg g2, if_neg (by omega)]
    · obtain ⟨d1, d2, d3⟩ := s1 q
      refine h t2 (fun r r0 r1 => ?_) (fun b' j hb' => by rw [e, up_ne (by omega)]; exact hO b' j hb')
      by_cases g : 5 * l + r = k
      · rw [g, ek, show r = k - 5 * l by omega, d2]
      · rw [e, up_ne (by omega), ht r r0 r1]
        by_cases g2 : 5 * l + r < k
        · rw [if_pos g2, d1 r r0 (by omega)]
        · rw [if_neg g2, d3 r (by omega)]
theorem Ma_agrees_s {a b p n i j l : Int} {T1 T2 xs : Int → Int} (hA : WD σ a p n T1) (hB : WD σ b p n T2) (i0 : 0 ≤ i) (ij : i < j) (jl : j ≤ l) (ln : l < n) (hdue : σ 81 (5 * i + j) = l) (him : ∀ i k, 0 ≤ i → i ≤ l → 0 ≤ k → k < n → σ 79 (5 * i + k) = dg p (xs i) k) (hmt : ∀ b k, 0 ≤ b → b < n → 0 ≤ k → k < n → σ 80 (25 * i + 5 * b + k) = mtr p n T2 (dg p (xs i)) b k)
    (h1 : AG p n T1 T2 xs i j l → Q 1 σ) (h0 : ¬ AG p n T1 T2 xs i j l → Q 0 σ) : Tri (d + 2) M_Ma_agrees [vA 78, vA a, vA b, vI i, vI j] σ Q := by
  obtain ⟨b1, b2, b3, b4⟩ := hA.pn.b
  obtain ⟨ho, hp, hn, hTe, hT⟩ := id hA
  obtain ⟨hob, hpb, hnb, _, hT2⟩ := id hB
  obtain ⟨_, hka, _⟩ := kd_world ho
  have hdg : ∀ x k, 0 ≤ dg p x k ∧ dg p x k < p := fun x k => dg_in b1
  -- a part of it
  have part : ∀ k, 0 ≤ k → k < n → ((sR (fun q => dg p (xs j) q * mtr p n T2 (dg p (xs i)) q k) 0 n - sR (fun q => T1 (25 * i + 5 * j + q) * dg p (xs q) k) 0 (l + 1)) % p = 0 ↔ br p n T2 (dg p (xs i)) (dg p (xs j)) k = sR (fun q => T1 (25 * i + 5 * j + q) * dg p (xs q) k) 0 (l + 1) % p) := fun k k0 k1 => by
    rw [← br_mtr]
    constructor
    · intro g
      obtain ⟨q, hq⟩ := Int.dvd_of_emod_eq_zero g
      exact emod_cg (q := q) (by omega)
    · intro g
      apply Int.emod_eq_zero_of_dvd
      have h1 := Int.emod_add_mul_ediv (sR (fun q => dg p (xs j) q * mtr p n T2 (dg p (xs i)) q k) 0 n) p
      have h2 := Int.emod_add_mul_ediv (sR (fun q => T1 (25 * i + 5 * j + q) * dg p (xs q) k) 0 (l + 1)) p
      exact ⟨sR (fun q => dg p (xs j) q * mtr p n T2 (dg p (xs i)) q k) 0 n / p - sR (fun q => T1 (25 * i + 5 * j + q) * dg p (xs q) k) 0 (l + 1) / p, by rw [Int.mul_sub]; omega⟩
  refine t_Ma_agrees (fun _ _ => ?_)
  rw [w32_id (x := i * 5) (by omega) (by omega), w32_id (x := i * 5 + j) (by omega) (by omega), w32_id (x := (i * 5 + j) * 5) (by omega) (by omega), show i * 5 + j = 5 * i + j by omega, hdue]
  refine ⟨⟨by omega, by omega⟩, ?_⟩
  refine loop_up (S := Unit) (P := fun k _ => L (d + 2) M_Ma_agrees 26 [vA 78, vA a, vA b, vI i, vI j, vI l, vI ((5 * i + j) * 5), vI k, vU, vU] [] σ Q)
    (fun k _ => 0 ≤ k ∧ ∀ m, 0 ≤ m → m < k → br p n T2 (dg p (xs i)) (dg p (xs j)) m = sR (fun q => T1 (25 * i + 5 * j + q) * dg p (xs q) m) 0 (l + 1) % p) n ?_ ?_ 0 (by omega) () ⟨by omega, fun m _ _ => by omega⟩
  · rintro _ ⟨_, hall⟩
    exact s_Ma_agrees_26 ⟨hob, fun _ => h1 hall, fun q => by omega⟩
  · rintro k _ hk ⟨k0, hall⟩ ih
    refine s_Ma_agrees_26 ⟨hob, fun q => by omega, fun _ => ?_⟩
    refine loop_up (P := fun q v => L (d + 2) M_Ma_agrees 41 [vA 78, vA a, vA b, vI i, vI j, vI l, vI ((5 * i + j) * 5), vI k, vI v, vI q] [] σ Q)
      (fun q v => 0 ≤ q ∧ (0 ≤ v ∧ v ≤ 36 * q) ∧ v = sR (fun q => dg p (xs j) q * mtr p n T2 (dg p (xs i)) q k) 0 q) n ?_ ?_ 0 (by omega) 0 ⟨by omega, by omega, by rw [sR_nil (by omega)]⟩
    · rintro v ⟨_, hvb, hv⟩
      refine s_Ma_agrees_41 ⟨hob, fun _ => ?_, fun q => by omega⟩
      refine loop_up (P := fun q v => L (d + 2) M_Ma_agrees 94 [vA 78, vA a, vA b, vI i, vI j, vI l, vI ((5 * i + j) * 5), vI k, vI v, vI q] [] σ Q)
        (fun q v' => 0 ≤ q ∧ (-(36 * q) ≤ v' ∧ v' ≤ 180) ∧ v' = v - sR (fun q => T1 (25 * i + 5 * j + q) * dg p (xs q) k) 0 q) (l + 1) ?_ ?_ 0 (by omega) v ⟨by omega, by omega, by rw [sR_nil (by omega)]; omega⟩
      · rintro v' ⟨_, hvb', hv'⟩
        refine s_Ma_agrees_94 ⟨fun _ => ⟨hob, ?_⟩, fun q => by omega⟩
        rw [hpb]
        have hpt := part k k0 hk
        rw [← hv, ← hv'] at hpt
        refine X_mod_s b1 ⟨fun q => ?_, fun q => h0 (fun hA' => q (hpt.mpr (hA' k k0 hk)))⟩
        rw [w32_id (by omega) (by omega)]
        refine ih () ⟨by omega, fun m m0 m1 => ?_⟩
        by_cases g : m = k
        · subst g; exact hpt.mp q
        · exact hall m m0 (by omega)
      · rintro q v' hq ⟨q0, hvb', hv'⟩ ih3
        have hTb := hT.2.1 (25 * i + 5 * j + q) (by omega) (by omega)
        have hd := hdg (xs q) k
        have hm := mul36 b2 hTb.1 hTb.2 hd.1 hd.2
        refine s_Ma_agrees_94 ⟨fun z => by omega, fun _ => ?_⟩
        rw [w32_id (x := (5 * i + j) * 5 + q) (by omega) (by omega), w32_id (x := q * 5) (by omega) (by omega), w32_id (x := q * 5 + k) (by omega) (by omega), show (5 * i + j) * 5 + q = 25 * i + 5 * j + q by omega, show q * 5 + k = 5 * q + k by omega, hTe, him q k q0 (by omega) k0 hk, w32_id (x := T1 (25 * i + 5 * j + q) * dg p (xs q) k) (by omega) (by omega), w32_id (x := v' - T1 (25 * i + 5 * j + q) * dg p (xs q) k) (by omega) (by omega), w32_id (x := q + 1) (by omega) (by omega)]
        exact ⟨ho, rd_of hka (by omega) (by omega), ⟨by omega, by omega⟩, ih3 _ ⟨by omega, by omega, by rw [sR_succ q0, hv']; omega⟩⟩
    · rintro q v hq ⟨q0, hvb, hv⟩ ih2
      have hd := hdg (xs j) q
      have hmb := mtr_b (p := p) (n := n) (b := q) (k := k) (T2 := T2) (v := dg p (xs i)) b1
      have hm := mul36 b2 hd.1 hd.2 hmb.1 hmb.2
      refine s_Ma_agrees_41 ⟨hob, fun z => by omega, fun _ => ?_⟩
      rw [w32_id (x := j * 5) (by omega) (by omega), w32_id (x := j * 5 + q) (by omega) (by omega), w32_id (x := i * 25) (by omega) (by omega), w32_id (x := q * 5) (by omega) (by omega), w32_id (x := i * 25 + q * 5) (by omega) (by omega), w32_id (x := i * 25 + q * 5 + k) (by omega) (by omega), show j * 5 + q = 5 * j + q by omega, show i * 25 + q * 5 + k = 25 * i + 5 * q + k by omega, him j q (by omega) jl q0 hq, hmt q k q0 hq k0 hk, w32_id (x := dg p (xs j) q * mtr p n T2 (dg p (xs i)) q k) (by omega) (by omega), w32_id (x := v + dg p (xs j) q * mtr p n T2 (dg p (xs i)) q k) (by omega) (by omega), w32_id (x := q + 1) (by omega) (by omega)]
      exact ⟨⟨by omega, by omega⟩, ⟨by omega, by omega⟩, ih2 _ ⟨by omega, by omega, by rw [sR_succ q0, hv]⟩⟩
theorem ah_k {l : Int} (l0 : 0 ≤ l) (l1 : l < 5) : rdok 106 83 l ∧ obok 2 (89 + 3 * l) := by
  refine ⟨rd_of kd_83 l0 (by omega), ?_⟩
  have h : l = 0 ∨ l = 1 ∨ l = 2 ∨ l = 3 ∨ l = 4 := by omega
  rcases h with rfl | rfl | rfl | rfl | rfl
  · exact ob_89
  · exact ob_92
  · exact ob_95
  · exact ob_98
  · exact ob_101
theorem Ma_fits_s {a b p n l : Int} {T1 T2 xs : Int → Int} (hA : WD σ a p n T1) (hB : WD σ b p n T2) (ha : wad a) (hb : wad b) (l0 : 0 ≤ l) (ln : l < n) (hdue : ∀ i j, 0 ≤ i → i < j → j < n → due n T1 i j (σ 81 (5 * i + j))) (him : ∀ i k, 0 ≤ i → i ≤ l → 0 ≤ k → k < n → σ 79 (5 * i + k) = dg p (xs i) k) (hmt : ∀ i b k, 0 ≤ i → i < l → 0 ≤ b → b < n → 0 ≤ k → k < n → σ 80 (25 * i + 5 * b + k) = mtr p n T2 (dg p (xs i)) b k) (hE : EC σ (89 + 3 * l) p n (SPN p n xs l)) (hpre : ∀ k, 0 ≤ k → k < l → FIT p n T1 T2 k xs)
    (h1 : ∀ σ', FIT p n T1 T2 l xs → Off (fun b j => b = 91 + 3 * l) σ σ' → Q 1 σ') (h0 : ∀ σ', ¬ FIT p n T1 T2 l xs → Off (fun b j => b = 91 + 3 * l) σ σ' → Q 0 σ') : Tri (d + 3) M_Ma_fits [vA 78, vA a, vA b, vI l] σ Q := by
  obtain ⟨b1, b2, b3, b4⟩ := hA.pn.b
  obtain ⟨k1, k2⟩ := ah_k l0 (show l < 5 by omega)
  have hnow := FIT_now (p := p) (T2 := T2) (xs := xs) ln hdue hpre
  refine t_Ma_fits (fun _ => ⟨k1, k2, ?_⟩)
  rw [w32_id (x := l * 5) (by omega) (by omega)]
  have hv : ∀ c, 0 ≤ c → c < n → σ 79 (l * 5 + c) = dg p (xs l) c := fun c c0 c1 => by rw [show l * 5 + c = 5 * l + c by omega]; exact him l c l0 (Int.le_refl _) c0 c1
  have hin : In p n (SPN p n xs l) (fun c => σ 79 (l * 5 + c)) ↔ In p n (SPN p n xs l) (dg p (xs l)) := ⟨fun z => z.eqv hv, fun z => z.eqv (fun c c0 c1 => (hv c c0 c1).symm)⟩
  refine Ec_holds_s hE kd_79 (by omega) (by omega) (by omega) (by omega) (fun c c0 c1 => by rw [hv c c0 c1]; exact dg_in b1) (fun s hil hO => ⟨fun q => by omega, fun _ => ?_⟩) (fun s hil hO => ⟨fun _ => ?_, fun q => by omega⟩)
  · refine h0 s (fun z => (hnow.mp z).1 (hin.mp ((In_ild (by omega)).mpr hil))) (Off_mono hO (fun b j q => by omega))
  · have hO' : Off (fun b j => b = 91 + 3 * l) σ s := Off_mono hO (fun b j q => by omega)
    have hni : ¬ In p n (SPN p n xs l) (dg p (xs l)) := fun z => by have := (In_ild (show 0 ≤ n by omega)).mp (hin.mpr z); omega
    have hAs : WD s a p n T1 := hA.dl ha (Off_mono hO' (fun b j q => by unfold DL; omega))
    have hBs : WD s b p n T2 := hB.dl hb (Off_mono hO' (fun b j q => by unfold DL; omega))
    refine loop_up (S := Unit) (P := fun j _ => L (d + 3) M_Ma_fits 24 [vA 78, vA a, vA b, vI l, vI j, vU] [] s Q)
      (fun j _ => 1 ≤ j ∧ ∀ i j', 0 ≤ i → i < j' → j' < j → σ 81 (5 * i + j') = l → AG p n T1 T2 xs i j' l) (l + 1) ?_ ?_ 1 (by omega) () ⟨by omega, fun i j' _ _ _ => by omega⟩
    · rintro _ ⟨_, hall⟩
      exact s_Ma_fits_24 ⟨fun _ => h1 s (hnow.mpr ⟨hni, fun i j i0 ij jl hd => hall i j i0 ij (by omega) hd⟩) hO', fun q => by omega⟩
    · rintro j _ hj ⟨j0, hall⟩ ih
      refine s_Ma_fits_24 ⟨fun q => by omega, fun _ => ?_⟩
      refine loop_up (S := Unit) (P := fun i _ => L (d + 3) M_Ma_fits 33 [vA 78, vA a, vA b, vI l, vI j, vI i] [] s Q)
        (fun i _ => 0 ≤ i ∧ ∀ i', 0 ≤ i' → i' < i → σ 81 (5 * i' + j) = l → AG p n T1 T2 xs i' j l) j ?_ ?_ 0 (by omega) () ⟨by omega, fun i' _ _ => by omega⟩
      · rintro _ ⟨_, hi⟩
        refine s_Ma_fits_33 ⟨fun _ => ?_, fun q => by omega⟩
        rw [w32_id (by omega) (by omega)]
        refine ih () ⟨by omega, fun i j' i0 ij jj hd => ?_⟩
        by_cases g : j' = j
        · subst g; exact hi i i0 ij hd
        · exact hall i j' i0 ij (by omega) hd
      · rintro i _ hi ⟨i0, hiz⟩ ih2
        have e81 : s 81 (5 * i + j) = σ 81 (5 * i + j) := hO' 81 _ (by omega)
        refine s_Ma_fits_33 ⟨fun q => by omega, fun _ => ?_⟩
        rw [w32_id (x := i * 5) (by omega) (by omega), w32_id (x := i * 5 + j) (by omega) (by omega), w32_id (x := i + 1) (by omega) (by omega), show i * 5 + j = 5 * i + j by omega, e81]
        refine ⟨⟨by omega, by omega⟩, fun q => ih2 () ⟨by omega, fun i' q0 q1 hd => ?_⟩, fun q => ?_⟩
        · by_cases g : i' = i
          · subst g; exact absurd hd q
          · exact hiz i' q0 (by omega) hd
        · refine Ma_agrees_s (xs := xs) hAs hBs i0 hi (by omega) ln (by rw [e81]; exact q) (fun i k q0 q1 q2 q3 => by rw [hO' 79 _ (by omega)]; exact him i k q0 q1 q2 q3) (fun b k q0 q1 q2 q3 => by rw [hO' 80 _ (by omega)]; exact hmt i b k i0 (by omega) q0 q1 q2 q3) (fun hag => ⟨fun _ => ih2 () ⟨by omega, fun i' q0 q1 hd => ?_⟩, fun z => by omega⟩) (fun hag => ⟨fun z => by omega, fun _ => h0 s (fun z => hag ((hnow.mp z).2 i j i0 hi (by omega) q)) hO'⟩)
          by_cases g : i' = i
          · subst g; exact hag
          · exact hiz i' q0 (by omega) hd
theorem Ma_goDeeper_s {b p n l : Int} {T2 xs : Int → Int} (hB : WD σ b p n T2) (hb : wad b) (hST : ST σ) (l0 : 0 ≤ l) (ln : l + 1 < n) (him : ∀ k, 0 ≤ k → k < n → σ 79 (5 * l + k) = dg p (xs l) k) (hE : EC σ (89 + 3 * l) p n (SPN p n xs l))
    (h : ∀ σ', (∀ b k, 0 ≤ b → b < n → 0 ≤ k → k < n → σ' 80 (25 * l + 5 * b + k) = mtr p n T2 (dg p (xs l)) b k) → EC σ' (89 + 3 * (l + 1)) p n (SPN p n xs (l + 1)) → σ' 82 (l + 1) = 0 → (∀ k, 0 ≤ k → k < 5 → σ' 79 (5 * (l + 1) + k) = 0) → Off (fun b j => (b = 80 ∧ 25 * l ≤ j ∧ j < 25 * l + 25) ∨ (b = 92 + 3 * l ∧ 3 ≤ j) ∨ b = 93 + 3 * l ∨ b = 94 + 3 * l ∨ (b = 82 ∧ j = l + 1) ∨ (b = 79 ∧ 5 * l + 5 ≤ j ∧ j < 5 * l + 10)) σ σ' → Q 0 σ') : Tri (d + 4) M_Ma_goDeeper [vA 78, vA b, vI l] σ Q := by
  obtain ⟨b1, b2, b3, b4⟩ := hB.pn.b
  obtain ⟨ho, hp, hn, _, hT⟩ := id hB
  have wcg : ∀ t, Off (fun b j => b = 80) σ t → WD t b p n T2 := fun t ht => hB.dl hb (Off_mono ht (fun b j q => by unfold DL; omega))
  obtain ⟨k1, k2⟩ := ah_k l0 (show l < 5 by omega)
  obtain ⟨k3, k4⟩ := ah_k (show 0 ≤ l + 1 by omega) (show l + 1 < 5 by omega)
  refine t_Ma_goDeeper (fun _ => ?_)
  refine loop_up (P := fun x t => L (d + 4) M_Ma_goDeeper 2 [vA 78, vA b, vI l, vI x, vU, vU, vU] [] t Q)
    (fun x t => 0 ≤ x ∧ (∀ x' k, 0 ≤ x' → x' < x → 0 ≤ k → k < n → t 80 (25 * l + 5 * x' + k) = mtr p n T2 (dg p (xs l)) x' k) ∧ Off (fun b j => b = 80 ∧ 25 * l ≤ j ∧ j < 25 * l + 25) σ t) n ?_ ?_ 0 (by omega) σ ⟨by omega, fun x' k _ _ => by omega, Off_rfl⟩
  · rintro t ⟨_, hm, hO⟩
    have hWt := wcg t (Off_mono hO (fun b j q => q.1))
    have e2 := hWt.2.2.1
    have hSTt : ST t := hST.off hO (fun e h' => by have := ech_list h'; omega)
    have hEt : EC t (89 + 3 * l) p n (SPN p n xs l) := hE.cg (fun k => hO _ k (by omega)) (fun k => hO _ k (by omega))
    refine s_Ma_goDeeper_2 ⟨ho, fun _ => ?_, fun q => by omega⟩
    rw [w32_id (x := l + 1) (by omega) (by omega), w32_id (x := l * 5) (by omega) (by omega)]
    refine ⟨k3, k1, k4, Ec_copyFrom_s k4 (hSTt _ k4) (by rw [stl5 (by omega) (by omega)]; omega) hEt (by omega) (by omega) (by omega) (fun t2 hE2 hO2 => ⟨k3, k4, ?_⟩)⟩
    have hv : ∀ c, 0 ≤ c → c < n → t2 79 (l * 5 + c) = dg p (xs l) c := fun c c0 c1 => by rw [hO2 79 _ (by omega), hO 79 _ (by omega), show l * 5 + c = 5 * l + c by omega]; exact him c c0 c1
    refine Ec_add_s hE2 kd_79 (by omega) (by omega) (by omega) (by omega) (fun c c0 c1 => by rw [hv c c0 c1]; exact dg_in b1) (fun r t3 hE3 _ hO3 => Ma_startLevel_s (by omega) (by omega) (fun t4 h82 h79 hO4 => ?_))
    refine h t4 (fun x k x0 x1 k0 k1 => ?_) ?_ h82 h79 (fun b' j hb' => ?_)
    · rw [hO4 80 _ (by omega), hO3 80 _ (by omega), hO2 80 _ (by omega)]; exact hm x k x0 x1 k0 k1
    · have e3 : EC t3 (89 + 3 * (l + 1)) p n (SPN p n xs (l + 1)) := by
        unfold SPN
        rw [lp_succ l0]
        exact hE3.to (ESm.rfl'.insv (by omega) hv)
      exact e3.cg (fun k => hO4 _ k (by omega)) (fun k => hO4 _ k (by omega))
    · rw [hO4 b' j (by omega), hO3 b' j (by omega), hO2 b' j (by omega), hO b' j (by omega)]
  · rintro x t hx ⟨x0, hm, hO⟩ ih
    have hWt := wcg t (Off_mono hO (fun b j q => q.1))
    have e2 := hWt.2.2.1
    refine s_Ma_goDeeper_2 ⟨ho, fun q => by omega, fun _ => ?_⟩
    refine loop_up (P := fun k t => L (d + 4) M_Ma_goDeeper 13 [vA 78, vA b, vI l, vI x, vI k, vU, vU] [] t Q)
      (fun k t => 0 ≤ k ∧ (∀ x' k', 0 ≤ x' → 0 ≤ k' → k' < n → (x' < x ∨ (x' = x ∧ k' < k)) → t 80 (25 * l + 5 * x' + k') = mtr p n T2 (dg p (xs l)) x' k') ∧ Off (fun b j => b = 80 ∧ 25 * l ≤ j ∧ j < 25 * l + 25) σ t) n ?_ ?_ 0 (by omega) t ⟨by omega, fun x' k' q0 q1 q2 q3 => hm x' k' q0 (by omega) q1 q2, hO⟩
    · rintro t2 ⟨_, hm2, hO2⟩
      have e2 := (wcg t2 (Off_mono hO2 (fun b j q => q.1))).2.2.1
      refine s_Ma_goDeeper_13 ⟨ho, fun _ => ?_, fun q => by omega⟩
      rw [w32_id (by omega) (by omega)]
      exact ih t2 ⟨by omega, fun x' k' q0 q1 q2 q3 => hm2 x' k' q0 q2 q3 (by omega), hO2⟩
    · rintro k t2 hk ⟨k0, hm2, hO2⟩ ih2
      have hW2 := wcg t2 (Off_mono hO2 (fun b j q => q.1))
      have e2 := hW2.2.2.1
      refine s_Ma_goDeeper_13 ⟨ho, fun q => by omega, fun _ => ?_⟩
      refine loop_up (P := fun q v => L (d + 4) M_Ma_goDeeper 28 [vA 78, vA b, vI l, vI x, vI k, vI v, vI q] [] t2 Q)
        (fun q v => 0 ≤ q ∧ (0 ≤ v ∧ v ≤ 36 * q) ∧ v = sR (fun a => dg p (xs l) a * T2 (25 * a + 5 * x + k)) 0 q) n ?_ ?_ 0 (by omega) 0 ⟨by omega, by omega, by rw [sR_nil (by omega)]⟩
      · rintro v ⟨_, hvb, hv⟩
        refine s_Ma_goDeeper_28 ⟨ho, fun _ => ⟨ho, ?_⟩, fun q => by omega⟩
        rw [hW2.2.1, w32_id (x := l * 25) (by omega) (by omega), w32_id (x := x * 5) (by omega) (by omega), w32_id (x := l * 25 + x * 5) (by omega) (by omega), w32_id (x := l * 25 + x * 5 + k) (by omega) (by omega), w32_id (x := k + 1) (by omega) (by omega), show l * 25 + x * 5 + k = 25 * l + 5 * x + k by omega]
        refine X_mod_s b1 ⟨⟨by omega, by omega⟩, fun t3 e3 => ih2 t3 ⟨by omega, fun x' k' q0 q1 q2 q3 => ?_, fun b' j hb' => by rw [e3, up_ne (by omega)]; exact hO2 b' j hb'⟩⟩
        by_cases g : x' = x ∧ k' = k
        · rw [g.1, g.2, e3, up_same, hv]; rfl
        · rw [e3, up_ne (by omega)]; exact hm2 x' k' q0 q1 q2 (by omega)
      · rintro q v hq ⟨q0, hvb, hv⟩ ih3
        have hd := dg_in (p := p) (x := xs l) (k := q) b1
        have hTb := hT.2.1 (25 * q + 5 * x + k) (by omega) (by omega)
        have hm36 := mul36 b2 hd.1 hd.2 hTb.1 hTb.2
        refine s_Ma_goDeeper_28 ⟨ho, fun z => by omega, fun _ => ?_⟩
        rw [w32_id (x := l * 5) (by omega) (by omega), w32_id (x := l * 5 + q) (by omega) (by omega), show l * 5 + q = 5 * l + q by omega, hO2 79 _ (by omega), him q q0 hq]
        refine ⟨⟨by omega, by omega⟩, ho, hW2.cell ⟨q0, hq⟩ ⟨x0, hx⟩ ⟨k0, hk⟩ ?_⟩
        rw [w32_id (x := dg p (xs l) q * T2 (25 * q + 5 * x + k)) (by omega) (by omega), w32_id (by omega) (by omega), w32_id (by omega) (by omega)]
        exact ih3 _ ⟨by omega, by omega, by rw [sR_succ q0, hv]⟩
end LOOK
