/-! ===== CLASSES: of both ===== -/
/-- how many sets of so many there are before one -/
def nst (z m : Int) : Int := cd (fun s => decide (bt s = z)) m
theorem bt_b {s : Int} : 0 ≤ bt s ∧ bt s ≤ 5 := cd_b (by omega)
theorem nst_succ {z m : Int} (h : 0 ≤ m) : nst z (m + 1) = nst z m + if bt m = z then 1 else 0 := by
  unfold nst
  rw [cd_succ h]
  by_cases g : bt m = z
  · simp [g]
  · simp [g]
theorem nst_b {z n : Int} (n0 : 0 ≤ n) (hn : n ≤ 5) : 0 ≤ nst z (2 ^ n.toNat) ∧ nst z (2 ^ n.toNat) ≤ 10 := by
  have hp5 := pw5 n0 hn
  by_cases hz : 0 ≤ z ∧ z ≤ 5
  · have key : ∀ z : Nat, z < 6 → ∀ n : Nat, n < 6 → nst (z : Int) (2 ^ n) ≤ 10 := by decide +kernel
    obtain ⟨z, rfl⟩ := nat_of hz.1
    obtain ⟨n, rfl⟩ := nat_of n0
    have := key z (by omega) n (by omega)
    exact ⟨(cd_b (by omega)).1, this⟩
  · have : nst z (2 ^ n.toNat) = 0 := by
      unfold nst cd
      apply sR_zero'
      intro k _ _
      have := bt_b (s := k)
      rw [if_neg]
      simp
      omega
    omega
theorem nst_lt {z s m : Int} (s0 : 0 ≤ s) (s1 : s < m) (h : bt s = z) : 0 ≤ nst z s ∧ nst z s < nst z m := ⟨(cd_b s0).1, cd_lt s0 s1 (by simp [h])⟩
def oth (s x y : Int) : Int := and32 (and32 s (xor32 (shl32 1 x) (-1))) (xor32 (shl32 1 y) (-1))
def low (s x : Int) : Int := and32 s (w32 ((shl32 1 x) - 1))
def okO (s x y : Nat) : Bool := decide (0 ≤ oth (s : Int) (x : Int) (y : Int)) && decide (oth (s : Int) (x : Int) (y : Int) ≤ (s : Int)) && (!(tb (s : Int) (x : Int) && tb (s : Int) (y : Int) && decide (x ≠ y)) || decide (bt (oth (s : Int) (x : Int) (y : Int)) = bt (s : Int) - 2))
theorem oth_b {s x y : Int} (s0 : 0 ≤ s) (s1 : s < 32) (x0 : 0 ≤ x) (x1 : x < 5) (y0 : 0 ≤ y) (y1 : y < 5) : 0 ≤ oth s x y ∧ oth s x y ≤ s ∧ (tb s x = true → tb s y = true → x ≠ y → bt (oth s x y) = bt s - 2) := by
  have key : ∀ s : Nat, s < 32 → ∀ x : Nat, x < 5 → ∀ y : Nat, y < 5 → okO s x y = true := by decide +kernel
  obtain ⟨s, rfl⟩ := nat_of s0
  obtain ⟨x, rfl⟩ := nat_of x0
  obtain ⟨y, rfl⟩ := nat_of y0
  have := key s (by omega) x (by omega) y (by omega)
  unfold okO at this
  simp only [Bool.and_eq_true, Bool.or_eq_true, decide_eq_true_eq, Bool.not_eq_true'] at this
  refine ⟨this.1.1, this.1.2, fun h1 h2 h3 => ?_⟩
  rcases this.2 with g | g
  · rw [h1, h2] at g
    have : x ≠ y := by omega
    simp [this] at g
  · exact g
theorem low_b {s x : Int} (s0 : 0 ≤ s) (s1 : s < 32) (x0 : 0 ≤ x) (x1 : x < 5) : 0 ≤ low s x ∧ low s x < 32 := by
  have key : ∀ s : Nat, s < 32 → ∀ x : Nat, x < 5 → 0 ≤ low (s : Int) (x : Int) ∧ low (s : Int) (x : Int) < 32 := by decide +kernel
  obtain ⟨s, rfl⟩ := nat_of s0
  obtain ⟨x, rfl⟩ := nat_of x0
  exact key s (by omega) x (by omega)
theorem who_b {o m n : Int} (hn : n ≤ 5) (o0 : 0 ≤ o) (o1 : o < 2 ^ n.toNat) (m0 : 0 ≤ m) (m1 : m < n) (hm : tb o m = false) : 0 ≤ or32 o (shl32 1 m) ∧ or32 o (shl32 1 m) < 2 ^ n.toNat ∧ bt (or32 o (shl32 1 m)) = bt o + 1 := by
  obtain ⟨a, b, c⟩ := or_bit (w := n.toNat) (by omega) o0 o1 m0 (by omega)
  refine ⟨a, b, ?_⟩
  have e : bt (or32 o (shl32 1 m)) = cd (fun l => tb o l || decide (l = m)) 5 := cd_cg (fun l l0 _ => c l l0)
  rw [e, cd_add m0 hm, if_pos (by omega)]
  rfl
theorem par_e {z : Int} (h0 : 0 ≤ z) (h1 : z < 32) : (and32 z 1 = 0) ↔ z.tmod 2 = 0 := by
  have key : ∀ z : Nat, z < 32 → ((and32 (z : Int) 1 = 0) ↔ ((z : Int)).tmod 2 = 0) := by decide +kernel
  obtain ⟨z, rfl⟩ := nat_of h0
  exact key z (by omega)
/-- the sign of a part -/
def sgn (s x y m : Int) : Int := if (bt (low s x) + bt (low s y) + bt (low (oth s x y) m)).tmod 2 = 0 then 1 else -1
def aD (n : Int) (T : Int → Int) (z s x y m : Int) (r : Int → Int) : Int → Int := if tb (oth s x y) m = true then r else fun u => r u + (if u = nst z (or32 (oth s x y) (shl32 1 m)) then sgn s x y m * T (25 * x + 5 * y + m) else 0)
def bD (n : Int) (T : Int → Int) (z s x y : Int) (r : Int → Int) : Int → Int := if tb s x = true ∧ tb s y = true then lp (fun m r => aD n T z s x y m r) 0 n r else r
def rwD (n : Int) (T : Int → Int) (z s : Int) : Int → Int := lp (fun x r => lp (fun y r => bD n T z s x y r) (x + 1) n r) 0 n (fun _ => 0)
def DD (p n : Int) (T : Int → Int) (z : Int) : ES := lp (fun s E => if bt s = z + 1 then ins p (nst z (2 ^ n.toNat)) E (fun u => rwD n T z s u % p) else E) 0 (2 ^ n.toNat) E0
def rkD (p n : Int) (T : Int → Int) (z : Int) : Int := cd (DD p n T z).1 (nst z (2 ^ n.toNat))
theorem sgn_c {s x y m : Int} : sgn s x y m = 1 ∨ sgn s x y m = -1 := by unfold sgn; split <;> simp
section CLS
variable {d : Nat} {σ : SG} {Q : Int → SG → Prop}
def NB (σ : SG) (n z : Int) : Prop := ∀ s, 0 ≤ s → s < 2 ^ n.toNat → bt s = z → σ 77 s = nst z s
theorem Me_numberForms_s {a p n z : Int} {T : Int → Int} (hW : WD σ a p n T) (ha : a ≤ 20) (h : ∀ σ', NB σ' n z → Off (fun b j => b = 77) σ σ' → Q (nst z (2 ^ n.toNat)) σ') : Tri (d + 2) M_Me_numberForms [vA 68, vA a, vI z] σ Q := by
  obtain ⟨b1, b2, b3, b4⟩ := hW.pn.b
  obtain ⟨ho, hp, hn, _, hT⟩ := id hW
  have hp5 := pw5 (n := n) (by omega) b4
  refine t_Me_numberForms (fun _ => ?_)
  refine loop_up (P := fun k (s : Int × SG) => L (d + 2) M_Me_numberForms 5 [vA 68, vA a, vI z, vI s.1, vI k] [] s.2 Q)
    (fun k s => 0 ≤ k ∧ s.1 = nst z k ∧ (∀ j, 0 ≤ j → j < k → bt j = z → s.2 77 j = nst z j) ∧ Off (fun b j => b = 77) σ s.2) (2 ^ n.toNat) ?_ ?_ 0 (by omega) (0, σ) ⟨by omega, by unfold nst cd; rw [sR_nil (by omega)], fun j _ _ => by omega, Off_rfl⟩
  · rintro ⟨c, t⟩ ⟨_, hc, hb, hO⟩
    simp only at hc hb hO ⊢
    have e2 : t a 2 = n := (hO a 2 (by omega)).trans hn
    refine s_Me_numberForms_5 ⟨ho, fun _ => ?_, fun q => by rw [e2, shl1 (by omega) (by omega)] at q; omega⟩
    rw [hc]; exact h t hb hO
  · rintro k ⟨c, t⟩ hk ⟨k0, hc, hb, hO⟩ ih
    simp only at hc hb hO ⊢
    have e2 : t a 2 = n := (hO a 2 (by omega)).trans hn
    have hcb : 0 ≤ nst z k ∧ nst z k ≤ k := cd_b k0
    have hs := nst_succ (z := z) k0
    refine s_Me_numberForms_5 ⟨ho, fun q => by rw [e2, shl1 (by omega) (by omega)] at q; omega, fun _ => ⟨fun q => by omega, fun _ => JI_bitCount_s k0 (by omega) ⟨fun q => ?_, fun q => ⟨⟨k0, by omega⟩, fun t2 e => ?_⟩⟩⟩⟩
    · rw [if_neg q] at hs
      rw [w32_id (by omega) (by omega)]
      refine ih (c, t) ⟨by omega, by simp only; omega, fun j j0 j1 hj => hb j j0 ?_ hj, hO⟩
      have : j ≠ k := fun e => q (by rw [← e]; exact hj)
      omega
    · rw [if_pos q] at hs
      rw [w32_id (by omega) (by omega), w32_id (by omega) (by omega)]
      refine ih (c + 1, t2) ⟨by omega, by simp only; omega, fun j j0 j1 hj => ?_, fun b j hb' => by show t2 b j = _; rw [e, up_ne (by omega)]; exact hO b j hb'⟩
      show t2 77 j = _
      by_cases g : j = k
      · subst g; rw [e, up_same]; exact hc
      · rw [e, up_ne (by omega)]; exact hb j j0 (by omega) hj
theorem Me_addCouple_s {a p n z s x y : Int} {T : Int → Int} {r : Int → Int} {K : Int} (hW : WD σ a p n T) (ha : a ≤ 20) (hNB : NB σ n z) (s0 : 0 ≤ s) (s1 : s < 2 ^ n.toNat) (hs : bt s = z + 1) (x0 : 0 ≤ x) (xy : x < y) (y1 : y < n) (hx : tb s x = true) (hy : tb s y = true) (hK : 0 ≤ K ∧ K ≤ 1000) (hr : ∀ u, 0 ≤ u → u < 25 → σ 72 u = r u) (hb : ∀ u, -K ≤ r u ∧ r u ≤ K)
    (h : ∀ σ' r', r' = lp (fun m r => aD n T z s x y m r) 0 n r → (∀ u, 0 ≤ u → u < 25 → σ' 72 u = r' u) → (∀ u, -(K + 30) ≤ r' u ∧ r' u ≤ K + 30) → Off (fun b j => b = 72) σ σ' → Q 0 σ') : Tri (d + 2) M_Me_addCouple [vA 68, vA a, vI x, vI y, vI (oth s x y), vI (w32 (bt (low s x) + bt (low s y)))] σ Q := by
  obtain ⟨b1, b2, b3, b4⟩ := hW.pn.b
  obtain ⟨ho, hp, hn, _, hT⟩ := id hW
  have hp5 := pw5 (n := n) (by omega) b4
  obtain ⟨o0, o1, o2⟩ := oth_b (s := s) (x := x) (y := y) s0 (by omega) x0 (by omega) (by omega) (by omega)
  have o3 := o2 hx hy (by omega)
  have bA := bt_b (s := low s x)
  have bB := bt_b (s := low s y)
  rw [w32_id (by omega) (by omega)]
  refine t_Me_addCouple (fun _ _ _ _ => ?_)
  refine loop_up (P := fun m t => L (d + 2) M_Me_addCouple 3 [vA 68, vA a, vI x, vI y, vI (oth s x y), vI (bt (low s x) + bt (low s y)), vI m, vU, vU, vU] [] t Q)
    (fun m t => 0 ≤ m ∧ (∀ u, 0 ≤ u → u < 25 → t 72 u = lp (fun m r => aD n T z s x y m r) 0 m r u) ∧ (∀ u, -(K + 6 * m) ≤ lp (fun m r => aD n T z s x y m r) 0 m r u ∧ lp (fun m r => aD n T z s x y m r) 0 m r u ≤ K + 6 * m) ∧ Off (fun b j => b = 72) σ t) n ?_ ?_ 0 (by omega) σ ⟨by omega, fun u u0 u1 => by rw [lp_nil (by omega)]; exact hr u u0 u1, fun u => by rw [lp_nil (by omega)]; have := hb u; omega, Off_rfl⟩
  · rintro t ⟨_, h1, h2, hO⟩
    have e2 : t a 2 = n := (hO a 2 (by omega)).trans hn
    exact s_Me_addCouple_3 ⟨ho, fun _ => h t _ rfl h1 (fun u => by have := h2 u; omega) hO, fun q => by omega⟩
  · rintro m t hm ⟨m0, h1, h2, hO⟩ ih
    have hWt : WD t a p n T := hW.cg (fun k => hO a k (by omega)) (fun k => hO (a + 1) k (by omega))
    have e2 : t a 2 = n := hWt.2.2.1
    have hTb := hT.2.1 (25 * x + 5 * y + m) (by omega) (by omega)
    refine s_Me_addCouple_3 ⟨ho, fun q => by omega, fun _ => ⟨fun q => ?_, fun q => ?_⟩⟩
    · have hb' := (bit_ne o0 (by omega) m0 (by omega)).mp q
      have ea : ∀ r, aD n T z s x y m r = r := fun r => by unfold aD; rw [if_pos hb']
      rw [w32_id (by omega) (by omega)]
      exact ih t ⟨by omega, fun u u0 u1 => by rw [lp_succ m0, ea]; exact h1 u u0 u1, fun u => by rw [lp_succ m0, ea]; have := h2 u; omega, hO⟩
    · have hb' := (bit_eq o0 (by omega) m0 (by omega)).mp q
      obtain ⟨w0, w1, w2⟩ := who_b b4 o0 (by omega) m0 hm hb'
      have hlw := low_b (s := oth s x y) (x := m) o0 (by omega) m0 (by omega)
      have bC := bt_b (s := low (oth s x y) m)
      have hnw := nst_lt (z := z) w0 w1 (by omega)
      have hnb := nst_b (z := z) (n := n) (by omega) b4
      have hN : t 77 (or32 (oth s x y) (shl32 1 m)) = nst z (or32 (oth s x y) (shl32 1 m)) := by rw [hO 77 _ (by omega)]; exact hNB _ w0 w1 (by omega)
      have ea : ∀ r u, aD n T z s x y m r u = r u + (if u = nst z (or32 (oth s x y) (shl32 1 m)) then sgn s x y m * T (25 * x + 5 * y + m) else 0) := fun r u => by unfold aD; rw [if_neg (by rw [hb']; simp)]
      have fin : ∀ v t2, v = sgn s x y m * T (25 * x + 5 * y + m) → t2 = up t 72 (nst z (or32 (oth s x y) (shl32 1 m))) (w32 (t 72 (nst z (or32 (oth s x y) (shl32 1 m))) + v)) → L (d + 2) M_Me_addCouple 3 [vA 68, vA a, vI x, vI y, vI (oth s x y), vI (bt (low s x) + bt (low s y)), vI (w32 (m + 1)), vU, vU, vU] [] t2 Q := fun v t2 hv et => by
        have hvb : -6 ≤ v ∧ v ≤ 6 := by rcases sgn_c (s := s) (x := x) (y := y) (m := m) with g | g <;> rw [hv, g] <;> omega
        rw [w32_id (x := m + 1) (by omega) (by omega)]
        refine ih t2 ⟨by omega, fun u u0 u1 => ?_, fun u => ?_, fun b j hb => by rw [et, up_ne (by omega)]; exact hO b j hb⟩
        · rw [lp_succ m0, ea, ← hv]
          by_cases g : u = nst z (or32 (oth s x y) (shl32 1 m))
          · have g1 := h1 u u0 u1
            have g2 := h2 u
            rw [if_pos g, et, ← g, up_same, g1, w32_id (by omega) (by omega)]
          · rw [if_neg g, et, up_ne (by omega), Int.add_zero]; exact h1 u u0 u1
        · rw [lp_succ m0, ea, ← hv]
          have := h2 u
          split <;> omega
      refine ⟨fun q2 => by omega, fun _ => ?_⟩
      refine JI_bitCount_s (x := low (oth s x y) m) hlw.1 hlw.2 ?_
      rw [w32_id (x := bt (low s x) + bt (low s y) + bt (low (oth s x y) m)) (by omega) (by omega)]
      have hpar := par_e (z := bt (low s x) + bt (low s y) + bt (low (oth s x y) m)) (by omega) (by omega)
      refine ⟨fun q2 => s_Me_addCouple_66 ⟨ho, hWt.cell ⟨x0, by omega⟩ ⟨by omega, y1⟩ ⟨m0, hm⟩ ⟨⟨w0, by omega⟩, ?_⟩⟩, fun q2 => s_Me_addCouple_66 ⟨ho, hWt.cell ⟨x0, by omega⟩ ⟨by omega, y1⟩ ⟨m0, hm⟩ ⟨⟨w0, by omega⟩, ?_⟩⟩⟩
      · rw [hN]
        refine ⟨⟨by omega, by omega⟩, fun _ => ⟨⟨by omega, by omega⟩, fun t2 et => fin _ t2 ?_ et⟩, fun z => by omega⟩
        unfold sgn; rw [if_pos (hpar.mp q2), Int.one_mul]
      · rw [hN, w32_id (x := -T (25 * x + 5 * y + m)) (by omega) (by omega)]
        refine ⟨⟨by omega, by omega⟩, fun z => by omega, fun _ => ⟨⟨by omega, by omega⟩, fun t2 et => fin _ t2 ?_ et⟩⟩
        unfold sgn; rw [if_neg (fun z => q2 (hpar.mpr z))]; omega
theorem Me_fillD_s {a p n z s : Int} {T : Int → Int} (hW : WD σ a p n T) (ha : a ≤ 20) (hNB : NB σ n z) (s0 : 0 ≤ s) (s1 : s < 2 ^ n.toNat) (hs : bt s = z + 1)
    (h : ∀ σ', (∀ u, 0 ≤ u → u < 25 → σ' 72 u = rwD n T z s u % p) → Off (fun b j => b = 72) σ σ' → Q 0 σ') : Tri (d + 3) M_Me_fillD [vA 68, vA a, vI s] σ Q := by
  obtain ⟨b1, b2, b3, b4⟩ := hW.pn.b
  obtain ⟨ho, hp, hn, _, hT⟩ := id hW
  have hp5 := pw5 (n := n) (by omega) b4
  refine t_Me_fillD (fun _ => JA_fill_s (by omega) kd_72 (by omega) ?_)
  refine loop_up (P := fun x (q : (Int → Int) × SG) => L (d + 3) M_Me_fillD 10 [vA 68, vA a, vI s, vI x, vU, vU] [] q.2 Q)
    (fun x q => 0 ≤ x ∧ q.1 = lp (fun x r => lp (fun y r => bD n T z s x y r) (x + 1) n r) 0 x (fun _ => 0) ∧ (∀ u, 0 ≤ u → u < 25 → q.2 72 u = q.1 u) ∧ (∀ u, -(150 * x) ≤ q.1 u ∧ q.1 u ≤ 150 * x) ∧ Off (fun b j => b = 72) σ q.2) n ?_ ?_ 0 (by omega) (fun _ => 0, _) ⟨by omega, by rw [lp_nil (by omega)], fun u u0 u1 => by show fil _ _ _ _ _ _ _ = _; rw [fil_in (by omega) (by omega)], fun u => by simp, fun b k hb => fil_ne (by omega)⟩
  · rintro ⟨r, t⟩ ⟨_, hr, hu, hb, hO⟩
    simp only at hr hu hb hO ⊢
    have e2 : t a 2 = n := (hO a 2 (by omega)).trans hn
    refine s_Me_fillD_10 ⟨ho, fun _ => ?_, fun q => by omega⟩
    refine loop_up (P := fun u t => L (d + 3) M_Me_fillD 111 [vA 68, vA a, vU, vI u, vU, vU] [] t Q)
      (fun u t2 => 0 ≤ u ∧ (∀ c, 0 ≤ c → c < u → t2 72 c = r c % p) ∧ (∀ c, u ≤ c → c < 25 → t2 72 c = r c) ∧ Off (fun b j => b = 72) σ t2) 25 ?_ ?_ 0 (by omega) t ⟨by omega, fun c _ _ => by omega, fun c c0 c1 => hu c c0 c1, hO⟩
    · rintro t2 ⟨_, h1, _, hO2⟩
      refine s_Me_fillD_111 ⟨fun _ => h t2 (fun u u0 u1 => ?_) hO2, fun q => by omega⟩
      rw [h1 u u0 u1, hr]; rfl
    · rintro u t2 hu2 ⟨u0, h1, h2, hO2⟩ ih2
      refine s_Me_fillD_111 ⟨fun q => by omega, fun _ => ⟨⟨u0, by omega⟩, ho, ?_⟩⟩
      rw [h2 u (by omega) hu2, (hO2 a 1 (by omega)).trans hp, w32_id (by omega) (by omega)]
      refine X_mod_s b1 ⟨⟨u0, by omega⟩, fun t3 e => ih2 t3 ⟨by omega, fun c c0 c1 => ?_, fun c c0 c1 => by rw [e, up_ne (by omega)]; exact h2 c (by omega) c1, fun b k hb => by rw [e, up_ne (by omega)]; exact hO2 b k hb⟩⟩
      by_cases g : c = u
      · subst g; rw [e, up_same]
      · rw [e, up_ne (by omega)]; exact h1 c c0 (by omega)
  · rintro x ⟨r, t⟩ hx ⟨x0, hr, hu, hb, hO⟩ ih
    simp only at hr hu hb hO ⊢
    have e2 : t a 2 = n := (hO a 2 (by omega)).trans hn
    refine s_Me_fillD_10 ⟨ho, fun q => by omega, fun _ => ?_⟩
    rw [w32_id (by omega) (by omega)]
    refine loop_up (P := fun y (q : (Int → Int) × SG) => L (d + 3) M_Me_fillD 23 [vA 68, vA a, vI s, vI x, vI y, vU] [] q.2 Q)
      (fun y q => x + 1 ≤ y ∧ q.1 = lp (fun y r => bD n T z s x y r) (x + 1) y r ∧ (∀ u, 0 ≤ u → u < 25 → q.2 72 u = q.1 u) ∧ (∀ u, -(150 * x + 30 * y) ≤ q.1 u ∧ q.1 u ≤ 150 * x + 30 * y) ∧ Off (fun b j => b = 72) σ q.2) n ?_ ?_ (x + 1) (by omega) (r, t) ⟨by omega, by rw [lp_nil (by omega)], hu, fun u => by have := hb u; simp only; omega, hO⟩
    · rintro ⟨r2, t2⟩ ⟨_, hr2, hu2, hb2, hO2⟩
      simp only at hr2 hu2 hb2 hO2 ⊢
      have e2 : t2 a 2 = n := (hO2 a 2 (by omega)).trans hn
      refine s_Me_fillD_23 ⟨ho, fun _ => ?_, fun q => by omega⟩
      rw [w32_id (by omega) (by omega)]
      exact ih (r2, t2) ⟨by omega, by simp only; rw [lp_succ x0, ← hr]; exact hr2, hu2, fun u => by have := hb2 u; simp only; omega, hO2⟩
    · rintro y ⟨r2, t2⟩ hy ⟨y0, hr2, hu2, hb2, hO2⟩ ih2
      simp only at hr2 hu2 hb2 hO2 ⊢
      have hW2 : WD t2 a p n T := hW.cg (fun k => hO2 a k (by omega)) (fun k => hO2 (a + 1) k (by omega))
      have e2 : t2 a 2 = n := hW2.2.2.1
      have hno : ¬ (tb s x = true ∧ tb s y = true) → L (d + 3) M_Me_fillD 23 [vA 68, vA a, vI s, vI x, vI (w32 (y + 1)), vU] [] t2 Q := fun hn' => by
        rw [w32_id (by omega) (by omega)]
        refine ih2 (r2, t2) ⟨by omega, ?_, hu2, fun u => by have := hb2 u; simp only; omega, hO2⟩
        simp only
        rw [lp_succ y0, ← hr2]; unfold bD; rw [if_neg hn']
      refine s_Me_fillD_23 ⟨ho, fun q => by omega, fun _ => ⟨fun q => hno (fun z => ?_), fun q => ⟨fun q2 => hno (fun z => ?_), fun q2 => ?_⟩⟩⟩
      · rw [(bit_eq s0 (by omega) x0 (by omega)).mp q] at z; cases z.1
      · rw [(bit_eq s0 (by omega) (by omega) (by omega)).mp q2] at z; cases z.2
      · have hbx := (bit_ne s0 (by omega) x0 (by omega)).mp q
        have hby := (bit_ne s0 (by omega) (by omega) (by omega)).mp q2
        have hl1 := low_b (s := s) (x := x) s0 (by omega) x0 (by omega)
        have hl2 := low_b (s := s) (x := y) s0 (by omega) (by omega) (by omega)
        refine JI_bitCount_s (x := low s x) hl1.1 hl1.2 (JI_bitCount_s (x := low s y) hl2.1 hl2.2 ?_)
        refine Me_addCouple_s (K := 150 * x + 30 * y) hW2 ha (fun j j0 j1 hj => by rw [hO2 77 _ (by omega)]; exact hNB j j0 j1 hj) s0 s1 hs x0 (by omega) hy hbx hby (by omega) hu2 hb2 (fun t3 r3 hr3 hu3 hb3 hO3 => ?_)
        rw [w32_id (by omega) (by omega)]
        refine ih2 (r3, t3) ⟨by omega, ?_, hu3, fun u => by have := hb3 u; simp only; omega, Off_trans hO2 hO3⟩
        simp only
        rw [lp_succ y0, ← hr2]; unfold bD; rw [if_pos ⟨hbx, hby⟩]; exact hr3
theorem Me_rankOfD_s {a p n z : Int} {T : Int → Int} (hW : WD σ a p n T) (ha : a ≤ 20) (hST : ST σ) (hz : -1 ≤ z ∧ z ≤ 5) (h : ∀ σ', ST σ' → Off (fun b j => 69 ≤ b ∧ b ≤ 77) σ σ' → Q (rkD p n T z) σ') : Tri (d + 4) M_Me_rankOfD [vA 68, vA a, vI z] σ Q := by
  obtain ⟨b1, b2, b3, b4⟩ := hW.pn.b
  obtain ⟨ho, hp, hn, _, hT⟩ := id hW
  obtain ⟨kw1, _, _⟩ := kd_world ho
  have hp5 := pw5 (n := n) (by omega) b4
  have hnb := nst_b (z := z) (n := n) (by omega) b4
  refine t_Me_rankOfD (fun _ => ⟨ho, Me_numberForms_s hW ha (fun s1 hN1 hO1 => ?_)⟩)
  rw [hp]
  refine Ec_begin_s ob_69 ((hO1 69 0 (by omega)).trans (hST 69 ob_69)) hW.pn.pr hnb.1 (by unfold stl; rw [if_pos (by omega)]; omega) (fun s2 hE2 hO2 => ?_)
  refine loop_up (P := fun k t => L (d + 4) M_Me_rankOfD 19 [vA 68, vA a, vI z, vI k] [] t Q)
    (fun k t => 0 ≤ k ∧ EC t 69 p (nst z (2 ^ n.toNat)) (lp (fun s E => if bt s = z + 1 then ins p (nst z (2 ^ n.toNat)) E (fun u => rwD n T z s u % p) else E) 0 k E0) ∧ NB t n z ∧ Off (fun b j => (b = 69 ∧ 3 ≤ j ∧ j ≤ 6) ∨ b = 70 ∨ b = 71 ∨ b = 72 ∨ b = 77) σ t) (2 ^ n.toNat) ?_ ?_ 0 (by omega) s2 ⟨by omega, by rw [lp_nil (by omega)]; exact hE2, fun j j0 j1 hj => by rw [hO2 77 _ (by omega)]; exact hN1 j j0 j1 hj, Off_trans (Off_mono hO1 (fun b j q => by omega)) (Off_mono hO2 (fun b j q => by omega))⟩
  · rintro t ⟨_, hE, _, hO⟩
    have e2 : t a 2 = n := (hO a 2 (by omega)).trans hn
    refine s_Me_rankOfD_19 ⟨ho, fun _ => ?_, fun q => by rw [e2, shl1 (by omega) (by omega)] at q; omega⟩
    rw [hE.2.2.2.2.1]
    exact h t (hST.off hO (fun e h' => by have := ech_list h'; omega)) (Off_mono hO (fun b j q => by omega))
  · rintro k t hk ⟨k0, hE, hN, hO⟩ ih
    have hWt : WD t a p n T := hW.cg (fun k => hO a k (by omega)) (fun k => hO (a + 1) k (by omega))
    have e2 : t a 2 = n := hWt.2.2.1
    refine s_Me_rankOfD_19 ⟨ho, fun q => by rw [e2, shl1 (by omega) (by omega)] at q; omega, fun _ => JI_bitCount_s k0 (by omega) ?_⟩
    rw [w32_id (x := z + 1) (by omega) (by omega), w32_id (x := k + 1) (by omega) (by omega)]
    refine ⟨fun q => ih t ⟨by omega, by rw [lp_succ k0, if_neg q]; exact hE, hN, hO⟩, fun q => Me_fillD_s hWt ha hN k0 hk q (fun t2 hv hO2 => ?_)⟩
    have hval : ∀ c, 0 ≤ c → c < nst z (2 ^ n.toNat) → t2 72 (0 + c) = rwD n T z k c % p := fun c c0 c1 => by rw [show (0 : Int) + c = c by omega]; exact hv c c0 (by omega)
    refine Ec_add_s (hE.cg (fun k => hO2 69 k (by omega)) (fun k => hO2 70 k (by omega))) kd_72 (by omega) (by omega) (by omega) (by omega) (fun c c0 c1 => by rw [hval c c0 c1]; exact ⟨Int.emod_nonneg _ (by omega), Int.emod_lt_of_pos _ (by omega)⟩) (fun r t3 hE3 _ hO3 => ih t3 ⟨by omega, ?_, fun j j0 j1 hj => ?_, Off_trans hO (Off_trans (Off_mono hO2 (fun b j q => by omega)) (Off_mono hO3 (fun b j q => by omega)))⟩)
    · rw [lp_succ k0, if_pos q]
      exact hE3.to (ESm.rfl'.insv hnb.1 hval)
    · rw [hO3 77 _ (by omega), hO2 77 _ (by omega)]; exact hN j j0 j1 hj
theorem rkD_b {p n z : Int} {T : Int → Int} (hn0 : 0 ≤ n) (hn : n ≤ 5) : 0 ≤ rkD p n T z ∧ rkD p n T z ≤ 10 := by
  have hnb := nst_b (z := z) hn0 hn
  have := cd_b (ℓ := (DD p n T z).1) hnb.1
  unfold rkD; omega
theorem Me_classSize_s {a p n z : Int} {T : Int → Int} (hW : WD σ a p n T) (ha : a ≤ 20) (hST : ST σ) (hz : 0 ≤ z ∧ z ≤ 5) (h : ∀ σ', ST σ' → Off (fun b j => 69 ≤ b ∧ b ≤ 77) σ σ' → Q (nst z (2 ^ n.toNat) - rkD p n T z - rkD p n T (z - 1)) σ') : Tri (d + 5) M_Me_classSize [vA 68, vA a, vI z] σ Q := by
  obtain ⟨b1, b2, b3, b4⟩ := hW.pn.b
  refine t_Me_classSize (fun _ => ?_)
  have r1 := rkD_b (p := p) (n := n) (z := z) (T := T) (by omega) b4
  have r2 := rkD_b (p := p) (n := n) (z := z - 1) (T := T) (by omega) b4
  have hnb := nst_b (z := z) (n := n) (by omega) b4
  rw [w32_id (by omega) (by omega)]
  refine Me_rankOfD_s hW ha hST (by omega) (fun s1 hS1 hO1 => ?_)
  have hW1 : WD s1 a p n T := hW.cg (fun k => hO1 a k (by omega)) (fun k => hO1 (a + 1) k (by omega))
  refine Me_rankOfD_s hW1 ha hS1 (by omega) (fun s2 hS2 hO2 => ?_)
  have hW2 : WD s2 a p n T := hW1.cg (fun k => hO2 a k (by omega)) (fun k => hO2 (a + 1) k (by omega))
  refine Me_numberForms_s hW2 ha (fun s3 _ hO3 => ?_)
  rw [w32_id (x := nst z (2 ^ n.toNat) - rkD p n T z) (by omega) (by omega), w32_id (by omega) (by omega)]
  exact h s3 (hS2.off hO3 (fun e h' => by have := ech_list h'; omega)) (Off_trans hO1 (Off_trans hO2 (Off_mono hO3 (fun b j q => by omega))))
/-! the model's -/
theorem R_bits_s {s : Int} (s0 : 0 ≤ s) (s1 : s < 32) (h : Q (bt s) σ) : Tri (d + 1) M_R_bits [vI s] σ Q := by
  refine t_R_bits (fun _ => ?_)
  refine loop_up (P := fun k c => L (d + 1) M_R_bits 4 [vI s, vI c, vI k] [] σ Q) (fun k c => 0 ≤ k ∧ c = cd (tb s) k) 5 ?_ ?_ 0 (by omega) 0 ⟨by omega, by unfold cd; rw [sR_nil (by omega)]⟩
  · rintro c ⟨_, hc⟩
    refine s_R_bits_4 ⟨fun _ => ?_, fun q => by omega⟩
    rw [hc]; exact h
  · rintro k c hk ⟨k0, hc⟩ ih
    refine s_R_bits_4 ⟨fun q => by omega, fun _ => ?_⟩
    have hcb := cd_b (ℓ := tb s) k0
    have hs := cd_succ (ℓ := tb s) k0
    rw [bit_t s0 (by omega) k0 (by omega)]
    have hi : (if tb s k = true then (1 : Int) else 0) = 0 ∨ (if tb s k = true then (1 : Int) else 0) = 1 := by split <;> simp
    rw [w32_id (by omega) (by omega), w32_id (by omega) (by omega)]
    exact ih _ ⟨by omega, by rw [hs, hc]⟩
theorem R_numberOfSet_s {s : Int} (s0 : 0 ≤ s) (s1 : s < 32) (h : Q (nst (bt s) s) σ) : Tri (d + 2) M_R_numberOfSet [vA 161, vI s] σ Q := by
  refine t_R_numberOfSet (fun _ => ?_)
  refine loop_up (P := fun k c => L (d + 2) M_R_numberOfSet 4 [vU, vI s, vI c, vI k] [] σ Q) (fun k c => 0 ≤ k ∧ c = nst (bt s) k) s ?_ ?_ 0 s0 0 ⟨by omega, by unfold nst cd; rw [sR_nil (by omega)]⟩
  · rintro c ⟨_, hc⟩
    refine s_R_numberOfSet_4 ⟨fun _ => ?_, fun q => by omega⟩
    rw [hc]; exact h
  · rintro k c hk ⟨k0, hc⟩ ih
    have hcb : 0 ≤ nst (bt s) k ∧ nst (bt s) k ≤ k := cd_b k0
    have hs := nst_succ (z := bt s) k0
    refine s_R_numberOfSet_4 ⟨fun q => by omega, fun _ => R_bits_s k0 (by omega) (R_bits_s s0 s1 ⟨fun q => ?_, fun q => ?_⟩)⟩
    · rw [if_neg q] at hs
      rw [w32_id (by omega) (by omega), w32_id (by omega) (by omega)]
      exact ih _ ⟨by omega, by rw [hs, hc]⟩
    · rw [if_pos q] at hs
      rw [w32_id (by omega) (by omega), w32_id (by omega) (by omega)]
      exact ih _ ⟨by omega, by rw [hs, hc]⟩
theorem R_setsOf_s {p n z : Int} {T : Int → Int} (hR : RW σ p n T) (h : Q (nst z (2 ^ n.toNat)) σ) : Tri (d + 2) M_R_setsOf [vA 161, vI z] σ Q := by
  obtain ⟨b1, b2, b3, b4⟩ := hR.1.1.b
  have e27 := hR.2.2.1
  have hp5 := pw5 (n := n) (by omega) b4
  refine t_R_setsOf (fun _ => ?_)
  refine loop_up (P := fun k c => L (d + 2) M_R_setsOf 4 [vA 161, vI z, vI c, vI k] [] σ Q) (fun k c => 0 ≤ k ∧ c = nst z k) (2 ^ n.toNat) ?_ ?_ 0 (by omega) 0 ⟨by omega, by unfold nst cd; rw [sR_nil (by omega)]⟩
  · rintro c ⟨_, hc⟩
    refine s_R_setsOf_4 ⟨fun _ => ?_, fun q => by rw [e27, shl1 (by omega) (by omega)] at q; omega⟩
    rw [hc]; exact h
  · rintro k c hk ⟨k0, hc⟩ ih
    have hcb : 0 ≤ nst z k ∧ nst z k ≤ k := cd_b k0
    have hs := nst_succ (z := z) k0
    refine s_R_setsOf_4 ⟨fun q => by rw [e27, shl1 (by omega) (by omega)] at q; omega, fun _ => R_bits_s k0 (by omega) ⟨fun q => ?_, fun q => ?_⟩⟩
    · rw [if_neg q] at hs
      rw [w32_id (by omega) (by omega), w32_id (by omega) (by omega)]
      exact ih _ ⟨by omega, by rw [hs, hc]⟩
    · rw [if_pos q] at hs
      rw [w32_id (by omega) (by omega), w32_id (by omega) (by omega)]
      exact ih _ ⟨by omega, by rw [hs, hc]⟩
theorem R_rowOfD_s {p n z s : Int} {T : Int → Int} (hR : RW σ p n T) (s0 : 0 ≤ s) (s1 : s < 2 ^ n.toNat) (hs : bt s = z + 1)
    (h : ∀ σ', (∀ u, 0 ≤ u → u < nst z (2 ^ n.toNat) → σ' 180 u = rwD n T z s u % p) → Off (fun b j => b = 180) σ σ' → Q 0 σ') : Tri (d + 3) M_R_rowOfD [vA 161, vI s, vI (nst z (2 ^ n.toNat))] σ Q := by
  obtain ⟨b1, b2, b3, b4⟩ := hR.1.1.b
  have hT := hR.1
  have hp5 := pw5 (n := n) (by omega) b4
  have hnb := nst_b (z := z) (n := n) (by omega) b4
  have up18 : ∀ t, Off (fun b j => b = 180) σ t → RW t p n T := fun t ht => hR.fr (fun k _ _ => ht 161 k (by omega)) (fun k => ht 166 k (by omega)) (fun k => ht 196 k (by omega))
  generalize hw : nst z (2 ^ n.toNat) = w at *
  refine t_R_rowOfD (fun _ _ => ?_)
  refine loop_up (P := fun u t => L (d + 3) M_R_rowOfD 2 [vA 161, vI s, vI w, vI u, vU, vU, vU, vU, vU, vU, vU] [] t Q) (fun u t => 0 ≤ u ∧ (∀ c, 0 ≤ c → c < u → t 180 c = 0) ∧ Off (fun b j => b = 180) σ t) w ?_ ?_ 0 hnb.1 σ ⟨by omega, fun c _ _ => by omega, Off_rfl⟩
  · rintro t ⟨_, hz, hO⟩
    refine s_R_rowOfD_2 ⟨fun _ => ?_, fun q => by omega⟩
    refine loop_up (P := fun x (q : (Int → Int) × SG) => L (d + 3) M_R_rowOfD 22 [vA 161, vI s, vU, vI x, vU, vU, vU, vU, vU, vU, vU] [] q.2 Q)
      (fun x q => 0 ≤ x ∧ q.1 = lp (fun x r => lp (fun y r => bD n T z s x y r) (x + 1) n r) 0 x (fun _ => 0) ∧ (∀ u, 0 ≤ u → u < w → q.2 180 u = q.1 u % p) ∧ Off (fun b j => b = 180) σ q.2) n ?_ ?_ 0 (by omega) (fun _ => 0, t) ⟨by omega, by rw [lp_nil (by omega)], fun u u0 u1 => by simp only; rw [hz u u0 u1]; rfl, hO⟩
    · rintro ⟨r, t2⟩ ⟨_, hr, hu, hO2⟩
      simp only at hr hu hO2 ⊢
      have e27 := (up18 t2 hO2).2.2.1
      refine s_R_rowOfD_22 ⟨fun _ => h t2 (fun u u0 u1 => ?_) hO2, fun q => by omega⟩
      rw [hu u u0 u1, hr]; rfl
    · rintro x ⟨r, t2⟩ hx ⟨x0, hr, hu, hO2⟩ ih
      simp only at hr hu hO2 ⊢
      have e27 := (up18 t2 hO2).2.2.1
      refine s_R_rowOfD_22 ⟨fun q => by omega, fun _ => ?_⟩
      rw [w32_id (by omega) (by omega)]
      refine loop_up (P := fun y (q : (Int → Int) × SG) => L (d + 3) M_R_rowOfD 35 [vA 161, vI s, vU, vI x, vI y, vU, vU, vU, vU, vU, vU] [] q.2 Q)
        (fun y q => x + 1 ≤ y ∧ q.1 = lp (fun y r => bD n T z s x y r) (x + 1) y r ∧ (∀ u, 0 ≤ u → u < w → q.2 180 u = q.1 u % p) ∧ Off (fun b j => b = 180) σ q.2) n ?_ ?_ (x + 1) (by omega) (r, t2) ⟨by omega, by rw [lp_nil (by omega)], hu, hO2⟩
      · rintro ⟨r3, t3⟩ ⟨_, hr3, hu3, hO3⟩
        simp only at hr3 hu3 hO3 ⊢
        have e27 := (up18 t3 hO3).2.2.1
        refine s_R_rowOfD_35 ⟨fun _ => ?_, fun q => by omega⟩
        rw [w32_id (by omega) (by omega)]
        exact ih (r3, t3) ⟨by omega, by simp only; rw [lp_succ x0, ← hr]; exact hr3, hu3, hO3⟩
      · rintro y ⟨r3, t3⟩ hy ⟨y0, hr3, hu3, hO3⟩ ih3
        simp only at hr3 hu3 hO3 ⊢
        have e27 := (up18 t3 hO3).2.2.1
        have hnext : ∀ r4 t4, r4 = bD n T z s x y r3 → (∀ u, 0 ≤ u → u < w → t4 180 u = r4 u % p) → Off (fun b j => b = 180) σ t4 → L (d + 3) M_R_rowOfD 35 [vA 161, vI s, vU, vI x, vI (w32 (y + 1)), vU, vU, vU, vU, vU, vU] [] t4 Q := fun r4 t4 g1 g2 g3 => by
          rw [w32_id (by omega) (by omega)]
          refine ih3 (r4, t4) ⟨by omega, ?_, g2, g3⟩
          simp only
          rw [lp_succ y0, ← hr3]; exact g1
        have hno : ¬ (tb s x = true ∧ tb s y = true) → L (d + 3) M_R_rowOfD 35 [vA 161, vI s, vU, vI x, vI (w32 (y + 1)), vU, vU, vU, vU, vU, vU] [] t3 Q := fun hn' => hnext r3 t3 (by unfold bD; rw [if_neg hn']) hu3 hO3
        refine s_R_rowOfD_35 ⟨fun q => by omega, fun _ => ⟨fun q => hno (fun z => ?_), fun q => ⟨fun q2 => ?_, fun q2 => hno (fun z => ?_)⟩⟩⟩
        · rw [(bit_eq s0 (by omega) x0 (by omega)).mp q] at z; cases z.1
        · have hbx := (bit_ne s0 (by omega) x0 (by omega)).mp q
          have hby := (bit_ne s0 (by omega) (by omega) (by omega)).mp q2
          have hl1 := low_b (s := s) (x := x) s0 (by omega) x0 (by omega)
          have hl2 := low_b (s := s) (x := y) s0 (by omega) (by omega) (by omega)
          obtain ⟨o0, o1, o2⟩ := oth_b (s := s) (x := x) (y := y) s0 (by omega) x0 (by omega) (by omega) (by omega)
          have o3 := o2 hbx hby (by omega)
          have bA := bt_b (s := low s x)
          have bB := bt_b (s := low s y)
          refine R_bits_s (s := low s x) hl1.1 hl1.2 (R_bits_s (s := low s y) hl2.1 hl2.2 ?_)
          refine loop_up (P := fun m (q : (Int → Int) × SG) => L (d + 3) M_R_rowOfD 108 [vA 161, vI s, vU, vI x, vI y, vI (bt (low s x)), vI (bt (low s y)), vI (oth s x y), vI m, vU, vU] [] q.2 Q)
            (fun m q => 0 ≤ m ∧ q.1 = lp (fun m r => aD n T z s x y m r) 0 m r3 ∧ (∀ u, 0 ≤ u → u < w → q.2 180 u = q.1 u % p) ∧ Off (fun b j => b = 180) σ q.2) n ?_ ?_ 0 (by omega) (r3, t3) ⟨by omega, by rw [lp_nil (by omega)], hu3, hO3⟩
          · rintro ⟨r4, t4⟩ ⟨_, hr4, hu4, hO4⟩
            simp only at hr4 hu4 hO4 ⊢
            have e27 := (up18 t4 hO4).2.2.1
            exact s_R_rowOfD_108 ⟨fun _ => hnext r4 t4 (by unfold bD; rw [if_pos ⟨hbx, hby⟩]; exact hr4) hu4 hO4, fun q => by omega⟩
          · rintro m ⟨r4, t4⟩ hm ⟨m0, hr4, hu4, hO4⟩ ih4
            simp only at hr4 hu4 hO4 ⊢
            have hR4 := up18 t4 hO4
            have e27 := hR4.2.2.1
            have hTb := hT.2.1 (25 * x + 5 * y + m) (by omega) (by omega)
            refine s_R_rowOfD_108 ⟨fun q => by omega, fun _ => ⟨fun q3 => ?_, fun q3 => ?_⟩⟩
            · have hb' : tb (oth s x y) m = false := by
                cases hb : tb (oth s x y) m with
                | false => rfl
                | true => exact absurd ((bit_1 o0 (by omega) m0 (by omega)).mpr hb) q3
              obtain ⟨w0, w1, w2⟩ := who_b b4 o0 (by omega) m0 hm hb'
              have hlw := low_b (s := oth s x y) (x := m) o0 (by omega) m0 (by omega)
              have bC := bt_b (s := low (oth s x y) m)
              have hbw : bt (or32 (oth s x y) (shl32 1 m)) = z := by omega
              have hnw := nst_lt (z := z) w0 w1 hbw
              rw [hw] at hnw
              have ea : ∀ r u, aD n T z s x y m r u = r u + (if u = nst z (or32 (oth s x y) (shl32 1 m)) then sgn s x y m * T (25 * x + 5 * y + m) else 0) := fun r u => by unfold aD; rw [if_neg (by rw [hb']; simp)]
              have hcur := hu4 (nst z (or32 (oth s x y) (shl32 1 m))) hnw.1 hnw.2
              have hcb : 0 ≤ t4 180 (nst z (or32 (oth s x y) (shl32 1 m))) ∧ t4 180 (nst z (or32 (oth s x y) (shl32 1 m))) < p := by rw [hcur]; exact ⟨Int.emod_nonneg _ (by omega), Int.emod_lt_of_pos _ (by omega)⟩
              have fin : ∀ v t5, v = sgn s x y m * T (25 * x + 5 * y + m) → t5 = up t4 180 (nst z (or32 (oth s x y) (shl32 1 m))) ((t4 180 (nst z (or32 (oth s x y) (shl32 1 m))) + v) % p) → L (d + 3) M_R_rowOfD 108 [vA 161, vI s, vU, vI x, vI y, vI (bt (low s x)), vI (bt (low s y)), vI (oth s x y), vI (w32 (m + 1)), vU, vU] [] t5 Q := fun v t5 hv et => by
                rw [w32_id (by omega) (by omega)]
                refine ih4 (aD n T z s x y m r4, t5) ⟨by omega, by simp only; rw [lp_succ m0, ← hr4], fun u u0 u1 => ?_, fun b j hb => by show t5 b j = _; rw [et, up_ne (by omega)]; exact hO4 b j hb⟩
                simp only
                rw [ea, ← hv]
                by_cases g : u = nst z (or32 (oth s x y) (shl32 1 m))
                · rw [if_pos g, et, ← g, up_same, hu4 u u0 u1]
                  exact Int.emod_add_emod _ _ _
                · rw [if_neg g, et, up_ne (by omega), Int.add_zero]; exact hu4 u u0 u1
              refine R_bits_s (s := low (oth s x y) m) hlw.1 hlw.2 (R_numberOfSet_s w0 (by omega) ?_)
              rw [hbw, w32_id (x := bt (low s x) + bt (low s y)) (by omega) (by omega), w32_id (x := bt (low s x) + bt (low s y) + bt (low (oth s x y) m)) (by omega) (by omega)]
              refine ⟨⟨by omega, by omega⟩, fun q4 => R_table_s hR4 ⟨x0, by omega⟩ ⟨by omega, by omega⟩ ⟨m0, by omega⟩ ?_, fun q4 => R_table_s hR4 ⟨x0, by omega⟩ ⟨by omega, by omega⟩ ⟨m0, by omega⟩ ?_⟩
              · rw [hR4.2.1, w32_id (x := (-1) * T (25 * x + 5 * y + m)) (by omega) (by omega), w32_id (by omega) (by omega)]
                refine R_left_s ⟨b1, b2⟩ ⟨⟨by omega, by omega⟩, fun t5 et => fin _ t5 ?_ et⟩
                unfold sgn; rw [if_neg q4]
              · rw [hR4.2.1, w32_id (x := 1 * T (25 * x + 5 * y + m)) (by omega) (by omega), w32_id (by omega) (by omega)]
                refine R_left_s ⟨b1, b2⟩ ⟨⟨by omega, by omega⟩, fun t5 et => fin _ t5 ?_ et⟩
                unfold sgn; rw [if_pos q4]
            · have hb' := (bit_1 o0 (by omega) m0 (by omega)).mp q3
              rw [w32_id (by omega) (by omega)]
              refine ih4 (r4, t4) ⟨by omega, ?_, hu4, hO4⟩
              simp only
              rw [lp_succ m0, ← hr4]; unfold aD; rw [if_pos hb']
        · rw [(bit_eq s0 (by omega) (by omega) (by omega)).mp q2] at z; cases z.2
  · rintro u t hu ⟨u0, hz, hO⟩ ih
    refine s_R_rowOfD_2 ⟨fun q => by omega, fun _ => ⟨⟨u0, by omega⟩, fun t2 e => ?_⟩⟩
    rw [w32_id (by omega) (by omega)]
    refine ih t2 ⟨by omega, fun c c0 c1 => ?_, fun b k hb => by rw [e, up_ne (by omega)]; exact hO b k hb⟩
    by_cases g : c = u
    · subst g; rw [e, up_same]
    · rw [e, up_ne (by omega)]; exact hz c c0 (by omega)
theorem R_rankOfD_s {p n z : Int} {T : Int → Int} (hR : RW σ p n T) (hz : -1 ≤ z ∧ z ≤ 5) (h : ∀ σ', Off DM σ σ' → Q (rkD p n T z) σ') : Tri (d + 4) M_R_rankOfD [vA 161, vI z] σ Q := by
  obtain ⟨b1, b2, b3, b4⟩ := hR.1.1.b
  have hp5 := pw5 (n := n) (by omega) b4
  have hnb := nst_b (z := z) (n := n) (by omega) b4
  refine t_R_rankOfD (fun _ => R_noRows_s (p := p) (w := nst z (2 ^ n.toNat)) (fun s1 hR1 hO1 => ?_))
  have hO1' : Off DM σ s1 := Off_mono hO1 (fun b j q => by unfold DM; omega)
  refine R_setsOf_s (hR.dm hO1') ?_
  refine loop_up (P := fun k t => L (d + 4) M_R_rankOfD 12 [vA 161, vI z, vI (nst z (2 ^ n.toNat)), vI k] [] t Q)
    (fun k t => 0 ≤ k ∧ RR t p (nst z (2 ^ n.toNat)) (lp (fun s E => if bt s = z + 1 then ins p (nst z (2 ^ n.toNat)) E (fun u => rwD n T z s u % p) else E) 0 k E0) ∧ Off DM σ t) (2 ^ n.toNat) ?_ ?_ 0 (by omega) s1 ⟨by omega, by rw [lp_nil (by omega)]; exact hR1, hO1'⟩
  · rintro t ⟨_, hE, hO⟩
    have e27 := (hR.dm hO).2.2.1
    refine s_R_rankOfD_12 ⟨fun _ => ?_, fun q => by rw [e27, shl1 (by omega) (by omega)] at q; omega⟩
    rw [hE.1]; exact h t hO
  · rintro k t hk ⟨k0, hE, hO⟩ ih
    have hRt := hR.dm hO
    have e27 := hRt.2.2.1
    refine s_R_rankOfD_12 ⟨fun q => by rw [e27, shl1 (by omega) (by omega)] at q; omega, fun _ => R_bits_s k0 (by omega) ?_⟩
    rw [w32_id (x := z + 1) (by omega) (by omega), w32_id (x := k + 1) (by omega) (by omega)]
    refine ⟨fun q => R_rowOfD_s hRt k0 hk q (fun t2 hv hO2 => ?_), fun q => ih t ⟨by omega, by rw [lp_succ k0, if_neg q]; exact hE, hO⟩⟩
    have hO2' : Off DM σ t2 := Off_trans hO (Off_mono hO2 (fun b j q => by unfold DM; omega))
    refine R_addEquation_s hR.1.1.pr (hR.dm hO2').2.1 hnb.1 (by omega) (hE.cg (hO2 161 39 (by omega)) (fun k => hO2 179 k (by omega))) (fun c c0 c1 => by rw [hv c c0 c1]; exact ⟨Int.emod_nonneg _ (by omega), Int.emod_lt_of_pos _ (by omega)⟩) (fun t3 hR3 hO3 => ih t3 ⟨by omega, ?_, Off_trans hO2' (Off_mono hO3 (fun b j q => by unfold DM; omega))⟩)
    rw [lp_succ k0, if_pos q]
    exact hR3.to (ESm.rfl'.insv hnb.1 hv)
theorem rkD_m1 {p n : Int} {T : Int → Int} : rkD p n T (-1) = 0 := by
  unfold rkD
  have : nst (-1) (2 ^ n.toNat) = 0 := by
    unfold nst cd
    apply sR_zero'
    intro k _ _
    have := bt_b (s := k)
    rw [if_neg]
    simp
    omega
  rw [this]; unfold cd; rw [sR_nil (by omega)]
theorem cls_out {p n z : Int} {T : Int → Int} (n0 : 0 ≤ n) (hn : n ≤ 5) (hz : n < z) : nst z (2 ^ n.toNat) - rkD p n T z - rkD p n T (z - 1) = 0 := by
  have hb : ∀ s, 0 ≤ s → s < 2 ^ n.toNat → bt s ≤ n := fun s s0 s1 => by rw [← bt_n s0 n0 hn s1]; exact (cd_b n0).2
  have h1 : nst z (2 ^ n.toNat) = 0 := by
    unfold nst cd
    apply sR_zero'
    intro k k0 k1
    have := hb k k0 k1
    rw [if_neg]
    simp
    omega
  have h2 : rkD p n T z = 0 := by unfold rkD; rw [h1]; unfold cd; rw [sR_nil (by omega)]
  have h3 : rkD p n T (z - 1) = 0 := by
    have e : DD p n T (z - 1) = E0 := by
      unfold DD
      refine lp_ind (P := fun _ E => E = E0) rfl (fun s E s0 s1 hE => ?_) (by have := pw5 n0 hn; omega)
      have := hb s s0 s1
      rw [if_neg (by omega)]; exact hE
    unfold rkD; rw [e, cd0]
  omega
theorem R_classSize_s {p n z : Int} {T : Int → Int} (hR : RW σ p n T) (hz : 0 ≤ z ∧ z ≤ 5) (h : ∀ σ', Off DM σ σ' → Q (nst z (2 ^ n.toNat) - rkD p n T z - rkD p n T (z - 1)) σ') : Tri (d + 5) M_R_classSize [vA 161, vI z] σ Q := by
  obtain ⟨b1, b2, b3, b4⟩ := hR.1.1.b
  have e27 := hR.2.2.1
  have r1 := rkD_b (p := p) (n := n) (z := z) (T := T) (by omega) b4
  have r2 := rkD_b (p := p) (n := n) (z := z - 1) (T := T) (by omega) b4
  have hnb := nst_b (z := z) (n := n) (by omega) b4
  refine t_R_classSize (fun _ => ⟨fun _ => R_setsOf_s hR (R_rankOfD_s hR (by omega) (fun s1 hO1 => ⟨fun q => ?_, fun q => ?_⟩)), fun q => ?_⟩)
  · rw [w32_id (x := z - 1) (by omega) (by omega), w32_id (x := nst z (2 ^ n.toNat) - rkD p n T z) (by omega) (by omega)]
    refine R_rankOfD_s (hR.dm hO1) (by omega) (fun s2 hO2 => ?_)
    rw [w32_id (by omega) (by omega)]
    exact h s2 (Off_trans hO1 hO2)
  · subst q
    have := h s1 hO1
    rw [show (0 : Int) - 1 = -1 from rfl, rkD_m1] at this
    rw [w32_id (x := nst 0 (2 ^ n.toNat) - rkD p n T 0) (by omega) (by omega), w32_id (by omega) (by omega)]
    exact this
  · have := h σ Off_rfl
    rw [cls_out (by omega) b4 (by omega)] at this
    exact this
end CLS
