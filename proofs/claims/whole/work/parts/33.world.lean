/-! ===== the class's WORLD ===== -/
def PN (p n : Int) : Prop := (p = 2 ∧ 1 ≤ n ∧ n ≤ 5) ∨ (p = 3 ∧ 1 ≤ n ∧ n ≤ 5) ∨ (p = 5 ∧ 1 ≤ n ∧ n ≤ 4) ∨ (p = 7 ∧ 1 ≤ n ∧ n ≤ 3)
theorem PN.b {p n : Int} (h : PN p n) : 2 ≤ p ∧ p ≤ 7 ∧ 1 ≤ n ∧ n ≤ 5 := by unfold PN at h; omega
/-- a TABLE: numbers by the PRIME, signs turned, nothing beside the SIZE -/
def TW (p n : Int) (T : Int → Int) : Prop := PN p n ∧ (∀ t, 0 ≤ t → t < 125 → 0 ≤ T t ∧ T t < p) ∧ (∀ i j k, 0 ≤ i → i < 5 → 0 ≤ j → j < 5 → 0 ≤ k → k < 5 → T (25 * j + 5 * i + k) = (-(T (25 * i + 5 * j + k))) % p) ∧ (∀ i k, 0 ≤ i → i < 5 → 0 ≤ k → k < 5 → T (25 * i + 5 * i + k) = 0) ∧ (∀ i j k, 0 ≤ i → i < 5 → 0 ≤ j → j < 5 → 0 ≤ k → k < 5 → (n ≤ i ∨ n ≤ j ∨ n ≤ k) → T (25 * i + 5 * j + k) = 0)
/-- the class's WORLD at a -/
def WC (σ : SG) (a : Int) : Prop := obok 10 a ∧ TW (σ a 1) (σ a 2) (σ (a + 1))
/-- the BRACKET's part k -/
def br (p n : Int) (T x y : Int → Int) (k : Int) : Int := (sR (fun i => sR (fun j => x i * y j * T (25 * i + 5 * j + k)) 0 n) 0 n) % p
def jac (p n : Int) (T : Int → Int) (i j k m : Int) : Int := (sR (fun t => T (25 * j + 5 * k + t) * T (25 * i + 5 * t + m) + T (25 * k + 5 * i + t) * T (25 * j + 5 * t + m) + T (25 * i + 5 * j + t) * T (25 * k + 5 * t + m)) 0 n) % p
def Jz (p n : Int) (T : Int → Int) (i j k : Int) : Prop := ∀ m, 0 ≤ m → m < n → jac p n T i j k m = 0
def cnt (n : Int) (T : Int → Int) : Int := sR (fun i => sR (fun j => sR (fun k => if T (25 * i + 5 * j + k) = 0 then 0 else 1) 0 n) (i + 1) n) 0 n
def dg (p x k : Int) : Int := x / p ^ k.toNat % p
def horN (p : Int) (f : Int → Int) : Nat → Int → Int
  | 0, a => a
  | k + 1, a => horN p f k (a * p + f k)
theorem mul_small {a b A B : Int} (ha : 0 ≤ a) (hA : a ≤ A) (hb : 0 ≤ b) (hB : b ≤ B) : 0 ≤ a * b ∧ a * b ≤ A * B :=
  ⟨Int.mul_nonneg ha hb, Int.mul_le_mul hA hB hb (by omega)⟩
section WD
variable {d : Nat} {σ : SG} {Q : Int → SG → Prop}
theorem Wd_cell_s {a i j k : Int} (ho : obok 10 a) (hn : σ a 2 ≤ 5) (hi : 0 ≤ i ∧ i < σ a 2) (hj : 0 ≤ j ∧ j < σ a 2) (hk : 0 ≤ k ∧ k < σ a 2) (h : Q (σ (a + 1) (25 * i + 5 * j + k)) σ) : Tri (d + 1) M_Wd_cell [vA a, vI i, vI j, vI k] σ Q := by
  obtain ⟨_, hka, _⟩ := kd_world ho
  refine t_Wd_cell (fun _ _ _ => ?_)
  simp (disch := omega) only [w32_id]
  have e : ((i * 5 + j) * 5 + k) = 25 * i + 5 * j + k := by omega
  rw [e]
  exact ⟨fun q => by omega, fun _ => ⟨ho, fun q => by omega, fun _ => ⟨fun q => by omega, fun _ => ⟨ho, fun q => by omega, fun _ => ⟨fun q => by omega, fun _ => ⟨ho, fun _ => ⟨ho, rd_of hka (by omega) (by omega), h⟩, fun q => by omega⟩⟩⟩⟩⟩⟩
theorem Wd_setCell_s {a i j k v : Int} (ho : obok 10 a) (hp : 2 ≤ σ a 1) (hn : σ a 2 ≤ 5) (hi : 0 ≤ i ∧ i < σ a 2) (hj : 0 ≤ j ∧ j < σ a 2) (hk : 0 ≤ k ∧ k < σ a 2) (hij : i ≠ j) (hv : -1000000 ≤ v ∧ v ≤ 1000000) (h : Q 0 (up (up σ (a + 1) (25 * i + 5 * j + k) (v % σ a 1)) (a + 1) (25 * j + 5 * i + k) ((-v) % σ a 1))) : Tri (d + 2) M_Wd_setCell [vA a, vI i, vI j, vI k, vI v] σ Q := by
  obtain ⟨h0, hka, _⟩ := kd_world ho
  refine t_Wd_setCell (fun _ _ _ _ => ?_)
  simp (disch := omega) only [w32_id]
  rw [show ((i * 5 + j) * 5 + k) = 25 * i + 5 * j + k by omega, show ((j * 5 + i) * 5 + k) = 25 * j + 5 * i + k by omega]
  refine ⟨fun q => by omega, fun _ => ⟨fun q => by omega, fun _ => ⟨ho, fun q => by omega, fun _ => ⟨fun q => by omega, fun _ => ⟨ho, fun q => by omega, fun _ => ⟨fun q => by omega, fun _ => ⟨ho, fun _ => ⟨ho, ho, ?_⟩, fun q => by omega⟩⟩⟩⟩⟩⟩⟩
  refine X_mod_s hp ⟨wr_of (by omega) hka (by omega) (by omega), fun s9 e9 => ⟨ho, ho, ?_⟩⟩
  have e1 : s9 a 1 = σ a 1 := by rw [e9]; exact up_ne (by omega)
  rw [e1]
  refine X_mod_s hp ⟨wr_of (by omega) hka (by omega) (by omega), fun s11 e11 => ?_⟩
  rw [e11, e9]
  exact h
theorem lim_s {p n : Int} (h : PN p n) (hq : ∀ r, n ≤ r → r ≤ 5 → Q r σ) : Tri (d + 1) M_X_sizeLimit [vI p] σ Q := by
  unfold PN at h
  exact X_sizeLimit_s (fun q => hq _ (by omega) (by omega)) (fun q => hq _ (by omega) (by omega)) (fun q => hq _ (by omega) (by omega)) (fun q => hq _ (by omega) (by omega)) (fun q => by omega)
theorem Wd_makeEmpty_s {a p n : Int} (ho : obok 10 a) (hpn : PN p n) (h : Q 0 (fil (up (up σ a 1 p) a 2 n) (a + 1) 0 125 0)) : Tri (d + 2) M_Wd_makeEmpty [vA a, vI p, vI n] σ Q := by
  obtain ⟨h0, hka, _⟩ := kd_world ho
  obtain ⟨b1, b2, b3, b4⟩ := hpn.b
  refine t_Wd_makeEmpty (fun _ _ => ?_)
  refine lim_s hpn (fun r h1 h2 => ⟨fun _ => ⟨ho, fun s3 e3 => ⟨ho, fun s4 e4 => ⟨ho, ?_⟩⟩⟩, fun q => by omega⟩)
  refine JA_fill_s (by omega) hka (by omega) ?_
  rw [e4, e3, show max 1 (min n r) = n by omega]
  exact h
theorem Wd_copyFrom_s {a b : Int} (ho : obok 10 a) (hb : obok 10 b) (h : Q 0 (cpy (up (up σ a 1 (σ b 1)) a 2 (σ b 2)) (b + 1) 0 (a + 1) 0 125)) : Tri (d + 1) M_Wd_copyFrom [vA a, vA b] σ Q := by
  obtain ⟨h0, hka, _⟩ := kd_world ho
  obtain ⟨h1, hkb, _⟩ := kd_world hb
  refine t_Wd_copyFrom ⟨hb, ho, fun s1 e1 => ⟨hb, ho, fun s2 e2 => ⟨hb, ho, ⟨by omega, by rw [hka], by rw [hkb], by omega, by omega, by omega, by rw [hkb]; decide, by rw [hka]; decide⟩, fun s3 e3 => ?_⟩⟩⟩
  rw [e3, e2, e1, up_ne (show b ≠ a ∨ (2 : Int) ≠ 1 by omega)]
  exact h
theorem Wd_isLike_s {a b : Int} (ho : obok 10 a) (hb : obok 10 b) (h1 : σ a 1 = σ b 1 → σ a 2 = σ b 2 → Q 1 σ) (h0 : ¬ (σ a 1 = σ b 1 ∧ σ a 2 = σ b 2) → Q 0 σ) : Tri (d + 1) M_Wd_isLike [vA a, vA b] σ Q :=
  t_Wd_isLike ⟨ho, hb, fun q => h0 (fun z => q z.1), fun q => ⟨ho, hb, fun q2 => h0 (fun z => q2 z.2), fun q2 => h1 q q2⟩⟩
theorem PN.pow {p n : Int} (h : PN p n) : p ^ n.toNat ≤ 625 := by
  unfold PN at h
  rcases h with ⟨rfl, h⟩ | ⟨rfl, h⟩ | ⟨rfl, h⟩ | ⟨rfl, h⟩
  · have := pow_le (p := 2) (k := n.toNat) (n := 5) (by omega) (by omega); omega
  · have := pow_le (p := 3) (k := n.toNat) (n := 5) (by omega) (by omega); omega
  · have := pow_le (p := 5) (k := n.toNat) (n := 4) (by omega) (by omega); omega
  · have := pow_le (p := 7) (k := n.toNat) (n := 3) (by omega) (by omega); omega
theorem Wd_vectors_s {a : Int} (ho : obok 10 a) (hpn : PN (σ a 1) (σ a 2)) (h : Q (σ a 1 ^ (σ a 2).toNat) σ) : Tri (d + 2) M_Wd_vectors [vA a] σ Q := by
  have b1 := hpn.b
  have b2 := hpn.pow
  exact t_Wd_vectors ⟨ho, ho, X_raised_s (by omega) (by omega) (by omega) h⟩
theorem dg_zero {p x : Int} : dg p x 0 = x % p := by unfold dg; simp
theorem dg_succ {p x k : Int} (hk : 0 ≤ k) (hp : 0 < p) : dg p x (k + 1) = dg p (x / p) k := by
  unfold dg
  rw [show (k + 1).toNat = k.toNat + 1 by omega, Int.pow_succ, Int.mul_comm, Int.ediv_ediv_of_nonneg (by omega)]
theorem Wd_unpack_s {a o f x : Int} {len : Nat} (ho : obok 10 a) (hpn : PN (σ a 1) (σ a 2)) (h0 : 0 ≤ o) (hk : kd o = (100, len)) (hoa : o ≠ a) (hf : 0 ≤ f) (hfl : f + σ a 2 ≤ (len : Int)) (hlen : len ≤ 5000) (hx : 0 ≤ x)
    (h : ∀ σ', (∀ k, 0 ≤ k → k < σ a 2 → σ' o (f + k) = dg (σ a 1) x k) → Off (fun b j => b = o ∧ f ≤ j ∧ j < f + σ a 2) σ σ' → Q 0 σ') : Tri (d + 2) M_Wd_unpack [vA a, vI x, vA o, vI f] σ Q := by
  obtain ⟨b1, b2, b3, b4⟩ := hpn.b
  refine t_Wd_unpack (fun hxi _ => ?_)
  unfold inI at hxi
  refine loop_up (S := Int × SG) (P := fun k s => L (d + 2) M_Wd_unpack 6 [vA a, vU, vA o, vI f, vI s.1, vI k, vU] [] s.2 Q)
    (fun k s => 0 ≤ k ∧ k ≤ σ a 2 ∧ 0 ≤ s.1 ∧ s.1 ≤ x ∧ (∀ t, 0 ≤ t → dg (σ a 1) s.1 t = dg (σ a 1) x (k + t)) ∧ (∀ t, 0 ≤ t → t < k → s.2 o (f + t) = dg (σ a 1) x t) ∧ Off (fun b j => b = o ∧ f ≤ j ∧ j < f + σ a 2) σ s.2) (σ a 2) ?_ ?_ 0 (by omega) (x, σ) ⟨by omega, by omega, hx, by simp, fun t _ => by simp, fun t h1 h2 => by omega, Off_rfl⟩
  · rintro ⟨r, s⟩ ⟨_, _, _, _, _, hd, hO⟩
    have e2 : s a 2 = σ a 2 := hO a 2 (by omega)
    refine s_Wd_unpack_6 ⟨ho, fun _ => h _ (fun k h1 h2 => hd k h1 h2) hO, fun q => by simp only at q; omega⟩
  · rintro k ⟨r, s⟩ hk2 ⟨hk0, hkn, hr0, hrx, hdg, hd, hO⟩ ih
    have e2 : s a 2 = σ a 2 := hO a 2 (by omega)
    have e1 : s a 1 = σ a 1 := hO a 1 (by omega)
    simp only at hr0 hrx hdg hd ⊢
    refine s_Wd_unpack_6 ⟨ho, fun q => by omega, fun _ => ⟨by rw [hk], fun q => ?_, fun _ => ⟨ho, ?_⟩⟩⟩
    · rw [w32_id (by omega) (by omega), hk] at q; simp only at q; omega
    · rw [e1]
      refine X_mod_s (by omega) ?_
      rw [w32_id (x := f + k) (by omega) (by omega)]
      refine ⟨wr_of h0 hk (by omega) (by omega), fun s4 e4 => ⟨ho, fun _ => ⟨ho, ?_, ?_⟩, fun q => ?_⟩⟩
      · rw [e4, up_ne (by omega), e1]; omega
      · have e5 : s4 a 1 = σ a 1 := by rw [e4, up_ne (by omega), e1]
        have hm0 := Int.emod_nonneg r (show σ a 1 ≠ 0 by omega)
        have hm1 := Int.emod_lt_of_pos r (show 0 < σ a 1 by omega)
        have hq0 : 0 ≤ r / σ a 1 := Int.ediv_nonneg hr0 (by omega)
        have hml : r % σ a 1 ≤ r := by
          have h8 := Int.emod_add_mul_ediv r (σ a 1)
          have h9 := Int.mul_nonneg (show 0 ≤ σ a 1 by omega) hq0
          omega
        have hdiv : (r - r % σ a 1).tdiv (σ a 1) = r / σ a 1 := by
          rw [Int.tdiv_eq_ediv_of_nonneg (by omega)]
          have : r - r % σ a 1 = σ a 1 * (r / σ a 1) := by
            have := Int.emod_add_mul_ediv r (σ a 1); omega
          rw [this, Int.mul_ediv_cancel_left _ (by omega)]
        have hq1 : r / σ a 1 ≤ r := Int.ediv_le_self _ hr0
        rw [e5, w32_id (x := r - r % σ a 1) (by omega) (by omega), hdiv, w32_id (x := r / σ a 1) (by omega) (by omega), w32_id (x := k + 1) (by omega) (by omega)]
        refine ih (r / σ a 1, s4) ⟨by omega, by omega, hq0, by simp only; omega, fun t ht => ?_, fun t h1 h2 => ?_, ?_⟩
        · simp only
          rw [← dg_succ ht (by omega), hdg (t + 1) (by omega)]
          congr 1; omega
        · simp only
          by_cases htk : t = k
          · subst htk
            rw [e4, up_same]
            have := hdg 0 (by omega)
            rw [dg_zero] at this
            rw [this]; congr 1; omega
          · rw [e4, up_ne (by omega)]
            exact hd t h1 (by omega)
        · refine Off_trans hO ?_
          rw [e4]
          exact Off_up ⟨rfl, by omega, by omega⟩
      · exfalso
        rw [e4, up_ne (by omega), e1] at q; omega
end WD
