/-! ===== frames by predicate; leaves ===== -/
def Off (D : Int → Int → Prop) (σ σ' : SG) : Prop := ∀ a k, ¬ D a k → σ' a k = σ a k
theorem Off_rfl {D : Int → Int → Prop} {σ : SG} : Off D σ σ := fun _ _ _ => rfl
theorem Off_trans {D : Int → Int → Prop} {σ σ1 σ2 : SG} (h1 : Off D σ σ1) (h2 : Off D σ1 σ2) : Off D σ σ2 := fun a k h => (h2 a k h).trans (h1 a k h)
theorem Off_up {D : Int → Int → Prop} {σ : SG} {a k v : Int} (h : D a k) : Off D σ (up σ a k v) := fun b j hb => by
  apply up_ne
  by_cases h1 : b = a
  · right; intro h2; apply hb; rw [h1, h2]; exact h
  · exact Or.inl h1
theorem Off_mono {D D' : Int → Int → Prop} {σ σ1 : SG} (h : Off D σ σ1) (hd : ∀ a k, D a k → D' a k) : Off D' σ σ1 := fun a k hk => h a k (fun z => hk (hd a k z))
theorem kd_world {a : Int} (h : obok 10 a) : 0 ≤ a ∧ kd (a + 1) = (100, 125) ∧ a + 1 < 161 := by
  obtain ⟨h0, h1⟩ := h
  obtain ⟨n, rfl⟩ := nat_of h0
  rw [kd_nat] at h1
  have hn : n < 197 := by rw [← kf_len]; exact kdn_lt (by omega)
  have key : ∀ a, a < 197 → (kdn a).1 = 10 → kdn (a + 1) = (100, 125) ∧ a + 1 < 161 := by decide +kernel
  obtain ⟨k1, k2⟩ := key n hn h1
  refine ⟨h0, ?_, by omega⟩
  have : ((n : Int) + 1) = ((n + 1 : Nat) : Int) := by omega
  rw [this, kd_nat]
  exact k1
theorem kd_ech {a : Int} (h : obok 2 a) : 0 ≤ a ∧ a + 2 < 161 ∧ ((kd (a + 1) = (100, 25) ∧ kd (a + 2) = (100, 5) ∧ a ≠ 69 ∧ a ≠ 107) ∨ (kd (a + 1) = (100, 625) ∧ kd (a + 2) = (100, 25) ∧ (a = 69 ∨ a = 107))) := by
  obtain ⟨h0, h1⟩ := h
  obtain ⟨n, rfl⟩ := nat_of h0
  rw [kd_nat] at h1
  have hn : n < 197 := by rw [← kf_len]; exact kdn_lt (by omega)
  have key : ∀ a, a < 197 → (kdn a).1 = 2 → a + 2 < 161 ∧ ((kdn (a + 1) = (100, 25) ∧ kdn (a + 2) = (100, 5) ∧ a ≠ 69 ∧ a ≠ 107) ∨ (kdn (a + 1) = (100, 625) ∧ kdn (a + 2) = (100, 25) ∧ (a = 69 ∨ a = 107))) := by decide +kernel
  obtain ⟨k2, k3⟩ := key n hn h1
  refine ⟨h0, by omega, ?_⟩
  rw [show ((n : Int) + 1) = ((n + 1 : Nat) : Int) by omega, show ((n : Int) + 2) = ((n + 2 : Nat) : Int) by omega, kd_nat, kd_nat]
  rcases k3 with ⟨q1, q2, q3, q4⟩ | ⟨q1, q2, q3⟩
  · exact Or.inl ⟨q1, q2, by omega, by omega⟩
  · exact Or.inr ⟨q1, q2, by omega⟩
theorem rd_of {a i : Int} {t n : Nat} (h : kd a = (t, n)) (h0 : 0 ≤ i) (h1 : i < (n : Int)) : rdok t a i := ⟨by rw [h], h0, by rw [h]; exact h1⟩
theorem wr_of {a i : Int} {t n : Nat} (ha : 0 ≤ a) (h : kd a = (t, n)) (h0 : 0 ≤ i) (h1 : i < (n : Int)) : wrok t a i := ⟨ha, by rw [h], h0, by rw [h]; exact h1⟩
theorem pow_le {p : Int} {k n : Nat} (hp : 1 ≤ p) (h : k ≤ n) : p ^ k ≤ p ^ n := by
  obtain ⟨m, rfl⟩ := nat_of (show 0 ≤ p by omega)
  rw [← Int.natCast_pow, ← Int.natCast_pow]
  exact Int.ofNat_le.mpr (Nat.pow_le_pow_right (by omega) h)
theorem pow_pos' {p : Int} {k : Nat} (hp : 1 ≤ p) : 1 ≤ p ^ k := by
  have := pow_le (p := p) (k := 0) (n := k) hp (by omega)
  simpa using this
section LEAF
variable {d : Nat} {σ : SG} {Q : Int → SG → Prop}
theorem X_raised_s {p e : Int} (hp : 1 ≤ p) (he : 0 ≤ e) (hb : p ^ e.toNat < 2147483648) (h : Q (p ^ e.toNat) σ) : Tri (d + 1) M_X_raised [vI p, vI e] σ Q := by
  refine t_X_raised (fun _ he2 => ?_)
  refine loop_up (P := fun k x => L (d + 1) M_X_raised 4 [vI p, vI e, vI x, vI k] [] σ Q) (fun k x => 0 ≤ k ∧ x = p ^ k.toNat) e ?_ ?_ 0 he 1 ⟨by omega, by simp⟩
  · rintro x ⟨_, rfl⟩
    exact s_X_raised_4 ⟨fun _ => h, fun q => by omega⟩
  · rintro k x hk ⟨h0, rfl⟩ ih
    refine s_X_raised_4 ⟨fun q => by omega, fun _ => ?_⟩
    have e1 : p ^ k.toNat * p = p ^ (k + 1).toNat := by
      rw [show (k + 1).toNat = k.toNat + 1 by omega, Int.pow_succ]
    have b1 := pow_le (p := p) (k := (k + 1).toNat) (n := e.toNat) hp (by omega)
    have b2 := pow_pos' (p := p) (k := (k + 1).toNat) hp
    unfold inI at he2
    rw [e1, w32_id (by omega) (by omega), w32_id (by omega) (by omega)]
    exact ih _ ⟨by omega, rfl⟩
theorem X_sizeLimit_s {p : Int} (h2 : p = 2 → Q 5 σ) (h3 : p = 3 → Q 5 σ) (h5 : p = 5 → Q 4 σ) (h7 : p = 7 → Q 3 σ) (h0 : (p ≠ 2 ∧ p ≠ 3 ∧ p ≠ 5 ∧ p ≠ 7) → Q 0 σ) : Tri (d + 1) M_X_sizeLimit [vI p] σ Q :=
  t_X_sizeLimit (fun _ => ⟨fun q => h0 (by omega), h2, h3, fun q => h0 (by omega), h5, fun q => h0 (by omega), h7⟩)
theorem JI_compare_s {x y : Int} (h : Q (if x < y then -1 else if x = y then 0 else 1) σ) : Tri (d + 1) M_JI_compare [vI x, vI y] σ Q := by
  refine t_JI_compare (fun _ _ => ⟨fun h1 => ⟨fun h2 => ?_, fun h2 => ?_⟩, fun h1 => ?_⟩)
  · rw [if_neg (by omega), if_neg h2] at h; exact h
  · rw [if_neg (by omega), if_pos h2] at h; exact h
  · rw [if_pos h1] at h; exact h
theorem JA_range_s {n a b : Int} (h0 : 0 ≤ a) (h1 : a ≤ b) (h2 : b ≤ n) (h : Q 0 σ) : Tri (d + 1) M_JA_rangeCheck [vI n, vI a, vI b] σ Q :=
  t_JA_rangeCheck (fun _ _ _ => ⟨fun _ => ⟨fun _ => ⟨fun _ => h, fun q => by omega⟩, fun q => by omega⟩, fun q => by omega⟩)
/-- a stretch of one array takes one number -/
def fil (σ : SG) (a lo hi v : Int) : SG := fun b k => if b = a ∧ lo ≤ k ∧ k < hi then v else σ b k
theorem fil_step {σ : SG} {a lo k v : Int} (h : lo ≤ k) : up (fil σ a lo k v) a k v = fil σ a lo (k + 1) v := by
  funext b j
  unfold up fil
  by_cases h1 : b = a ∧ j = k
  · rw [if_pos h1, if_pos (by omega)]
  · rw [if_neg h1]
    by_cases h2 : b = a ∧ lo ≤ j ∧ j < k
    · rw [if_pos h2, if_pos (by omega)]
    · rw [if_neg h2, if_neg (by omega)]
theorem fil_zero {σ : SG} {a lo v : Int} : fil σ a lo lo v = σ := by
  funext b j
  unfold fil
  rw [if_neg (by omega)]
theorem fil_in {σ : SG} {a lo hi v k : Int} (h0 : lo ≤ k) (h1 : k < hi) : fil σ a lo hi v a k = v := by unfold fil; rw [if_pos ⟨rfl, h0, h1⟩]
theorem fil_ne {σ : SG} {a lo hi v b k : Int} (h : b ≠ a ∨ k < lo ∨ hi ≤ k) : fil σ a lo hi v b k = σ b k := by unfold fil; rw [if_neg (by omega)]
theorem JA_fillR_s {a lo hi v : Int} {n : Nat} (ha : 0 ≤ a) (hk : kd a = (100, n)) (h0 : 0 ≤ lo) (h1 : lo ≤ hi) (h2 : hi ≤ (n : Int)) (h : Q 0 (fil σ a lo hi v)) : Tri (d + 2) M_JA_fill___IIII_V [vA a, vI lo, vI hi, vI v] σ Q := by
  refine t_JA_fill___IIII_V (fun i1 i2 _ => ⟨⟨ha, by rw [hk]⟩, ?_⟩)
  refine JA_range_s h0 h1 (by rw [hk]; exact h2) ?_
  refine loop_up (P := fun k s => L (d + 2) M_JA_fill___IIII_V 10 [vA a, vU, vI hi, vI v, vI k] [] s Q) (fun k s => lo ≤ k ∧ s = fil σ a lo k v) hi ?_ ?_ lo h1 σ ⟨by omega, fil_zero.symm⟩
  · rintro s ⟨_, rfl⟩
    exact s_JA_fill___IIII_V_10 ⟨fun _ => h, fun q => by omega⟩
  · rintro k s hk2 ⟨hl, rfl⟩ ih
    refine s_JA_fill___IIII_V_10 ⟨fun q => by omega, fun _ => ⟨wr_of ha hk (by omega) (by omega), fun s2 e2 => ?_⟩⟩
    unfold inI at i2
    rw [w32_id (by omega) (by omega)]
    exact ih _ ⟨by omega, by rw [e2, fil_step hl]⟩
theorem JA_fillJ_s {a lo hi v : Int} {n : Nat} (ha : 0 ≤ a) (hk : kd a = (101, n)) (h0 : 0 ≤ lo) (h1 : lo ≤ hi) (h2 : hi ≤ (n : Int)) (h : Q 0 (fil σ a lo hi v)) : Tri (d + 2) M_JA_fill [vA a, vI lo, vI hi, vJ v] σ Q := by
  refine t_JA_fill (fun i1 i2 _ => ⟨⟨ha, by rw [hk]⟩, ?_⟩)
  refine JA_range_s h0 h1 (by rw [hk]; exact h2) ?_
  refine loop_up (P := fun k s => L (d + 2) M_JA_fill 10 [vA a, vU, vI hi, vJ v, vU, vI k] [] s Q) (fun k s => lo ≤ k ∧ s = fil σ a lo k v) hi ?_ ?_ lo h1 σ ⟨by omega, fil_zero.symm⟩
  · rintro s ⟨_, rfl⟩
    exact s_JA_fill_10 ⟨fun _ => h, fun q => by omega⟩
  · rintro k s hk2 ⟨hl, rfl⟩ ih
    refine s_JA_fill_10 ⟨fun q => by omega, fun _ => ⟨wr_of ha hk (by omega) (by omega), fun s2 e2 => ?_⟩⟩
    unfold inI at i2
    rw [w32_id (by omega) (by omega)]
    exact ih _ ⟨by omega, by rw [e2, fil_step hl]⟩
theorem JA_fill_s {a v : Int} {n : Nat} (ha : 0 ≤ a) (hk : kd a = (100, n)) (hn : n < 4000) (h : Q 0 (fil σ a 0 n v)) : Tri (d + 1) M_JA_fill___II_V [vA a, vI v] σ Q := by
  refine t_JA_fill___II_V (fun _ => ⟨⟨ha, by rw [hk]⟩, ?_⟩)
  rw [hk]
  refine loop_up (P := fun k s => L (d + 1) M_JA_fill___II_V 5 [vA a, vI v, vI k, vI (n : Int)] [] s Q) (fun k s => 0 ≤ k ∧ s = fil σ a 0 k v) n ?_ ?_ 0 (by omega) σ ⟨by omega, fil_zero.symm⟩
  · rintro s ⟨_, rfl⟩
    exact s_JA_fill___II_V_5 ⟨fun _ => h, fun q => by omega⟩
  · rintro k s hk2 ⟨hl, rfl⟩ ih
    refine s_JA_fill___II_V_5 ⟨fun q => by omega, fun _ => ⟨wr_of ha hk (by omega) (by omega), fun s2 e2 => ?_⟩⟩
    rw [w32_id (by omega) (by omega)]
    exact ih _ ⟨by omega, by rw [e2, fil_step hl]⟩
end LEAF
