/-! ===== closed 2-FORMS: of both ===== -/
def ci (n i j : Int) : Int := i * n - i * (i + 1) / 2 + j - i - 1
theorem ci_0 {n i : Int} (i0 : 0 ≤ i) (i1 : i < 5) : ci n (i + 1) (i + 1 + 1) = ci n i n := by
  have h : i = 0 ∨ i = 1 ∨ i = 2 ∨ i = 3 ∨ i = 4 := by omega
  unfold ci
  rcases h with rfl | rfl | rfl | rfl | rfl <;> omega
theorem ci_b {n i j : Int} (i0 : 0 ≤ i) (ij : i < j) (jn : j ≤ n) (hn : n ≤ 5) : 0 ≤ ci n i j ∧ ci n i j ≤ 10 ∧ (j < n → ci n i j < n * (n - 1) / 2) := by
  have h : i = 0 ∨ i = 1 ∨ i = 2 ∨ i = 3 ∨ i = 4 := by omega
  have hn' : n = 1 ∨ n = 2 ∨ n = 3 ∨ n = 4 ∨ n = 5 := by omega
  unfold ci
  rcases h with rfl | rfl | rfl | rfl | rfl <;> rcases hn' with rfl | rfl | rfl | rfl | rfl <;> omega
theorem ci_s {n i j : Int} : ci n i (j + 1) = ci n i j + 1 := by unfold ci; omega
/-- a 2-FORM by its couples -/
def ffm (n : Int) (c : Int → Int) (i j : Int) : Int := if i = j then 0 else if i < j then c (ci n i j) else -(c (ci n j i))
def ffb (n : Int) (T c : Int → Int) (i j k : Int) : Int := sR (fun m => T (25 * i + 5 * j + m) * ffm n c m k) 0 n
def CLO (p n : Int) (T c : Int → Int) : Prop := ∀ i j k, 0 ≤ i → i < j → j < k → k < n → (-(ffb n T c i j k) + ffb n T c i k j - ffb n T c j k i) % p = 0
def N2 (i j : Int) : Int := nst 2 (or32 (shl32 1 i) (shl32 1 j))
def phi (n : Int) (c r : Int → Int) : Int := sR (fun i => sR (fun j => c (ci n i j) * r (N2 i j)) (i + 1) n) 0 n
theorem N2_b {i j n : Int} (i0 : 0 ≤ i) (ij : i < j) (jn : j < n) (hn : n ≤ 5) : (0 ≤ or32 (shl32 1 i) (shl32 1 j) ∧ or32 (shl32 1 i) (shl32 1 j) < 2 ^ n.toNat ∧ bt (or32 (shl32 1 i) (shl32 1 j)) = 2) ∧ 0 ≤ N2 i j ∧ N2 i j < 10 := by
  have e : shl32 1 i = or32 0 (shl32 1 i) := by
    have key : ∀ i : Nat, i < 5 → shl32 1 (i : Int) = or32 0 (shl32 1 (i : Int)) := by decide +kernel
    obtain ⟨i, rfl⟩ := nat_of i0
    exact key i (by omega)
  have h0 : bt 0 = 0 := by decide +kernel
  have hp5 := pw5 (n := n) (by omega) hn
  obtain ⟨a1, a2, a3⟩ := who_b (o := 0) (m := i) hn (by omega) (by omega) i0 (by omega) (tb_zero i)
  have hb : tb (or32 0 (shl32 1 i)) j = false := by
    rw [(or_bit (w := n.toNat) (by omega) (by omega) (by omega) i0 (by omega)).2.2 j (by omega), tb_zero]
    simp; omega
  obtain ⟨c1, c2, c3⟩ := who_b (o := or32 0 (shl32 1 i)) (m := j) hn a1 a2 (by omega) jn hb
  rw [← e] at c1 c2 c3 a3
  have hw : bt (or32 (shl32 1 i) (shl32 1 j)) = 2 := by rw [c3, a3, h0]; rfl
  have hl := nst_lt (z := 2) c1 c2 hw
  have hnb := nst_b (z := 2) (n := n) (by omega) hn
  exact ⟨⟨c1, c2, hw⟩, hl.1, by unfold N2; omega⟩
theorem N2_inj {i j i' j' : Int} (i0 : 0 ≤ i) (ij : i < j) (j1 : j < 5) (i0' : 0 ≤ i') (ij' : i' < j') (j1' : j' < 5) (h : N2 i j = N2 i' j') : i = i' ∧ j = j' := by
  have key : ∀ i : Nat, i < 5 → ∀ j : Nat, j < 5 → ∀ i' : Nat, i' < 5 → ∀ j' : Nat, j' < 5 → (!(decide (i < j) && decide (i' < j') && decide (N2 (i : Int) (j : Int) = N2 (i' : Int) (j' : Int))) || (decide (i = i') && decide (j = j'))) = true := by decide +kernel
  obtain ⟨i, rfl⟩ := nat_of i0
  obtain ⟨j, rfl⟩ := nat_of (show 0 ≤ j by omega)
  obtain ⟨i', rfl⟩ := nat_of i0'
  obtain ⟨j', rfl⟩ := nat_of (show 0 ≤ j' by omega)
  have := key i (by omega) j (by omega) i' (by omega) j' (by omega)
  have h1 : i < j := by omega
  have h2 : i' < j' := by omega
  simp [h, h1, h2] at this
  omega
theorem phi_add {n t i j : Int} {c r : Int → Int} (hn : n ≤ 5) (i0 : 0 ≤ i) (ij : i < j) (jn : j < n) : phi n c (fun u => r u + (if u = N2 i j then t else 0)) = phi n c r + t * c (ci n i j) := by
  have e : phi n c (fun u => r u + (if u = N2 i j then t else 0)) = phi n c r + sR (fun i' => sR (fun j' => if N2 i' j' = N2 i j then t * c (ci n i' j') else 0) (i' + 1) n) 0 n := by
    unfold phi
    rw [← sR_add]
    apply sR_congr
    intro i' _ _
    rw [← sR_add]
    apply sR_congr
    intro j' _ _
    simp only
    split <;> grind
  rw [e, sR_one (l := i) i0 (by omega) (fun k k0 k1 hk => sR_zero' (fun j' q0 q1 => if_neg (fun h => hk (N2_inj k0 (by omega) (by omega) i0 ij (by omega) h).1))), sR_one (l := j) (by omega) jn (fun k k0 k1 hk => if_neg (fun h => hk (N2_inj i0 (by omega) (by omega) i0 ij (by omega) h).2)), if_pos rfl]
/-- three bits -/
def s3 (x y w : Int) : Int := 2 ^ x.toNat + 2 ^ y.toNat + 2 ^ w.toNat
def sg3 (x y w : Int) : Int := if w < x ∨ y < w then -1 else 1
def ok3 (x y w m : Nat) : Bool := !(decide (x < y) && decide (w ≠ x) && decide (w ≠ y)) || (decide (tb (oth (s3 x y w) x y) (m : Int) = decide (m = w)) && (decide (m = w) || (decide (sgn (s3 x y w) x y (m : Int) = (if m < w then sg3 x y w else - sg3 x y w)) && decide (nst 2 (or32 (oth (s3 x y w) x y) (shl32 1 (m : Int))) = (if m < w then N2 (m : Int) (w : Int) else N2 (w : Int) (m : Int))))))
theorem ok3_all : ∀ x : Nat, x < 5 → ∀ y : Nat, y < 5 → ∀ w : Nat, w < 5 → ∀ m : Nat, m < 5 → ok3 x y w m = true := by decide +kernel
theorem phi_aD {n x y w m : Int} {T c r : Int → Int} (hn : n ≤ 5) (x0 : 0 ≤ x) (xy : x < y) (yn : y < n) (w0 : 0 ≤ w) (wn : w < n) (hx : w ≠ x) (hy : w ≠ y) (m0 : 0 ≤ m) (mn : m < n) : phi n c (aD n T 2 (s3 x y w) x y m r) = phi n c r + sg3 x y w * (T (25 * x + 5 * y + m) * ffm n c m w) := by
  obtain ⟨x, rfl⟩ := nat_of x0
  obtain ⟨y, rfl⟩ := nat_of (show 0 ≤ y by omega)
  obtain ⟨w, rfl⟩ := nat_of w0
  obtain ⟨m, rfl⟩ := nat_of m0
  have h := ok3_all x (by omega) y (by omega) w (by omega) m (by omega)
  unfold ok3 at h
  have h1 : x < y := by omega
  have h2 : w ≠ x := by omega
  have h3 : w ≠ y := by omega
  simp only [h1, h2, h3, ne_eq, not_false_eq_true, decide_true, Bool.and_true, Bool.not_true, Bool.false_or, Bool.and_eq_true, decide_eq_true_eq, Bool.or_eq_true] at h
  obtain ⟨g1, g2⟩ := h
  unfold aD
  rw [g1]
  unfold ffm
  by_cases hmw : m = w
  · subst hmw
    simp
  · have hmw' : ¬ ((m : Int) = (w : Int)) := by omega
    rw [if_neg (by simp [hmw]), if_neg hmw']
    rcases g2 with g2 | ⟨g3, g4⟩
    · exact absurd g2 hmw
    · rw [g3, g4]
      by_cases hlt : m < w
      · have hlt' : (m : Int) < (w : Int) := by omega
        rw [if_pos hlt, if_pos hlt, if_pos hlt', phi_add hn (by omega) hlt' wn]
        grind
      · have hlt' : ¬ (m : Int) < (w : Int) := by omega
        rw [if_neg hlt, if_neg hlt, if_neg hlt', phi_add hn (by omega) (by omega) mn]
        grind
theorem phi_row {n x y w : Int} {T c r : Int → Int} (hn0 : 0 ≤ n) (hn : n ≤ 5) (x0 : 0 ≤ x) (xy : x < y) (yn : y < n) (w0 : 0 ≤ w) (wn : w < n) (hx : w ≠ x) (hy : w ≠ y) : phi n c (lp (fun m r => aD n T 2 (s3 x y w) x y m r) 0 n r) = phi n c r + sg3 x y w * ffb n T c x y w := by
  have := lp_ind (f := fun m r => aD n T 2 (s3 x y w) x y m r) (lo := 0) (s := r) (P := fun k t => phi n c t = phi n c r + sg3 x y w * sR (fun m => T (25 * x + 5 * y + m) * ffm n c m w) 0 k) (by rw [sR_nil (by omega)]; simp) (hi := n) (fun k t k0 k1 ht => ?_) hn0
  · exact this
  · show phi n c (aD n T 2 (s3 x y w) x y k t) = _
    rw [phi_aD hn x0 xy yn w0 wn hx hy k0 k1, ht, sR_succ k0, Int.mul_add]
    omega
theorem s3_p {x y w : Int} : s3 x y w = s3 x w y ∧ s3 x y w = s3 y w x := by unfold s3; omega
def ok4 (i j k x : Nat) : Bool := !(decide (i < j) && decide (j < k)) || (decide (tb (s3 i j k) (x : Int) = (decide (x = i) || decide (x = j) || decide (x = k))) && decide (0 ≤ s3 i j k) && decide (s3 i j k < 32) && decide (bt (s3 i j k) = 3))
theorem ok4_all : ∀ i : Nat, i < 5 → ∀ j : Nat, j < 5 → ∀ k : Nat, k < 5 → ∀ x : Nat, x < 5 → ok4 i j k x = true := by decide +kernel
theorem s3_b {i j k x : Int} (i0 : 0 ≤ i) (ij : i < j) (jk : j < k) (k5 : k < 5) (x0 : 0 ≤ x) (x5 : x < 5) : (tb (s3 i j k) x = true ↔ x = i ∨ x = j ∨ x = k) ∧ 0 ≤ s3 i j k ∧ s3 i j k < 32 ∧ bt (s3 i j k) = 3 := by
  obtain ⟨i, rfl⟩ := nat_of i0
  obtain ⟨j, rfl⟩ := nat_of (show 0 ≤ j by omega)
  obtain ⟨k, rfl⟩ := nat_of (show 0 ≤ k by omega)
  obtain ⟨x, rfl⟩ := nat_of x0
  have h := ok4_all i (by omega) j (by omega) k (by omega) x (by omega)
  unfold ok4 at h
  have h1 : i < j := by omega
  have h2 : j < k := by omega
  simp only [h1, h2, decide_true, Bool.and_true, Bool.not_true, Bool.false_or, Bool.and_eq_true, decide_eq_true_eq] at h
  obtain ⟨⟨⟨g1, g2⟩, g3⟩, g4⟩ := h
  refine ⟨?_, g2, g3, g4⟩
  rw [g1]
  simp only [Bool.or_eq_true, decide_eq_true_eq]
  omega
theorem sR_two {f : Int → Int} {lo hi a b : Int} (h0 : lo ≤ a) (hab : a < b) (hb : b < hi) (h : ∀ k, lo ≤ k → k < hi → k ≠ a → k ≠ b → f k = 0) : sR f lo hi = f a + f b := by
  rw [sR_split (mid := b) (by omega) (by omega), sR_one (l := a) h0 hab (fun k k0 k1 hk => h k k0 (by omega) hk (by omega)), sR_one (lo := b) (l := b) (by omega) hb (fun k k0 k1 hk => h k (by omega) k1 (by omega) hk)]
theorem phi_rwD {n i j k : Int} {T c : Int → Int} (hn0 : 0 ≤ n) (hn : n ≤ 5) (i0 : 0 ≤ i) (ij : i < j) (jk : j < k) (kn : k < n) : phi n c (rwD n T 2 (s3 i j k)) = -(ffb n T c i j k) + ffb n T c i k j - ffb n T c j k i := by
  have hb : ∀ x, 0 ≤ x → x < n → (tb (s3 i j k) x = true ↔ x = i ∨ x = j ∨ x = k) := fun x x0 x1 => (s3_b i0 ij jk (by omega) x0 (by omega)).1
  -- each couple of the three
  have step : ∀ x y r, 0 ≤ x → x < y → y < n → phi n c (bD n T 2 (s3 i j k) x y r) = phi n c r + (if x = i ∧ y = j then -(ffb n T c i j k) else if x = i ∧ y = k then ffb n T c i k j else if x = j ∧ y = k then -(ffb n T c j k i) else 0) := fun x y r x0 xy yn => by
    unfold bD
    by_cases hx : tb (s3 i j k) x = true ∧ tb (s3 i j k) y = true
    · rw [if_pos hx]
      have h1 := (hb x x0 (by omega)).mp hx.1
      have h2 := (hb y (by omega) yn).mp hx.2
      by_cases c1 : x = i ∧ y = j
      · rw [if_pos c1, c1.1, c1.2, phi_row hn0 hn i0 ij (by omega) (by omega) kn (by omega) (by omega)]
        unfold sg3; rw [if_pos (by omega)]; omega
      · by_cases c2 : x = i ∧ y = k
        · rw [if_neg c1, if_pos c2, c2.1, c2.2, s3_p.1, phi_row hn0 hn i0 (by omega) kn (by omega) (by omega) (by omega) (by omega)]
          unfold sg3; rw [if_neg (by omega)]; omega
        · have c3 : x = j ∧ y = k := by omega
          rw [if_neg c1, if_neg c2, if_pos c3, c3.1, c3.2, s3_p.2, phi_row hn0 hn (by omega) jk kn i0 (by omega) (by omega) (by omega)]
          unfold sg3; rw [if_pos (by omega)]; omega
    · rw [if_neg hx]
      have hxx : ¬ ((x = i ∨ x = j ∨ x = k) ∧ (y = i ∨ y = j ∨ y = k)) := fun z => hx ⟨(hb x x0 (by omega)).mpr z.1, (hb y (by omega) yn).mpr z.2⟩
      rw [if_neg (by omega), if_neg (by omega), if_neg (by omega), Int.add_zero]
  have inner : ∀ x r, 0 ≤ x → x < n → phi n c (lp (fun y r => bD n T 2 (s3 i j k) x y r) (x + 1) n r) = phi n c r + sR (fun y => if x = i ∧ y = j then -(ffb n T c i j k) else if x = i ∧ y = k then ffb n T c i k j else if x = j ∧ y = k then -(ffb n T c j k i) else 0) (x + 1) n := fun x r x0 x1 => by
    refine lp_ind (f := fun y r => bD n T 2 (s3 i j k) x y r) (lo := x + 1) (s := r) (P := fun q t => phi n c t = phi n c r + sR (fun y => if x = i ∧ y = j then -(ffb n T c i j k) else if x = i ∧ y = k then ffb n T c i k j else if x = j ∧ y = k then -(ffb n T c j k i) else 0) (x + 1) q) (by rw [sR_nil (by omega), Int.add_zero]) (hi := n) (fun q t q0 q1 ht => ?_) (by omega)
    show phi n c (bD n T 2 (s3 i j k) x q t) = _
    rw [step x q t x0 (by omega) q1, ht, sR_succ q0]; omega
  have outer : phi n c (rwD n T 2 (s3 i j k)) = phi n c (fun _ => 0) + sR (fun x => sR (fun y => if x = i ∧ y = j then -(ffb n T c i j k) else if x = i ∧ y = k then ffb n T c i k j else if x = j ∧ y = k then -(ffb n T c j k i) else 0) (x + 1) n) 0 n := by
    unfold rwD
    refine lp_ind (f := fun x r => lp (fun y r => bD n T 2 (s3 i j k) x y r) (x + 1) n r) (lo := 0) (s := fun _ => 0) (P := fun q t => phi n c t = phi n c (fun _ => 0) + sR (fun x => sR (fun y => if x = i ∧ y = j then -(ffb n T c i j k) else if x = i ∧ y = k then ffb n T c i k j else if x = j ∧ y = k then -(ffb n T c j k i) else 0) (x + 1) n) 0 q) (by rw [sR_nil (by omega), Int.add_zero]) (hi := n) (fun q t q0 q1 ht => ?_) hn0
    show phi n c (lp (fun y r => bD n T 2 (s3 i j k) q y r) (q + 1) n t) = _
    rw [inner q t q0 q1, ht, sR_succ q0]; omega
  rw [outer]
  have z0 : phi n c (fun _ => 0) = 0 := by
    unfold phi
    exact sR_zero' (fun x _ _ => sR_zero' (fun y _ _ => by simp))
  rw [z0, sR_two (a := i) (b := j) i0 ij (by omega) (fun x x0 x1 h1 h2 => sR_zero' (fun y _ _ => by rw [if_neg (by omega), if_neg (by omega), if_neg (by omega)])), sR_two (lo := i + 1) (a := j) (b := k) (by omega) jk kn (fun y _ _ h1 h2 => by rw [if_neg (by omega), if_neg (by omega), if_neg (by omega)]), sR_one (lo := j + 1) (l := k) (by omega) kn (fun y _ _ h1 => by rw [if_neg (by omega), if_neg (by omega), if_neg (by omega)])]
  rw [if_pos (⟨rfl, rfl⟩ : i = i ∧ j = j), if_neg (show ¬ (i = i ∧ k = j) by omega), if_pos (⟨rfl, rfl⟩ : i = i ∧ k = k), if_neg (show ¬ (j = i ∧ k = j) by omega), if_neg (show ¬ (j = i ∧ k = k) by omega), if_pos (⟨rfl, rfl⟩ : j = j ∧ k = k)]
  omega
/-- sets of three are three bits -/
theorem s3_of {n s : Int} (n0 : 0 ≤ n) (hn : n ≤ 5) (s0 : 0 ≤ s) (s1 : s < 2 ^ n.toNat) (hb : bt s = 3) : ∃ i j k, 0 ≤ i ∧ i < j ∧ j < k ∧ k < n ∧ s = s3 i j k := by
  have hp5 := pw5 n0 hn
  have hc : cd (tb s) n = 3 := by rw [bt_n s0 n0 hn s1, hb]
  obtain ⟨i, i0, i1, i2, i3⟩ := cd_sel (ℓ := tb s) (w := n) (r := 0) n0 (by omega) (by omega)
  obtain ⟨j, j0, j1, j2, j3⟩ := cd_sel (ℓ := tb s) (w := n) (r := 1) n0 (by omega) (by omega)
  obtain ⟨k, k0, k1, k2, k3⟩ := cd_sel (ℓ := tb s) (w := n) (r := 2) n0 (by omega) (by omega)
  have ij : i < j := (cd_iff (ℓ := tb s) i0 j0 i2).mp (by omega)
  have jk : j < k := (cd_iff (ℓ := tb s) j0 k0 j2).mp (by omega)
  refine ⟨i, j, k, i0, ij, jk, k1, ?_⟩
  have h3 := s3_b (x := 0) i0 ij jk (by omega) (by omega) (by omega)
  refine tb_ext (w := 5) s0 (by omega) h3.2.1 (by omega) (fun l l0 l1 => ?_)
  have hl := (s3_b (x := l) i0 ij jk (by omega) l0 (by omega)).1
  cases ht : tb s l with
  | true =>
    symm
    apply hl.mpr
    by_cases hln : l < n
    · have h5 := cd_lt (ℓ := tb s) l0 hln ht
      have h6 := (cd_b (ℓ := tb s) l0).1
      have h7 : cd (tb s) l = 0 ∨ cd (tb s) l = 1 ∨ cd (tb s) l = 2 := by omega
      rcases h7 with h7 | h7 | h7
      · exact Or.inl (cd_inj l0 i0 ht i2 (by omega))
      · exact Or.inr (Or.inl (cd_inj l0 j0 ht j2 (by omega)))
      · exact Or.inr (Or.inr (cd_inj l0 k0 ht k2 (by omega)))
    · exfalso
      have h5 := cd_lt (ℓ := tb s) (w := 5) l0 (by omega) ht
      have h6 := cd_mono (ℓ := tb s) n0 (show n ≤ l by omega)
      have : cd (tb s) 5 = 3 := hb
      omega
  | false =>
    symm
    cases ht2 : tb (s3 i j k) l with
    | false => rfl
    | true =>
      rcases hl.mp ht2 with h5 | h5 | h5
      · rw [h5, i2] at ht; cases ht
      · rw [h5, j2] at ht; cases ht
      · rw [h5, k2] at ht; cases ht
theorem s3_lt {n i j k : Int} (hn : n ≤ 5) (i0 : 0 ≤ i) (ij : i < j) (jk : j < k) (kn : k < n) : s3 i j k < 2 ^ n.toNat := by
  have key : ∀ i : Nat, i < 5 → ∀ j : Nat, j < 5 → ∀ k : Nat, k < 5 → (!(decide (i < j) && decide (j < k)) || decide (s3 i j k < 2 ^ (k + 1))) = true := by decide +kernel
  have hle := pow_le (p := 2) (k := (k + 1).toNat) (n := n.toNat) (by omega) (by omega)
  obtain ⟨i, rfl⟩ := nat_of i0
  obtain ⟨j, rfl⟩ := nat_of (show 0 ≤ j by omega)
  obtain ⟨k, rfl⟩ := nat_of (show 0 ≤ k by omega)
  have h := key i (by omega) j (by omega) k (by omega)
  have h1 : i < j := by omega
  have h2 : j < k := by omega
  simp only [h1, h2, decide_true, Bool.and_true, Bool.not_true, Bool.false_or, decide_eq_true_eq] at h
  rw [show ((k : Int) + 1).toNat = k + 1 by omega] at hle
  omega
section CLD
variable {d : Nat} {σ : SG} {Q : Int → SG → Prop}
theorem Me_valueOf_s {a p n : Int} {T c r : Int → Int} (hW : WD σ a p n T) (hc : ∀ q, 0 ≤ q → q < n * (n - 1) / 2 → σ 4 q = c q ∧ 0 ≤ c q ∧ c q < p) (hN : NB σ n 2) (hr : ∀ u, 0 ≤ u → u < 25 → σ 72 u = r u % p)
    (h : Q (phi n c (fun u => r u % p)) σ) : Tri (d + 1) M_Me_valueOf [vA 68, vA a, vA 4] σ Q := by
  obtain ⟨b1, b2, b3, b4⟩ := hW.pn.b
  obtain ⟨ho, hp, hn, _, hT⟩ := id hW
  refine t_Me_valueOf ?_
  refine loop_up (P := fun i (s : Int × Int) => L (d + 1) M_Me_valueOf 8 [vA 68, vA a, vA 4, vI s.1, vI s.2, vI i, vU] [] σ Q)
    (fun i s => 0 ≤ i ∧ (0 ≤ s.1 ∧ s.1 ≤ 200 * i) ∧ s.2 = ci n i (i + 1) ∧ s.1 = sR (fun i => sR (fun j => c (ci n i j) * (r (N2 i j) % p)) (i + 1) n) 0 i) n ?_ ?_ 0 (by omega) (0, 0) ⟨by omega, by simp, by unfold ci; simp, by simp only; rw [sR_nil (by omega)]⟩
  · rintro ⟨v, at_⟩ ⟨_, _, _, hv⟩
    simp only at hv ⊢
    refine s_Me_valueOf_8 ⟨ho, fun _ => ?_, fun q => by omega⟩
    rw [hv]; exact h
  · rintro i ⟨v, at_⟩ hi ⟨i0, hvb, hat, hv⟩ ih
    simp only at hvb hat hv ⊢
    refine s_Me_valueOf_8 ⟨ho, fun q => by omega, fun _ => ?_⟩
    rw [w32_id (by omega) (by omega)]
    refine loop_up (P := fun j (s : Int × Int) => L (d + 1) M_Me_valueOf 23 [vA 68, vA a, vA 4, vI s.1, vI s.2, vI i, vI j] [] σ Q)
      (fun j s => i + 1 ≤ j ∧ (0 ≤ s.1 ∧ s.1 ≤ 200 * i + 40 * j) ∧ s.2 = ci n i j ∧ s.1 = v + sR (fun j => c (ci n i j) * (r (N2 i j) % p)) (i + 1) j) n ?_ ?_ (i + 1) (by omega) (v, at_) ⟨by omega, by simp only; omega, hat, by simp only; rw [sR_nil (by omega)]; omega⟩
    · rintro ⟨v2, at2⟩ ⟨_, hvb2, hat2, hv2⟩
      simp only at hvb2 hat2 hv2 ⊢
      refine s_Me_valueOf_23 ⟨ho, fun _ => ?_, fun q => by omega⟩
      rw [w32_id (by omega) (by omega)]
      exact ih (v2, at2) ⟨by omega, by simp only; omega, by simp only; rw [hat2, ci_0 i0 (by omega)], by simp only; rw [sR_succ i0, hv2, hv]⟩
    · rintro j ⟨v2, at2⟩ hj ⟨j0, hvb2, hat2, hv2⟩ ih2
      simp only at hvb2 hat2 hv2 ⊢
      have hcb := ci_b i0 (show i < j by omega) (show j ≤ n by omega) b4
      have hN2 := N2_b i0 (show i < j by omega) hj b4
      have hcc := hc (ci n i j) hcb.1 (hcb.2.2 hj)
      have hrm : 0 ≤ r (N2 i j) % p ∧ r (N2 i j) % p < p := ⟨Int.emod_nonneg _ (by omega), Int.emod_lt_of_pos _ (by omega)⟩
      have hm := mul36 b2 hcc.2.1 hcc.2.2 hrm.1 hrm.2
      have hp5 := pw5 (n := n) (by omega) b4
      refine s_Me_valueOf_23 ⟨ho, fun q => by omega, fun _ => ⟨by rw [kd_4], fun q => by rw [kd_4] at q; simp only at q; omega, fun _ => ?_⟩⟩
      have e77 : σ 77 (or32 (shl32 1 i) (shl32 1 j)) = N2 i j := hN _ hN2.1.1 hN2.1.2.1 hN2.1.2.2
      rw [e77, hat2, hcc.1, hr (N2 i j) hN2.2.1 (by omega), w32_id (x := c (ci n i j) * (r (N2 i j) % p)) (by omega) (by omega), w32_id (x := v2 + c (ci n i j) * (r (N2 i j) % p)) (by omega) (by omega), w32_id (x := ci n i j + 1) (by omega) (by omega), w32_id (x := j + 1) (by omega) (by omega)]
      refine ⟨rd_of kd_4 (by omega) (by omega), ⟨hN2.1.1, by omega⟩, ⟨hN2.2.1, by omega⟩, ih2 (_, _) ⟨by omega, by simp only; omega, by simp only; rw [ci_s], by simp only; rw [sR_succ j0, hv2]; omega⟩⟩
theorem phi_mod {p n : Int} {c r : Int → Int} : phi n c (fun u => r u % p) % p = phi n c r % p := by
  unfold phi
  apply sR_mod
  intro i _ _
  apply sR_mod
  intro j _ _
  obtain ⟨q, hq⟩ := emod_ex (r (N2 i j)) p
  refine emod_cg (q := c (ci n i j) * q) ?_
  show c (ci n i j) * (r (N2 i j) % p) = _
  rw [hq]; grind
theorem Me_isClosed_s {a p n : Int} {T c : Int → Int} (hW : WD σ a p n T) (ha : a ≤ 20) (ha4 : a ≠ 4) (hc : ∀ q, 0 ≤ q → q < n * (n - 1) / 2 → σ 4 q = c q ∧ 0 ≤ c q ∧ c q < p) (h1 : ∀ σ', CLO p n T c → Off (fun b j => 69 ≤ b ∧ b ≤ 77) σ σ' → ST σ → ST σ' → Q 1 σ') (h0 : ∀ σ', ¬ CLO p n T c → Off (fun b j => 69 ≤ b ∧ b ≤ 77) σ σ' → ST σ → ST σ' → Q 0 σ') (hST : ST σ) : Tri (d + 4) M_Me_isClosed [vA 68, vA a, vA 4] σ Q := by
  obtain ⟨b1, b2, b3, b4⟩ := hW.pn.b
  obtain ⟨ho, hp, hn, _, hT⟩ := id hW
  have hp5 := pw5 (n := n) (by omega) b4
  have stof : ∀ t, Off (fun b j => b = 72 ∨ b = 77) σ t → ST t := fun t ht => hST.off ht (fun e h' => by have := ech_list h'; omega)
  refine t_Me_isClosed (Me_numberForms_s hW ha (fun s1 hN1 hO1 => ?_))
  refine loop_up (P := fun s t => L (d + 4) M_Me_isClosed 9 [vA 68, vA a, vA 4, vI s] [] t Q)
    (fun s t => 0 ≤ s ∧ NB t n 2 ∧ (∀ s', 0 ≤ s' → s' < s → bt s' = 3 → phi n c (rwD n T 2 s') % p = 0) ∧ Off (fun b j => b = 72 ∨ b = 77) σ t) (2 ^ n.toNat) ?_ ?_ 0 (by omega) s1 ⟨by omega, hN1, fun s' _ _ => by omega, Off_mono hO1 (fun b j q => by omega)⟩
  · rintro t ⟨_, _, hall, hO⟩
    have e2 : t a 2 = n := (hO a 2 (by omega)).trans hn
    refine s_Me_isClosed_9 ⟨ho, fun _ => h1 t (fun i j k i0 ij jk kn => ?_) (Off_mono hO (fun b j q => by omega)) hST (stof t hO), fun q => by rw [e2, shl1 (by omega) (by omega)] at q; omega⟩
    have h3 := s3_b (x := 0) i0 ij jk (by omega) (by omega) (by omega)
    rw [← phi_rwD (by omega) b4 i0 ij jk kn]
    exact hall _ h3.2.1 (s3_lt b4 i0 ij jk kn) h3.2.2.2
  · rintro s t hs ⟨s0, hN, hall, hO⟩ ih
    have hWt : WD t a p n T := hW.cg (fun k => hO a k (by omega)) (fun k => hO (a + 1) k (by omega))
    have e2 : t a 2 = n := hWt.2.2.1
    refine s_Me_isClosed_9 ⟨ho, fun q => by rw [e2, shl1 (by omega) (by omega)] at q; omega, fun _ => JI_bitCount_s s0 (by omega) ⟨fun q => ?_, fun q => ?_⟩⟩
    · rw [w32_id (by omega) (by omega)]
      refine ih t ⟨by omega, hN, fun s' q0 q1 hb => hall s' q0 ?_ hb, hO⟩
      have : s' ≠ s := fun e => q (by rw [← e]; exact hb)
      omega
    · refine Me_fillD_s hWt ha hN s0 hs (by omega) (fun t2 hv hO2 => ?_)
      have hO2' : Off (fun b j => b = 72 ∨ b = 77) σ t2 := Off_trans hO (Off_mono hO2 (fun b j q => by omega))
      have hW2 : WD t2 a p n T := hWt.cg (fun k => hO2 a k (by omega)) (fun k => hO2 (a + 1) k (by omega))
      refine Me_valueOf_s (c := c) (r := rwD n T 2 s) hW2 (fun q q0 q1 => by rw [hO2' 4 _ (by omega)]; exact hc q q0 q1) (fun j j0 j1 hj => by rw [hO2 77 _ (by omega)]; exact hN j j0 j1 hj) hv ⟨ho, ?_⟩
      rw [hW2.2.1]
      refine X_mod_s b1 ⟨fun z => ?_, fun z => h0 t2 (fun hC => z ?_) (Off_mono hO2' (fun b j q => by omega)) hST (stof t2 hO2')⟩
      · rw [phi_mod] at z
        rw [w32_id (by omega) (by omega)]
        refine ih t2 ⟨by omega, fun j j0 j1 hj => by rw [hO2 77 _ (by omega)]; exact hN j j0 j1 hj, fun s' q0 q1 hb => ?_, hO2'⟩
        by_cases g : s' = s
        · subst g; exact z
        · exact hall s' q0 (by omega) hb
      · obtain ⟨i, j, k, i0, ij, jk, kn, hs3⟩ := s3_of (by omega) b4 s0 hs q
        rw [phi_mod, hs3, phi_rwD (by omega) b4 i0 ij jk kn]
        exact hC i j k i0 ij jk kn
/-! the model's -/
theorem R_couples_s {p n : Int} {T : Int → Int} (hR : RW σ p n T) (h : Q (n * (n - 1) / 2) σ) : Tri (d + 1) M_R_couples [vA 161] σ Q := by
  obtain ⟨b1, b2, b3, b4⟩ := hR.1.1.b
  refine t_R_couples ?_
  rw [hR.2.2.1]
  have h2 : 0 ≤ n * (n - 1) ∧ n * (n - 1) ≤ 5 * 4 := mul_small (by omega) b4 (by omega) (by omega)
  rw [w32_id (x := n - 1) (by omega) (by omega), w32_id (x := n * (n - 1)) (by omega) (by omega), Int.tdiv_eq_ediv_of_nonneg h2.1, w32_id (by omega) (by omega)]
  exact h
theorem R_coupleOf_s {p n i j : Int} {T : Int → Int} (hR : RW σ p n T) (i0 : 0 ≤ i) (ij : i < j) (jn : j < n) (h : Q (ci n i j) σ) : Tri (d + 1) M_R_coupleOf [vA 161, vI i, vI j] σ Q := by
  obtain ⟨b1, b2, b3, b4⟩ := hR.1.1.b
  refine t_R_coupleOf (fun _ _ => ?_)
  rw [hR.2.2.1]
  have h1 := kn_b i0 (show i < n by omega) b4 (m := 0) (by omega) (by omega)
  have h2 : 0 ≤ i * (i + 1) ∧ i * (i + 1) ≤ 4 * 5 := mul_small i0 (by omega) (by omega) (by omega)
  rw [w32_id (x := i + 1) (by omega) (by omega), w32_id (x := i * n) (by omega) (by omega), w32_id (x := i * (i + 1)) (by omega) (by omega), Int.tdiv_eq_ediv_of_nonneg h2.1, w32_id (x := i * (i + 1) / 2) (by omega) (by omega), w32_id (x := i * n - i * (i + 1) / 2) (by omega) (by omega), w32_id (x := i * n - i * (i + 1) / 2 + j) (by omega) (by omega), w32_id (x := i * n - i * (i + 1) / 2 + j - i) (by omega) (by omega), w32_id (by omega) (by omega)]
  exact h
theorem R_formOf_s {p n tr i j : Int} {T c : Int → Int} (hR : RW σ p n T) (ht : 0 ≤ tr ∧ tr < 4) (hc : ∀ q, 0 ≤ q → q < n * (n - 1) / 2 → σ 164 (60 * tr + q) = c q ∧ 0 ≤ c q ∧ c q < p) (i0 : 0 ≤ i) (i1 : i < n) (j0 : 0 ≤ j) (j1 : j < n) (h : -6 ≤ ffm n c i j → ffm n c i j ≤ 6 → Q (ffm n c i j) σ) : Tri (d + 2) M_R_formOf [vA 161, vI tr, vI i, vI j] σ Q := by
  obtain ⟨b1, b2, b3, b4⟩ := hR.1.1.b
  unfold ffm at h
  refine t_R_formOf (fun _ _ _ => ⟨fun q => ⟨fun q2 => ?_, fun q2 => ?_⟩, fun q => ?_⟩)
  · have hb := ci_b j0 (show j < i by omega) (show i ≤ n by omega) b4
    have hcc := hc _ hb.1 (hb.2.2 i1)
    refine R_coupleOf_s hR j0 (by omega) i1 (R_numberOf_s ht ⟨hb.1, by omega⟩ ?_)
    rw [if_neg q, if_neg (by omega)] at h
    rw [hcc.1, w32_id (x := c (ci n j i)) (by omega) (by omega), w32_id (by omega) (by omega)]
    exact h (by omega) (by omega)
  · have hb := ci_b i0 q2 (show j ≤ n by omega) b4
    have hcc := hc _ hb.1 (hb.2.2 j1)
    refine R_coupleOf_s hR i0 q2 j1 (R_numberOf_s ht ⟨hb.1, by omega⟩ ?_)
    rw [if_neg q, if_pos q2] at h
    rw [hcc.1, w32_id (by omega) (by omega)]
    exact h (by omega) (by omega)
  · rw [if_pos q] at h
    exact h (by omega) (by omega)
theorem R_formOfBracket_s {p n tr i j k : Int} {T c : Int → Int} (hR : RW σ p n T) (ht : 0 ≤ tr ∧ tr < 4) (hc : ∀ q, 0 ≤ q → q < n * (n - 1) / 2 → σ 164 (60 * tr + q) = c q ∧ 0 ≤ c q ∧ c q < p) (i0 : 0 ≤ i) (i1 : i < n) (j0 : 0 ≤ j) (j1 : j < n) (k0 : 0 ≤ k) (k1 : k < n) (h : -180 ≤ ffb n T c i j k → ffb n T c i j k ≤ 180 → Q (ffb n T c i j k) σ) : Tri (d + 3) M_R_formOfBracket [vA 161, vI tr, vI i, vI j, vI k] σ Q := by
  obtain ⟨b1, b2, b3, b4⟩ := hR.1.1.b
  have e27 := hR.2.2.1
  refine t_R_formOfBracket (fun _ _ _ _ => ?_)
  refine loop_up (P := fun m v => L (d + 3) M_R_formOfBracket 6 [vA 161, vI tr, vI i, vI j, vI k, vI v, vI m] [] σ Q)
    (fun m v => 0 ≤ m ∧ (-(36 * m) ≤ v ∧ v ≤ 36 * m) ∧ v = sR (fun m => T (25 * i + 5 * j + m) * ffm n c m k) 0 m) n ?_ ?_ 0 (by omega) 0 ⟨by omega, by omega, by rw [sR_nil (by omega)]⟩
  · rintro v ⟨_, hvb, hv⟩
    refine s_R_formOfBracket_6 ⟨fun _ => ?_, fun q => by omega⟩
    have hv2 : v = ffb n T c i j k := hv
    rw [hv2] at hvb ⊢
    exact h (by omega) (by omega)
  · rintro m v hm ⟨m0, hvb, hv⟩ ih
    have hTb := hR.1.2.1 (25 * i + 5 * j + m) (by omega) (by omega)
    refine s_R_formOfBracket_6 ⟨fun q => by omega, fun _ => R_table_s hR ⟨i0, by omega⟩ ⟨j0, by omega⟩ ⟨m0, by omega⟩ (R_formOf_s hR ht hc m0 hm k0 k1 (fun f0 f1 => ?_))⟩
    have hm2 := mul_sg (m := ffm n c m k) (t := T (25 * i + 5 * j + m)) (A := 6) (B := 6) f0 f1 hTb.1 (by omega) (by omega)
    rw [Int.mul_comm (ffm n c m k)] at hm2
    rw [w32_id (x := T (25 * i + 5 * j + m) * ffm n c m k) (by omega) (by omega), w32_id (by omega) (by omega), w32_id (by omega) (by omega)]
    exact ih _ ⟨by omega, by omega, by rw [sR_succ m0, hv]⟩
theorem R_isClosed_s {p n tr : Int} {T c : Int → Int} (hR : RW σ p n T) (ht : 0 ≤ tr ∧ tr < 4) (hc : ∀ q, 0 ≤ q → q < n * (n - 1) / 2 → σ 164 (60 * tr + q) = c q ∧ 0 ≤ c q ∧ c q < p) (h1 : CLO p n T c → Q 1 σ) (h0 : ¬ CLO p n T c → Q 0 σ) : Tri (d + 4) M_R_isClosed [vA 161, vI tr] σ Q := by
  obtain ⟨b1, b2, b3, b4⟩ := hR.1.1.b
  have e27 := hR.2.2.1
  refine t_R_isClosed (fun _ => ?_)
  refine loop_up (S := Unit) (P := fun i _ => L (d + 4) M_R_isClosed 2 [vA 161, vI tr, vI i, vU, vU] [] σ Q)
    (fun i _ => 0 ≤ i ∧ ∀ i' j k, 0 ≤ i' → i' < i → i' < j → j < k → k < n → (-(ffb n T c i' j k) + ffb n T c i' k j - ffb n T c j k i') % p = 0) n ?_ ?_ 0 (by omega) () ⟨by omega, fun i' j k _ _ => by omega⟩
  · rintro _ ⟨_, hall⟩
    exact s_R_isClosed_2 ⟨fun _ => h1 (fun i j k i0 ij jk kn => hall i j k i0 (by omega) ij jk kn), fun q => by omega⟩
  · rintro i _ hi ⟨i0, hall⟩ ih
    refine s_R_isClosed_2 ⟨fun q => by omega, fun _ => ?_⟩
    rw [w32_id (by omega) (by omega)]
    refine loop_up (S := Unit) (P := fun j _ => L (d + 4) M_R_isClosed 14 [vA 161, vI tr, vI i, vI j, vU] [] σ Q)
      (fun j _ => i + 1 ≤ j ∧ ∀ j' k, i < j' → j' < j → j' < k → k < n → (-(ffb n T c i j' k) + ffb n T c i k j' - ffb n T c j' k i) % p = 0) n ?_ ?_ (i + 1) (by omega) () ⟨by omega, fun j' k _ _ => by omega⟩
    · rintro _ ⟨_, hj⟩
      refine s_R_isClosed_14 ⟨fun _ => ?_, fun q => by omega⟩
      rw [w32_id (by omega) (by omega)]
      refine ih () ⟨by omega, fun i' j k q0 q1 q2 q3 q4 => ?_⟩
      by_cases g : i' = i
      · subst g; exact hj j k q2 (by omega) q3 q4
      · exact hall i' j k q0 (by omega) q2 q3 q4
    · rintro j _ hj ⟨j0, hjz⟩ ih2
      refine s_R_isClosed_14 ⟨fun q => by omega, fun _ => ?_⟩
      rw [w32_id (by omega) (by omega)]
      refine loop_up (S := Unit) (P := fun k _ => L (d + 4) M_R_isClosed 27 [vA 161, vI tr, vI i, vI j, vI k] [] σ Q)
        (fun k _ => j + 1 ≤ k ∧ ∀ k', j < k' → k' < k → (-(ffb n T c i j k') + ffb n T c i k' j - ffb n T c j k' i) % p = 0) n ?_ ?_ (j + 1) (by omega) () ⟨by omega, fun k' _ _ => by omega⟩
      · rintro _ ⟨_, hk⟩
        refine s_R_isClosed_27 ⟨fun _ => ?_, fun q => by omega⟩
        rw [w32_id (by omega) (by omega)]
        refine ih2 () ⟨by omega, fun j' k q1 q2 q3 q4 => ?_⟩
        by_cases g : j' = j
        · subst g; exact hk k q3 q4
        · exact hjz j' k q1 (by omega) q3 q4
      · rintro k _ hk ⟨k0, hkz⟩ ih3
        refine s_R_isClosed_27 ⟨fun q => by omega, fun _ => R_formOfBracket_s hR ht hc i0 hi (by omega) hj (by omega) hk (fun a1 a2 => R_formOfBracket_s hR ht hc i0 hi (by omega) hk (by omega) hj (fun a3 a4 => R_formOfBracket_s hR ht hc (by omega) hj (by omega) hk i0 hi (fun a5 a6 => ?_)))⟩
        rw [hR.2.1, w32_id (x := -(ffb n T c i j k)) (by omega) (by omega), w32_id (x := -(ffb n T c i j k) + ffb n T c i k j) (by omega) (by omega), w32_id (by omega) (by omega), w32_id (x := k + 1) (by omega) (by omega)]
        refine R_left_s ⟨b1, b2⟩ ⟨fun q => ih3 () ⟨by omega, fun k' q1 q2 => ?_⟩, fun q => h0 (fun hC => q (hC i j k i0 (by omega) (by omega) hk))⟩
        by_cases g : k' = k
        · subst g; exact q
        · exact hkz k' q1 (by omega)
end CLD
