/-! ===== digits; sets as numbers; SPANS counted through ===== -/
theorem ppos {p : Int} (hp : 2 ≤ p) (k : Nat) : 0 < p ^ k := by have := pow_pos' (p := p) (k := k) (by omega); omega
theorem pow_add' {p : Int} (a b : Nat) : p ^ (a + b) = p ^ a * p ^ b := by
  induction b with
  | zero => simp
  | succ b ih => rw [← Nat.add_assoc, Int.pow_succ, ih, Int.pow_succ, Int.mul_assoc]
theorem dg_in {p x k : Int} (hp : 2 ≤ p) : 0 ≤ dg p x k ∧ dg p x k < p := ⟨Int.emod_nonneg _ (by omega), Int.emod_lt_of_pos _ (by omega)⟩
/-- all digits below f are the last: what comes next -/
theorem dg_step {p x f : Int} (hp : 2 ≤ p) (hx : 0 ≤ x) (hf : 0 ≤ f) (hl : x % p ^ f.toNat = p ^ f.toNat - 1) :
    (dg p x f + 1 < p → (∀ k, 0 ≤ k → k < f → dg p (x + 1) k = 0) ∧ dg p (x + 1) f = dg p x f + 1 ∧ ∀ k, f < k → dg p (x + 1) k = dg p x k) ∧
    (p ≤ dg p x f + 1 → x % p ^ (f + 1).toNat = p ^ (f + 1).toNat - 1) := by
  have hq := ppos hp f.toNat
  generalize hQ : p ^ f.toNat = q at hl hq
  have hdm := Int.emod_add_mul_ediv x q
  generalize hH : x / q = H at hdm
  have hx1 : x + 1 = q * (H + 1) := by rw [Int.mul_add]; omega
  have hH0 : 0 ≤ H := by rw [← hH]; exact Int.ediv_nonneg hx (by omega)
  have hdf : dg p x f = H % p := by unfold dg; rw [hQ, hH]
  have hHm := Int.emod_add_mul_ediv H p
  have hHb := Int.emod_nonneg H (show p ≠ 0 by omega)
  have hHb2 := Int.emod_lt_of_pos H (show 0 < p by omega)
  constructor
  · intro h
    rw [hdf] at h ⊢
    refine ⟨fun k k0 k1 => ?_, ?_, fun k hk => ?_⟩
    · unfold dg
      have e1 : q = p ^ k.toNat * (p * p ^ (f.toNat - k.toNat - 1)) := by
        rw [← hQ, show p * p ^ (f.toNat - k.toNat - 1) = p ^ (f.toNat - k.toNat) by rw [show f.toNat - k.toNat = (f.toNat - k.toNat - 1) + 1 by omega, Int.pow_succ, Int.mul_comm]; simp, ← pow_add', show k.toNat + (f.toNat - k.toNat) = f.toNat by omega]
      rw [hx1, e1, Int.mul_assoc, Int.mul_ediv_cancel_left _ (by have := ppos hp k.toNat; omega)]
      exact Int.emod_eq_zero_of_dvd ⟨p ^ (f.toNat - k.toNat - 1) * (H + 1), by rw [Int.mul_assoc]⟩
    · unfold dg
      rw [hQ, hx1, Int.mul_ediv_cancel_left _ (by omega)]
      have : (H + 1) % p = (H % p + 1) % p := emod_cg (q := H / p) (by omega)
      rw [this]
      exact Int.emod_eq_of_lt (by omega) (by omega)
    · unfold dg
      have e1 : p ^ k.toNat = q * p ^ (k.toNat - f.toNat) := by rw [← hQ, ← pow_add', show f.toNat + (k.toNat - f.toNat) = k.toNat by omega]
      have e2 : p ^ (k.toNat - f.toNat) = p * p ^ (k.toNat - f.toNat - 1) := by
        rw [show k.toNat - f.toNat = (k.toNat - f.toNat - 1) + 1 by omega, Int.pow_succ, Int.mul_comm]; simp
      rw [e1, ← Int.ediv_ediv_of_nonneg (show 0 ≤ q by omega), ← Int.ediv_ediv_of_nonneg (show 0 ≤ q by omega), hH, hx1, Int.mul_ediv_cancel_left _ (by omega), e2, ← Int.ediv_ediv_of_nonneg (show 0 ≤ p by omega), ← Int.ediv_ediv_of_nonneg (show 0 ≤ p by omega)]
      have e3 : (H + 1) / p = H / p := by
        have h4 := Int.emod_add_mul_ediv (H + 1) p
        have : (H + 1) % p = H % p + 1 := by
          have : (H + 1) % p = (H % p + 1) % p := emod_cg (q := H / p) (by omega)
          rw [this]; exact Int.emod_eq_of_lt (by omega) (by omega)
        have h5 : p * ((H + 1) / p) = p * (H / p) := by omega
        exact Int.eq_of_mul_eq_mul_left (show p ≠ 0 by omega) h5
      rw [e3]
  · intro h
    rw [hdf] at h
    have e : p ^ (f + 1).toNat = q * p := by rw [show (f + 1).toNat = f.toNat + 1 by omega, Int.pow_succ, hQ]
    rw [e]
    have hm : H % p = p - 1 := by omega
    have : x = (q * p - 1) + q * p * (H / p) := by
      have e5 : H = p - 1 + p * (H / p) := by omega
      have e6 : x = q * (H + 1) - 1 := by omega
      rw [e6]
      generalize H / p = z at e5
      rw [e5]; grind
    rw [this, Int.add_mul_emod_self_left]
    have : q * 2 ≤ q * p := Int.mul_le_mul_of_nonneg_left hp (by omega)
    exact Int.emod_eq_of_lt (by omega) (by omega)
theorem dg_end {p x f : Int} (hp : 2 ≤ p) (hx : 0 ≤ x) (h : x < p ^ f.toNat) (hl : x % p ^ f.toNat = p ^ f.toNat - 1) : x + 1 = p ^ f.toNat := by
  rw [Int.emod_eq_of_lt hx h] at hl; omega
theorem dg_z {p k : Int} : dg p 0 k = 0 := by unfold dg; simp
/-- how many free parts there are; the number of one of them -/
def nl (ℓ : Int → Bool) (lo hi : Int) : Int := sR (fun c => if ℓ c = true then 0 else 1) lo hi
def nf (n : Int) (ℓ : Int → Bool) (m : Int) : Int := sR (fun l => if ℓ l = true then nl ℓ (l + 1) n else 0) 0 m
def fi (n : Int) (ℓ : Int → Bool) (l c : Int) : Int := nf n ℓ l + nl ℓ (l + 1) c
theorem nl_b {ℓ : Int → Bool} {lo hi : Int} (h : lo ≤ hi) : 0 ≤ nl ℓ lo hi ∧ nl ℓ lo hi ≤ hi - lo := by
  refine up_ind (P := fun hi => 0 ≤ nl ℓ lo hi ∧ nl ℓ lo hi ≤ hi - lo) ?_ ?_ hi h
  · unfold nl; rw [sR_nil (by omega)]; omega
  · intro k hk ih
    unfold nl at ih ⊢
    rw [sR_succ hk]; split <;> omega
theorem nl_succ {ℓ : Int → Bool} {lo k : Int} (h : lo ≤ k) : nl ℓ lo (k + 1) = nl ℓ lo k + if ℓ k = true then 0 else 1 := sR_succ h
theorem nf_succ {n l : Int} {ℓ : Int → Bool} (h : 0 ≤ l) : nf n ℓ (l + 1) = nf n ℓ l + if ℓ l = true then nl ℓ (l + 1) n else 0 := sR_succ h
theorem nl_lt {ℓ : Int → Bool} {lo c hi : Int} (h0 : lo ≤ c) (h1 : c < hi) (hc : ℓ c = false) : nl ℓ lo c < nl ℓ lo hi := by
  have e : nl ℓ lo hi = nl ℓ lo (c + 1) + nl ℓ (c + 1) hi := sR_split (by omega) (by omega)
  rw [nl_succ h0, hc] at e
  have := (nl_b (ℓ := ℓ) (show c + 1 ≤ hi by omega)).1
  simp at e
  omega
theorem nf_b {n m : Int} {ℓ : Int → Bool} (hm0 : 0 ≤ m) (hm : m ≤ n) : 0 ≤ nf n ℓ m ∧ nf n ℓ m ≤ m * n := by
  refine up_ind (P := fun m => m ≤ n → 0 ≤ nf n ℓ m ∧ nf n ℓ m ≤ m * n) ?_ ?_ m hm0 hm
  · intro _; unfold nf; rw [sR_nil (by omega)]; omega
  · intro k hk ih h
    obtain ⟨i1, i2⟩ := ih (by omega)
    rw [nf_succ hk, Int.add_mul]
    have := nl_b (ℓ := ℓ) (show k + 1 ≤ n by omega)
    split <;> omega
theorem nf_mono {n a b : Int} {ℓ : Int → Bool} (h0 : 0 ≤ a) (h : a ≤ b) (hb : b ≤ n) : nf n ℓ a ≤ nf n ℓ b := by
  refine up_ind (P := fun b => b ≤ n → nf n ℓ a ≤ nf n ℓ b) (fun _ => Int.le_refl _) ?_ b h hb
  intro k hk ih h2
  rw [nf_succ (by omega)]
  have := nl_b (ℓ := ℓ) (show k + 1 ≤ n by omega)
  have := ih (by omega)
  split <;> omega
/-- a free part -/
def Fp (n : Int) (ℓ : Int → Bool) (l c : Int) : Prop := 0 ≤ l ∧ l < c ∧ c < n ∧ ℓ l = true ∧ ℓ c = false
theorem fi_lt {n l c : Int} {ℓ : Int → Bool} (h : Fp n ℓ l c) : nf n ℓ l ≤ fi n ℓ l c ∧ fi n ℓ l c < nf n ℓ (l + 1) := by
  obtain ⟨h0, h1, h2, h3, h4⟩ := h
  have := nl_b (ℓ := ℓ) (show l + 1 ≤ c by omega)
  have := nl_lt (ℓ := ℓ) (show l + 1 ≤ c by omega) h2 h4
  unfold fi
  rw [nf_succ h0, if_pos h3]
  omega
theorem fi_inj {n l c l' c' : Int} {ℓ : Int → Bool} (h : Fp n ℓ l c) (h' : Fp n ℓ l' c') (e : fi n ℓ l c = fi n ℓ l' c') : l = l' ∧ c = c' := by
  have a := fi_lt h
  have a' := fi_lt h'
  have hl : l = l' := by
    rcases Int.lt_trichotomy l l' with g | g | g
    · have := nf_mono (ℓ := ℓ) (n := n) (a := l + 1) (b := l') (by have := h.1; omega) (by omega) (by have := h'.2.1; have := h'.2.2.1; omega); omega
    · exact g
    · have := nf_mono (ℓ := ℓ) (n := n) (a := l' + 1) (b := l) (by have := h'.1; omega) (by omega) (by have := h.2.1; have := h.2.2.1; omega); omega
  subst hl
  refine ⟨rfl, ?_⟩
  unfold fi at e
  obtain ⟨_, h1, h2, _, h4⟩ := h
  obtain ⟨_, h1', h2', _, h4'⟩ := h'
  rcases Int.lt_trichotomy c c' with g | g | g
  · have := nl_lt (ℓ := ℓ) (show l + 1 ≤ c by omega) g h4; omega
  · exact g
  · have := nl_lt (ℓ := ℓ) (show l + 1 ≤ c' by omega) g h4'; omega
/-- the SPAN of these leads and this code -/
def spn (p n : Int) (ℓ : Int → Bool) (x : Int) : ES := (ℓ, fun l c => if l = c then 1 else if l < c ∧ ℓ c = false then dg p x (fi n ℓ l c) else 0)
theorem EW_spn {p n x : Int} {ℓ : Int → Bool} (hp : 2 ≤ p) : EW p n (spn p n ℓ x) := by
  intro l l0 l1 hl
  refine ⟨fun c c0 c1 => ?_, by show (if l = l then _ else _) = _; rw [if_pos rfl], fun c c0 c1 => by show (if l = c then _ else if _ then _ else _) = _; rw [if_neg (by omega), if_neg (by omega)], fun m m0 m1 hm hml => by show (if l = m then _ else if _ then _ else _) = _; rw [if_neg (by omega), if_neg (by intro q; have : ℓ m = true := hm; rw [q.2] at this; cases this)]⟩
  show 0 ≤ (if l = c then (1 : Int) else if _ then _ else _) ∧ (if l = c then (1 : Int) else if _ then _ else _) < p
  have := dg_in (x := x) (k := fi n ℓ l c) hp
  split
  · omega
  · split <;> omega
/-- how large a set is -/
def bt (x : Int) : Int := cd (tb x) 5
theorem bt_n {x n : Int} (h0 : 0 ≤ x) (hn0 : 0 ≤ n) (hn : n ≤ 5) (h : x < 2 ^ n.toNat) : cd (tb x) n = bt x := by
  have key : ∀ n : Nat, n ≤ 5 → ∀ x : Nat, x < 2 ^ n → cd (tb (x : Int)) (n : Int) = cd (tb (x : Int)) 5 := by decide +kernel
  obtain ⟨x, rfl⟩ := nat_of h0
  obtain ⟨n, rfl⟩ := nat_of hn0
  have := key n (by omega) x (by
    have h2 : ((x : Nat) : Int) < ((2 ^ n : Nat) : Int) := by rw [Int.natCast_pow]; exact h
    omega)
  exact this
theorem pw5 {n : Int} (h0 : 0 ≤ n) (h : n ≤ 5) : (2 : Int) ^ n.toNat ≤ 32 ∧ 1 ≤ (2 : Int) ^ n.toNat := by
  have h1 : n = 0 ∨ n = 1 ∨ n = 2 ∨ n = 3 ∨ n = 4 ∨ n = 5 := by omega
  rcases h1 with rfl | rfl | rfl | rfl | rfl | rfl <;> decide
/-- how many SPANS there are before those of a set, of one SIZE -/
def cum (p n z m : Int) : Int := sR (fun x => if bt x = z then p ^ (nf n (tb x) n).toNat else 0) 0 m
theorem cum_succ {p n z m : Int} (h : 0 ≤ m) : cum p n z (m + 1) = cum p n z m + if bt m = z then p ^ (nf n (tb m) n).toNat else 0 := sR_succ h
def okpn (p n : Nat) : Bool := decide ((p = 2 ∨ p = 3 ∨ (p = 5 ∧ n ≤ 4) ∨ (p = 7 ∧ n ≤ 3)))
theorem cum_b {p n z : Int} (h : PN p n) : cum p n z (2 ^ n.toNat) < 4000 := by
  have key : ∀ p : Nat, p < 8 → ∀ n : Nat, n < 6 → ∀ z : Nat, z < 6 → (okpn p n = true → cum (p : Int) (n : Int) (z : Int) (2 ^ n) < 4000) := by decide +kernel
  have hb := h.b
  by_cases hz : 0 ≤ z ∧ z < 6
  · obtain ⟨z, rfl⟩ := nat_of hz.1
    obtain ⟨p, rfl⟩ := nat_of (show 0 ≤ p by omega)
    obtain ⟨n, rfl⟩ := nat_of (show 0 ≤ n by omega)
    unfold PN at h
    exact key p (by omega) n (by omega) z (by omega) (by unfold okpn; rw [decide_eq_true_eq]; omega)
  · have e : cum p n z (2 ^ n.toNat) = 0 := by
      apply sR_zero'
      intro k k0 k1
      have := cd_b (ℓ := tb k) (w := 5) (by omega)
      rw [if_neg (by unfold bt; omega)]
    rw [e]; omega
