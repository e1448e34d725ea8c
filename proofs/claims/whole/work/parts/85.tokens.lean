/-! ===== TOKENS, told purely: of a text f of N bytes, the one behind the place e ===== -/
def rnk (P : Int → Bool) : Nat → Int → Int
  | 0, q => q
  | k + 1, q => if P q = true then rnk P k (q + 1) else q
def rnn (P : Int → Bool) (N q : Int) : Int := rnk P (N - q).toNat q
theorem rnn_end {P : Int → Bool} {N q : Int} (h : N ≤ q) : rnn P N q = q := by
  unfold rnn
  rw [show (N - q).toNat = 0 by omega]
  rfl
theorem rnn_go {P : Int → Bool} {N q : Int} (h : q < N) (hp : P q = true) : rnn P N q = rnn P N (q + 1) := by
  unfold rnn
  rw [show (N - q).toNat = (N - (q + 1)).toNat + 1 by omega]
  show (if P q = true then _ else _) = _
  rw [if_pos hp]
theorem rnn_no {P : Int → Bool} {N q : Int} (hp : P q = false) : rnn P N q = q := by
  unfold rnn
  cases (N - q).toNat with
  | zero => rfl
  | succ k =>
    show (if P q = true then _ else _) = _
    rw [if_neg (by rw [hp]; exact Bool.false_ne_true)]
theorem rnn_b {P : Int → Bool} {N q : Int} (h : q ≤ N) : q ≤ rnn P N q ∧ rnn P N q ≤ N := by
  have key : ∀ (k : Nat) (q : Int), q + k ≤ N → q ≤ rnk P k q ∧ rnk P k q ≤ N := by
    intro k
    induction k with
    | zero => intro q h; exact ⟨Int.le_refl _, by show q ≤ N; omega⟩
    | succ k ih =>
      intro q h
      show q ≤ (if P q = true then _ else _) ∧ (if P q = true then _ else _) ≤ N
      by_cases hp : P q = true
      · rw [if_pos hp]
        have := ih (q + 1) (by omega)
        omega
      · rw [if_neg hp]; omega
  exact key _ q (by omega)
theorem rnn_in {P : Int → Bool} {N q : Int} : ∀ i, q ≤ i → i < rnn P N q → P i = true := by
  have key : ∀ (k : Nat) (q : Int), ∀ i, q ≤ i → i < rnk P k q → P i = true := by
    intro k
    induction k with
    | zero => intro q i h1 h2; have : i < q := h2; omega
    | succ k ih =>
      intro q i h1 h2
      have h3 : i < (if P q = true then rnk P k (q + 1) else q) := h2
      by_cases hp : P q = true
      · rw [if_pos hp] at h3
        by_cases hi : i = q
        · rw [hi]; exact hp
        · exact ih (q + 1) i (by omega) h3
      · rw [if_neg hp] at h3; omega
  exact key _ q
def zBl (x : Int) : Bool := decide (x = 10 ∨ x = 32)
def zLt (x : Int) : Bool := decide (97 ≤ x ∧ x ≤ 122)
def zDg (x : Int) : Bool := decide (48 ≤ x ∧ x ≤ 57)
def zSg (x : Int) : Bool := decide (x = 59 ∨ x = 60 ∨ x = 61 ∨ x = 62)
def tS (f : Int → Int) (N e : Int) : Int := rnn (fun q => zBl (f q)) N e
def tE (f : Int → Int) (N e : Int) : Int := if N ≤ tS f N e then tS f N e else if zLt (f (tS f N e)) = true then rnn (fun q => zLt (f q)) N (tS f N e) else if zDg (f (tS f N e)) = true then rnn (fun q => zDg (f q)) N (tS f N e) else tS f N e + 1
def tK (f : Int → Int) (N e : Int) : Int := if N ≤ tS f N e then 0 else if zLt (f (tS f N e)) = true then 1 else if zDg (f (tS f N e)) = true then (if 4 < tE f N e - tS f N e then 4 else 2) else if zSg (f (tS f N e)) = true then 3 else 4
/-- the number of the first k digits from s on; the number of the first k letters -/
def nvN (f : Int → Int) (s : Int) : Nat → Int
  | 0 => 0
  | k + 1 => nvN f s k * 10 + (f (s + k) - 48)
def wvN (f : Int → Int) (s : Int) : Nat → Int
  | 0 => 0
  | k + 1 => wvN f s k * 32 + (f (s + k) - 96)
def tV (f : Int → Int) (N e : Int) : Int := nvN f (tS f N e) (min (tE f N e - tS f N e) 4).toNat
def tW (f : Int → Int) (N e : Int) : Int := if tE f N e - tS f N e ≤ 9 then wvN f (tS f N e) (tE f N e - tS f N e).toNat else -1
theorem tS_b {f : Int → Int} {N e : Int} (h : e ≤ N) : e ≤ tS f N e ∧ tS f N e ≤ N := rnn_b h
theorem tE_b {f : Int → Int} {N e : Int} (h : e ≤ N) : tS f N e ≤ tE f N e ∧ tE f N e ≤ N := by
  have h1 := tS_b (f := f) h
  unfold tE
  by_cases g : N ≤ tS f N e
  · rw [if_pos g]; omega
  · rw [if_neg g]
    by_cases g2 : zLt (f (tS f N e)) = true
    · rw [if_pos g2]; exact rnn_b h1.2
    · rw [if_neg g2]
      by_cases g3 : zDg (f (tS f N e)) = true
      · rw [if_pos g3]; exact rnn_b h1.2
      · rw [if_neg g3]; omega
theorem tK_0 {f : Int → Int} {N e : Int} : tK f N e = 0 ↔ N ≤ tS f N e := by
  unfold tK
  by_cases g : N ≤ tS f N e
  · rw [if_pos g]; exact ⟨fun _ => g, fun _ => rfl⟩
  · rw [if_neg g]
    refine ⟨fun q => ?_, fun q => absurd q g⟩
    exfalso
    split at q
    · omega
    · split at q
      · split at q <;> omega
      · split at q <;> omega
theorem tE_lt {f : Int → Int} {N e : Int} (h : e ≤ N) (hk : tK f N e ≠ 0) : e < tE f N e := by
  have h1 := tS_b (f := f) h
  have h2 : ¬ N ≤ tS f N e := fun z => hk (tK_0.mpr z)
  unfold tE
  rw [if_neg h2]
  by_cases g2 : zLt (f (tS f N e)) = true
  · rw [if_pos g2, rnn_go (P := fun q => zLt (f q)) (by omega) g2]
    have := (rnn_b (P := fun q => zLt (f q)) (N := N) (q := tS f N e + 1) (by omega)).1
    omega
  · rw [if_neg g2]
    by_cases g3 : zDg (f (tS f N e)) = true
    · rw [if_pos g3, rnn_go (P := fun q => zDg (f q)) (by omega) g3]
      have := (rnn_b (P := fun q => zDg (f q)) (N := N) (q := tS f N e + 1) (by omega)).1
      omega
    · rw [if_neg g3]; omega
theorem tK_in {f : Int → Int} {N e : Int} : 0 ≤ tK f N e ∧ tK f N e ≤ 4 := by
  unfold tK
  split
  · omega
  · split
    · omega
    · split
      · split <;> omega
      · split <;> omega
theorem zLt_t {x : Int} (h : 97 ≤ x ∧ x ≤ 122) : zLt x = true := decide_eq_true h
theorem zLt_f {x : Int} (h : ¬ (97 ≤ x ∧ x ≤ 122)) : zLt x = false := decide_eq_false h
theorem zDg_t {x : Int} (h : 48 ≤ x ∧ x ≤ 57) : zDg x = true := decide_eq_true h
theorem zDg_f {x : Int} (h : ¬ (48 ≤ x ∧ x ≤ 57)) : zDg x = false := decide_eq_false h
theorem zBl_t {x : Int} (h : x = 10 ∨ x = 32) : zBl x = true := decide_eq_true h
theorem zBl_f {x : Int} (h : ¬ (x = 10 ∨ x = 32)) : zBl x = false := decide_eq_false h
theorem zSg_t {x : Int} (h : x = 59 ∨ x = 60 ∨ x = 61 ∨ x = 62) : zSg x = true := decide_eq_true h
theorem zSg_f {x : Int} (h : ¬ (x = 59 ∨ x = 60 ∨ x = 61 ∨ x = 62)) : zSg x = false := decide_eq_false h
theorem zLt_i {x : Int} (h : zLt x = true) : 97 ≤ x ∧ x ≤ 122 := of_decide_eq_true h
theorem zDg_i {x : Int} (h : zDg x = true) : 48 ≤ x ∧ x ≤ 57 := of_decide_eq_true h
theorem zSg_i {x : Int} (h : zSg x = true) : x = 59 ∨ x = 60 ∨ x = 61 ∨ x = 62 := of_decide_eq_true h
theorem tK_1 {f : Int → Int} {N e : Int} (h : tK f N e = 1) : tS f N e < N ∧ zLt (f (tS f N e)) = true ∧ tE f N e = rnn (fun q => zLt (f q)) N (tS f N e) := by
  have h2 : ¬ N ≤ tS f N e := fun z => by rw [tK_0.mpr z] at h; omega
  unfold tK at h
  rw [if_neg h2] at h
  by_cases g2 : zLt (f (tS f N e)) = true
  · refine ⟨by omega, g2, ?_⟩
    unfold tE
    rw [if_neg h2, if_pos g2]
  · rw [if_neg g2] at h
    exfalso
    split at h
    · split at h <;> omega
    · split at h <;> omega
theorem tK_3 {f : Int → Int} {N e : Int} (h : tK f N e = 3) : tS f N e < N ∧ tE f N e = tS f N e + 1 ∧ zSg (f (tS f N e)) = true := by
  have h2 : ¬ N ≤ tS f N e := fun z => by rw [tK_0.mpr z] at h; omega
  unfold tK at h
  rw [if_neg h2] at h
  by_cases g2 : zLt (f (tS f N e)) = true
  · rw [if_pos g2] at h; omega
  · rw [if_neg g2] at h
    by_cases g3 : zDg (f (tS f N e)) = true
    · rw [if_pos g3] at h; exfalso; split at h <;> omega
    · rw [if_neg g3] at h
      refine ⟨by omega, ?_, ?_⟩
      · unfold tE
        rw [if_neg h2, if_neg g2, if_neg g3]
      · by_cases g4 : zSg (f (tS f N e)) = true
        · exact g4
        · rw [if_neg g4] at h; omega
theorem nvN_b {f : Int → Int} {s : Int} : ∀ k : Nat, (∀ i : Nat, i < k → zDg (f (s + i)) = true) → 0 ≤ nvN f s k ∧ nvN f s k < 10 ^ k
  | 0, _ => ⟨Int.le_refl _, Int.one_pos⟩
  | k + 1, h => by
    have h1 := nvN_b k (fun i hi => h i (by omega))
    have h2 := zDg_i (h k (by omega))
    show 0 ≤ nvN f s k * 10 + (f (s + k) - 48) ∧ nvN f s k * 10 + (f (s + k) - 48) < 10 ^ (k + 1)
    rw [Int.pow_succ]
    omega
theorem wvN_b {f : Int → Int} {s : Int} : ∀ k : Nat, (∀ i : Nat, i < k → zLt (f (s + i)) = true) → 0 ≤ wvN f s k ∧ wvN f s k < 32 ^ k
  | 0, _ => ⟨Int.le_refl _, Int.one_pos⟩
  | k + 1, h => by
    have h1 := wvN_b k (fun i hi => h i (by omega))
    have h2 := zLt_i (h k (by omega))
    show 0 ≤ wvN f s k * 32 + (f (s + k) - 96) ∧ wvN f s k * 32 + (f (s + k) - 96) < 32 ^ (k + 1)
    rw [Int.pow_succ]
    omega
/-- words of letters are told by their numbers -/
theorem wvN_inj {f g : Int → Int} {s t : Int} : ∀ k m : Nat, (∀ i : Nat, i < k → zLt (f (s + i)) = true) → (∀ i : Nat, i < m → zLt (g (t + i)) = true) → wvN f s k = wvN g t m → k = m ∧ ∀ i : Nat, i < k → f (s + i) = g (t + i)
  | 0, 0, _, _, _ => ⟨rfl, fun i hi => by omega⟩
  | 0, m + 1, _, hg, h => by
    exfalso
    have h1 := wvN_b m (fun i hi => hg i (by omega))
    have h2 := zLt_i (hg m (by omega))
    have h3 : (0 : Int) = wvN g t m * 32 + (g (t + m) - 96) := h
    omega
  | k + 1, 0, hf, _, h => by
    exfalso
    have h1 := wvN_b k (fun i hi => hf i (by omega))
    have h2 := zLt_i (hf k (by omega))
    have h3 : wvN f s k * 32 + (f (s + k) - 96) = 0 := h
    omega
  | k + 1, m + 1, hf, hg, h => by
    have h1 := zLt_i (hf k (by omega))
    have h2 := zLt_i (hg m (by omega))
    have h3 : wvN f s k * 32 + (f (s + k) - 96) = wvN g t m * 32 + (g (t + m) - 96) := h
    obtain ⟨h4, h5⟩ := wvN_inj k m (fun i hi => hf i (by omega)) (fun i hi => hg i (by omega)) (by omega)
    subst h4
    refine ⟨rfl, fun i hi => ?_⟩
    by_cases g9 : i = k
    · subst g9; omega
    · exact h5 i (by omega)
