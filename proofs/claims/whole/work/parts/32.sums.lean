/-! ===== sums over stretches of whole numbers ===== -/
def smN (f : Int → Int) (lo : Int) : Nat → Int
  | 0 => 0
  | k + 1 => smN f lo k + f (lo + k)
def sR (f : Int → Int) (lo hi : Int) : Int := smN f lo (hi - lo).toNat
theorem sR_nil {f : Int → Int} {lo hi : Int} (h : hi ≤ lo) : sR f lo hi = 0 := by
  unfold sR
  rw [show (hi - lo).toNat = 0 by omega]
  rfl
theorem sR_succ {f : Int → Int} {lo k : Int} (h : lo ≤ k) : sR f lo (k + 1) = sR f lo k + f k := by
  unfold sR
  rw [show (k + 1 - lo).toNat = (k - lo).toNat + 1 by omega]
  show smN f lo _ + f (lo + ((k - lo).toNat : Int)) = _
  rw [show lo + ((k - lo).toNat : Int) = k by omega]
/-- what holds of every stretch -/
theorem up_ind {lo : Int} {P : Int → Prop} (h0 : P lo) (hs : ∀ k, lo ≤ k → P k → P (k + 1)) : ∀ hi, lo ≤ hi → P hi := by
  have key : ∀ n : Nat, P (lo + n) := by
    intro n
    induction n with
    | zero => simpa using h0
    | succ n ih =>
      have := hs (lo + n) (by omega) ih
      rw [show lo + ((n + 1 : Nat) : Int) = lo + n + 1 by omega]
      exact this
  intro hi h
  have := key (hi - lo).toNat
  rwa [show lo + ((hi - lo).toNat : Int) = hi by omega] at this
theorem sR_congr {f g : Int → Int} {lo hi : Int} (h : ∀ k, lo ≤ k → k < hi → f k = g k) : sR f lo hi = sR g lo hi := by
  rcases Int.le_total hi lo with h1 | h1
  · rw [sR_nil h1, sR_nil h1]
  · revert h
    refine up_ind (P := fun hi => (∀ k, lo ≤ k → k < hi → f k = g k) → sR f lo hi = sR g lo hi) ?_ ?_ hi h1
    · intro _; rw [sR_nil (by omega), sR_nil (by omega)]
    · intro k hk ih h
      rw [sR_succ hk, sR_succ hk, ih (fun j h1 h2 => h j h1 (by omega)), h k hk (by omega)]
theorem sR_add {f g : Int → Int} {lo hi : Int} : sR (fun k => f k + g k) lo hi = sR f lo hi + sR g lo hi := by
  rcases Int.le_total hi lo with h1 | h1
  · rw [sR_nil h1, sR_nil h1, sR_nil h1]; rfl
  · refine up_ind (P := fun hi => sR (fun k => f k + g k) lo hi = sR f lo hi + sR g lo hi) ?_ ?_ hi h1
    · rw [sR_nil (by omega), sR_nil (by omega), sR_nil (by omega)]; rfl
    · intro k hk ih
      rw [sR_succ hk, sR_succ hk, sR_succ hk, ih]; omega
theorem sR_mul {f : Int → Int} {c lo hi : Int} : sR (fun k => c * f k) lo hi = c * sR f lo hi := by
  rcases Int.le_total hi lo with h1 | h1
  · rw [sR_nil h1, sR_nil h1]; simp
  · refine up_ind (P := fun hi => sR (fun k => c * f k) lo hi = c * sR f lo hi) ?_ ?_ hi h1
    · rw [sR_nil (by omega), sR_nil (by omega)]; simp
    · intro k hk ih
      rw [sR_succ hk, sR_succ hk, ih, Int.mul_add]
theorem sR_neg {f : Int → Int} {lo hi : Int} : sR (fun k => -f k) lo hi = -sR f lo hi := by
  have h := sR_mul (f := f) (c := -1) (lo := lo) (hi := hi)
  rw [show (fun k => -1 * f k) = fun k => -f k from by funext k; omega] at h
  rw [h]; omega
theorem sR_sub {f g : Int → Int} {lo hi : Int} : sR (fun k => f k - g k) lo hi = sR f lo hi - sR g lo hi := by
  have h := sR_add (f := f) (g := fun k => -g k) (lo := lo) (hi := hi)
  rw [sR_neg] at h
  rw [show (fun k => f k - g k) = fun k => f k + -g k from by funext k; omega, h]; omega
theorem sR_zero {lo hi : Int} : sR (fun _ => 0) lo hi = 0 := by
  have h := sR_mul (f := fun _ => 0) (c := 0) (lo := lo) (hi := hi)
  simpa using h
theorem sR_zero' {f : Int → Int} {lo hi : Int} (h : ∀ k, lo ≤ k → k < hi → f k = 0) : sR f lo hi = 0 := by
  rw [sR_congr (g := fun _ => 0) h, sR_zero]
theorem sR_split {f : Int → Int} {lo mid hi : Int} (h1 : lo ≤ mid) (h2 : mid ≤ hi) : sR f lo hi = sR f lo mid + sR f mid hi := by
  refine up_ind (P := fun hi => sR f lo hi = sR f lo mid + sR f mid hi) ?_ ?_ hi h2
  · rw [sR_nil (lo := mid) (by omega)]; omega
  · intro k hk ih
    rw [sR_succ (by omega), sR_succ hk, ih]; omega
theorem sR_swap {f : Int → Int → Int} {a b c d : Int} : sR (fun i => sR (fun j => f i j) c d) a b = sR (fun j => sR (fun i => f i j) a b) c d := by
  rcases Int.le_total b a with h1 | h1
  · rw [sR_nil h1]
    rw [sR_zero' (fun k _ _ => sR_nil h1)]
  · refine up_ind (P := fun b => sR (fun i => sR (fun j => f i j) c d) a b = sR (fun j => sR (fun i => f i j) a b) c d) ?_ ?_ b h1
    · rw [sR_nil (by omega), sR_zero' (fun k _ _ => sR_nil (by omega))]
    · intro k hk ih
      rw [sR_succ hk, ih, ← sR_add]
      apply sR_congr
      intro j _ _
      rw [sR_succ hk]
theorem sR_bound {f : Int → Int} {lo hi A B : Int} (hA : A ≤ 0) (hB : 0 ≤ B) (h : ∀ k, lo ≤ k → k < hi → A ≤ f k ∧ f k ≤ B) {n : Int} (hn : hi - lo ≤ n) (hn0 : 0 ≤ n) : n * A ≤ sR f lo hi ∧ sR f lo hi ≤ n * B := by
  have key : ∀ hi', lo ≤ hi' → hi' ≤ hi → (hi' - lo) * A ≤ sR f lo hi' ∧ sR f lo hi' ≤ (hi' - lo) * B := by
    refine up_ind ?_ ?_
    · intro _; rw [sR_nil (by omega)]; simp
    · intro k hk ih hk2
      obtain ⟨i1, i2⟩ := ih (by omega)
      obtain ⟨q1, q2⟩ := h k hk (by omega)
      rw [sR_succ hk, show k + 1 - lo = (k - lo) + 1 by omega, Int.add_mul, Int.add_mul]
      omega
  rcases Int.le_total hi lo with h1 | h1
  · rw [sR_nil h1]
    exact ⟨Int.mul_nonpos_of_nonneg_of_nonpos hn0 hA, Int.mul_nonneg hn0 hB⟩
  · obtain ⟨i1, i2⟩ := key hi h1 (by omega)
    have m1 : n * A ≤ (hi - lo) * A := Int.mul_le_mul_of_nonpos_right hn hA
    have m2 : (hi - lo) * B ≤ n * B := Int.mul_le_mul_of_nonneg_right hn hB
    omega
/-- sums by what is left -/
theorem sR_mod {f g : Int → Int} {p lo hi : Int} (h : ∀ k, lo ≤ k → k < hi → f k % p = g k % p) : sR f lo hi % p = sR g lo hi % p := by
  rcases Int.le_total hi lo with h1 | h1
  · rw [sR_nil h1, sR_nil h1]
  · revert h
    refine up_ind (P := fun hi => (∀ k, lo ≤ k → k < hi → f k % p = g k % p) → sR f lo hi % p = sR g lo hi % p) ?_ ?_ hi h1
    · intro _; rw [sR_nil (by omega), sR_nil (by omega)]
    · intro k hk ih h
      rw [sR_succ hk, sR_succ hk, Int.add_emod, ih (fun j h1 h2 => h j h1 (by omega)), h k hk (by omega), ← Int.add_emod]
/-- a square of numbers, by its two halves and its middle -/
theorem sR_tri {f : Int → Int → Int} {n : Int} (h0 : 0 ≤ n) : sR (fun i => sR (fun j => f i j) 0 n) 0 n = sR (fun i => sR (fun j => f i j + f j i) (i + 1) n) 0 n + sR (fun i => f i i) 0 n := by
  refine up_ind (P := fun n => sR (fun i => sR (fun j => f i j) 0 n) 0 n = sR (fun i => sR (fun j => f i j + f j i) (i + 1) n) 0 n + sR (fun i => f i i) 0 n) ?_ ?_ n h0
  · rw [sR_nil (by omega), sR_nil (by omega), sR_nil (by omega)]; rfl
  · intro k hk ih
    rw [sR_succ (f := fun i => sR (fun j => f i j) 0 (k + 1)) hk, sR_succ (f := fun i => sR (fun j => f i j + f j i) (i + 1) (k + 1)) hk, sR_succ (f := fun i => f i i) hk]
    have e1 : sR (fun i => sR (fun j => f i j) 0 (k + 1)) 0 k = sR (fun i => sR (fun j => f i j) 0 k) 0 k + sR (fun i => f i k) 0 k := by
      rw [← sR_add]
      apply sR_congr
      intro i _ _
      rw [sR_succ hk]
    have e2 : sR (fun i => sR (fun j => f i j + f j i) (i + 1) (k + 1)) 0 k = sR (fun i => sR (fun j => f i j + f j i) (i + 1) k) 0 k + sR (fun i => f i k + f k i) 0 k := by
      rw [← sR_add]
      apply sR_congr
      intro i h1 h2
      rw [sR_succ (by omega)]
    have e3 : sR (fun j => f k j + f j k) (k + 1) (k + 1) = 0 := sR_nil (by omega)
    have e4 : sR (fun i => f i k + f k i) 0 k = sR (fun i => f i k) 0 k + sR (fun i => f k i) 0 k := sR_add
    rw [e1, e2, e3, e4, ih, sR_succ hk]
    omega
