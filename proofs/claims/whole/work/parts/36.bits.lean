/-! ===== bits ===== -/
def tb (m l : Int) : Bool := m.toNat.testBit l.toNat
theorem ofN (n : Nat) : Int32.ofInt (n : Int) = nI n := Int32.ofInt_eq_ofNat
theorem sh_l : ∀ n, n < 32 → ((nI n &&& 31).toBitVec.smod 32).toNat = n := by decide +kernel
theorem nI_to {n : Nat} (h : n < 2 ^ 31) : (nI n).toInt = n := by
  have := to32 (x := (n : Int)) ⟨by omega, by omega⟩
  rw [ofN] at this
  exact this
theorem shr32_n {m l : Nat} (hm : m < 2 ^ 31) (hl : l < 32) : shr32 m l = ((m / 2 ^ l : Nat) : Int) := by
  unfold shr32
  rw [ofN, ofN, pk_shrN hm _ l (sh_l l hl), nI_to]
  exact Nat.lt_of_le_of_lt (Nat.div_le_self _ _) hm
theorem shl32_n {m l : Nat} (h : m * 2 ^ l < 2 ^ 31) (hl : l < 32) : shl32 m l = ((m * 2 ^ l : Nat) : Int) := by
  unfold shl32
  rw [ofN, ofN, pk_shlN _ l (sh_l l hl) (by omega), nI_to h]
theorem nI_and (a b : Nat) : nI a &&& nI b = nI (a &&& b) := by
  apply Int32.toBitVec.inj
  simp [nI, Int32.toBitVec_ofNat']
theorem nI_or (a b : Nat) : nI a ||| nI b = nI (a ||| b) := by
  apply Int32.toBitVec.inj
  simp [nI, Int32.toBitVec_ofNat']
theorem and32_n {a b : Nat} (ha : a < 2 ^ 31) : and32 a b = ((a &&& b : Nat) : Int) := by
  unfold and32
  rw [ofN, ofN, nI_and, nI_to]
  exact Nat.lt_of_le_of_lt Nat.and_le_left ha
theorem or32_n {a b : Nat} (ha : a < 2 ^ 31) (hb : b < 2 ^ 31) : or32 a b = ((a ||| b : Nat) : Int) := by
  unfold or32
  rw [ofN, ofN, nI_or, nI_to]
  exact Nat.or_lt_two_pow ha hb
theorem bit_t {m l : Int} (hm0 : 0 ≤ m) (hm : m < 2147483648) (hl0 : 0 ≤ l) (hl : l < 31) : and32 (shr32 m l) 1 = if tb m l then 1 else 0 := by
  obtain ⟨a, rfl⟩ := nat_of hm0
  obtain ⟨b, rfl⟩ := nat_of hl0
  rw [shr32_n (by omega) (by omega)]
  have h1 : a / 2 ^ b < 2 ^ 31 := Nat.lt_of_le_of_lt (Nat.div_le_self _ _) (by omega)
  have h2 := and32_n (a := a / 2 ^ b) (b := 1) h1
  rw [show ((1 : Nat) : Int) = 1 from rfl] at h2
  rw [h2, Nat.and_one_is_mod]
  unfold tb
  simp only [Int.toNat_natCast]
  have hb : a.testBit b = decide (a / 2 ^ b % 2 = 1) := Nat.testBit_eq_decide_div_mod_eq
  rcases Nat.mod_two_eq_zero_or_one (a / 2 ^ b) with h | h <;> simp [h, hb]
theorem bit_ne {m l : Int} (hm0 : 0 ≤ m) (hm : m < 2147483648) (hl0 : 0 ≤ l) (hl : l < 31) : (and32 (shr32 m l) 1 ≠ 0) ↔ tb m l = true := by
  rw [bit_t hm0 hm hl0 hl]
  cases tb m l <;> simp
theorem bit_eq {m l : Int} (hm0 : 0 ≤ m) (hm : m < 2147483648) (hl0 : 0 ≤ l) (hl : l < 31) : (and32 (shr32 m l) 1 = 0) ↔ tb m l = false := by
  rw [bit_t hm0 hm hl0 hl]
  cases tb m l <;> simp
theorem shl1 {l : Int} (hl0 : 0 ≤ l) (hl : l < 31) : shl32 1 l = 2 ^ l.toNat := by
  obtain ⟨b, rfl⟩ := nat_of hl0
  have hb : 2 ^ b < 2 ^ 31 := Nat.pow_lt_pow_right (by omega) (by omega)
  have := shl32_n (m := 1) (l := b) (by omega) (by omega)
  rw [show ((1 : Nat) : Int) = 1 from rfl] at this
  rw [this]
  simp
/-- a bit more -/
theorem or_bit {m l : Int} {w : Nat} (hw : w ≤ 30) (hm0 : 0 ≤ m) (hm : m < 2 ^ w) (hl0 : 0 ≤ l) (hl : l < (w : Int)) : 0 ≤ or32 m (shl32 1 l) ∧ or32 m (shl32 1 l) < 2 ^ w ∧ ∀ j, 0 ≤ j → tb (or32 m (shl32 1 l)) j = (tb m j || decide (j = l)) := by
  obtain ⟨a, rfl⟩ := nat_of hm0
  obtain ⟨b, rfl⟩ := nat_of hl0
  have hw2 : 2 ^ w ≤ 2 ^ 30 := Nat.pow_le_pow_right (by omega) hw
  have ha : a < 2 ^ w := by
    have : (a : Int) < ((2 ^ w : Nat) : Int) := by rw [Int.natCast_pow]; exact hm
    omega
  have hb : 2 ^ b < 2 ^ w := Nat.pow_lt_pow_right (by omega) (by omega)
  have hs : shl32 1 (b : Int) = ((2 ^ b : Nat) : Int) := by rw [shl1 (by omega) (by omega)]; simp
  rw [hs, or32_n (by omega) (by omega)]
  have hor : a ||| 2 ^ b < 2 ^ w := Nat.or_lt_two_pow ha hb
  refine ⟨by omega, ?_, fun j hj => ?_⟩
  · have : ((a ||| 2 ^ b : Nat) : Int) < ((2 ^ w : Nat) : Int) := by omega
    rw [Int.natCast_pow] at this
    exact this
  · obtain ⟨c, rfl⟩ := nat_of hj
    unfold tb
    simp only [Int.toNat_natCast, Nat.testBit_or, Nat.testBit_two_pow]
    congr 1
    by_cases h : b = c
    · subst h; simp
    · have : ¬ ((c : Int) = (b : Int)) := by omega
      simp [h, this]
theorem tb_zero (l : Int) : tb 0 l = false := by unfold tb; simp
/-- all bits below w -/
theorem ones_bit {w l : Int} (hw0 : 0 ≤ w) (hw : w ≤ 30) (hl : 0 ≤ l) : tb (2 ^ w.toNat - 1) l = decide (l < w) := by
  obtain ⟨a, rfl⟩ := nat_of hw0
  obtain ⟨b, rfl⟩ := nat_of hl
  unfold tb
  have e : ((2 : Int) ^ (a : Int).toNat - 1).toNat = 2 ^ a - 1 := by
    have : (2 : Int) ^ (a : Int).toNat = ((2 ^ a : Nat) : Int) := by simp
    rw [this]; omega
  rw [e]
  simp only [Int.toNat_natCast, Nat.testBit_two_pow_sub_one]
  by_cases h : b < a
  · simp [h]
  · simp [h]
/-- numbers with the same bits are the same -/
theorem tb_ext {m m' : Int} {w : Nat} (h0 : 0 ≤ m) (h1 : m < 2 ^ w) (h0' : 0 ≤ m') (h1' : m' < 2 ^ w) (h : ∀ l, 0 ≤ l → l < (w : Int) → tb m l = tb m' l) : m = m' := by
  obtain ⟨a, rfl⟩ := nat_of h0
  obtain ⟨b, rfl⟩ := nat_of h0'
  have ha : a < 2 ^ w := by
    have : (a : Int) < ((2 ^ w : Nat) : Int) := by rw [Int.natCast_pow]; exact h1
    omega
  have hb : b < 2 ^ w := by
    have : (b : Int) < ((2 ^ w : Nat) : Int) := by rw [Int.natCast_pow]; exact h1'
    omega
  have : a = b := by
    apply Nat.eq_of_testBit_eq
    intro i
    by_cases hi : i < w
    · have := h i (by omega) (by omega)
      unfold tb at this
      simpa using this
    · rw [Nat.testBit_lt_two_pow (Nat.lt_of_lt_of_le ha (Nat.pow_le_pow_right (by omega) (by omega))), Nat.testBit_lt_two_pow (Nat.lt_of_lt_of_le hb (Nat.pow_le_pow_right (by omega) (by omega)))]
  omega
