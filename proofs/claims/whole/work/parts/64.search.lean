/-! ===== the search for MAPS, told purely ===== -/
abbrev MS : Type := Int × Int × Bool
def stp (first : Bool) (s : MS) : Bool := s.2.2 || (first && decide (0 < s.2.1))
def upx (xs : Int → Int) (l x : Int) : Int → Int := fun i => if i = l then x else xs i
def trx (xs : Int → Int) (l : Int) : Int → Int := fun i => if i < l then xs i else 0
def SPN (p n : Int) (xs : Int → Int) (l : Int) : ES := lp (fun j E => ins p n E (dg p (xs j))) 0 l E0
/-- the BRACKET of two images is what the source says of them, by the images up to l -/
def AG (p n : Int) (T1 T2 xs : Int → Int) (i j l : Int) : Prop := ∀ m, 0 ≤ m → m < n → br p n T2 (dg p (xs i)) (dg p (xs j)) m = sR (fun k => T1 (25 * i + 5 * j + k) * dg p (xs k) m) 0 (l + 1) % p
def DU (n : Int) (T1 : Int → Int) (i j l : Int) : Prop := ∀ k, l < k → k < n → T1 (25 * i + 5 * j + k) = 0
def FIT (p n : Int) (T1 T2 : Int → Int) (l : Int) (xs : Int → Int) : Prop := ¬ In p n (SPN p n xs l) (dg p (xs l)) ∧ ∀ i j, 0 ≤ i → i < j → j ≤ l → DU n T1 i j l → AG p n T1 T2 xs i j l
noncomputable def lcF (F : Int → (Int → Int) → Prop) (first : Bool) (f : (Int → Int) → MS → MS) (l : Int) (xs : Int → Int) : Nat → Int → MS → MS
  | 0, _, s => s
  | c + 1, x, s => if stp first s = true then s else if s.1 = 200000 then (s.1, s.2.1, true) else lcF F first f l xs c (x + 1) (@ite MS (F l (upx xs l x)) (Classical.propDecidable _) (f (upx xs l x) (s.1 + 1, s.2)) (s.1 + 1, s.2))
noncomputable def gmF (F : Int → (Int → Int) → Prop) (first : Bool) (n : Int) (N : Nat) : Nat → (Int → Int) → MS → MS
  | 0, _, s => (s.1, s.2.1 + 1, s.2.2)
  | k + 1, xs, s => lcF F first (gmF F first n N k) (n - ((k : Int) + 1)) xs (N - 1) 1 s
noncomputable def unw (F : Int → (Int → Int) → Prop) (first : Bool) (n : Int) (N : Nat) (xs : Int → Int) : Nat → MS → MS
  | 0, s => s
  | l + 1, s => unw F first n N xs l (lcF F first (gmF F first n N (n.toNat - (l + 1))) (l : Int) (trx xs l) (N - 1 - (xs l).toNat) (xs l + 1) s)
theorem lcF_stop {F : Int → (Int → Int) → Prop} {first : Bool} {f : (Int → Int) → MS → MS} {l : Int} {xs : Int → Int} {s : MS} (h : stp first s = true) : ∀ c x, lcF F first f l xs c x s = s
  | 0, _ => rfl
  | c + 1, x => by
    show (if stp first s = true then s else _) = s
    rw [if_pos h]
theorem unw_stop {F : Int → (Int → Int) → Prop} {first : Bool} {n : Int} {N : Nat} {xs : Int → Int} {s : MS} (h : stp first s = true) : ∀ m, unw F first n N xs m s = s
  | 0 => rfl
  | m + 1 => by
    show unw F first n N xs m (lcF F first _ _ _ _ _ s) = s
    rw [lcF_stop h, unw_stop h m]
theorem lcF_spent {F : Int → (Int → Int) → Prop} {first : Bool} {f : (Int → Int) → MS → MS} {l : Int} {xs : Int → Int} {s : MS} {c : Nat} {x : Int} (h : stp first s = false) (h2 : s.1 = 200000) : lcF F first f l xs (c + 1) x s = (s.1, s.2.1, true) := by
  show (if stp first s = true then s else _) = _
  rw [if_neg (by rw [h]; simp), if_pos h2]
theorem lcF_yes {F : Int → (Int → Int) → Prop} {first : Bool} {f : (Int → Int) → MS → MS} {l : Int} {xs : Int → Int} {s : MS} {c : Nat} {x : Int} (h : stp first s = false) (h2 : s.1 ≠ 200000) (hF : F l (upx xs l x)) : lcF F first f l xs (c + 1) x s = lcF F first f l xs c (x + 1) (f (upx xs l x) (s.1 + 1, s.2)) := by
  show (if stp first s = true then s else if s.1 = 200000 then _ else _) = _
  rw [if_neg (by rw [h]; simp), if_neg h2, if_pos hF]
theorem lcF_no {F : Int → (Int → Int) → Prop} {first : Bool} {f : (Int → Int) → MS → MS} {l : Int} {xs : Int → Int} {s : MS} {c : Nat} {x : Int} (h : stp first s = false) (h2 : s.1 ≠ 200000) (hF : ¬ F l (upx xs l x)) : lcF F first f l xs (c + 1) x s = lcF F first f l xs c (x + 1) (s.1 + 1, s.2) := by
  show (if stp first s = true then s else if s.1 = 200000 then _ else _) = _
  rw [if_neg (by rw [h]; simp), if_neg h2, if_neg hF]
theorem trx_upx {xs : Int → Int} {l x : Int} : trx (upx xs l x) (l + 1) = upx (trx xs l) l x := by
  funext i
  show (if i < l + 1 then (if i = l then x else xs i) else 0) = (if i = l then x else if i < l then xs i else 0)
  by_cases h1 : i = l
  · rw [if_pos (by omega), if_pos h1, if_pos h1]
  · by_cases h2 : i < l
    · rw [if_pos (by omega), if_neg h1, if_neg h1, if_pos h2]
    · rw [if_neg (by omega), if_neg h1, if_neg h2]
theorem trx_lo {xs : Int → Int} {l m x : Int} (h : l ≤ m) : trx (upx xs m x) l = trx xs l := by
  funext i
  unfold trx upx
  by_cases h1 : i < l
  · rw [if_pos h1, if_pos h1, if_neg (by omega)]
  · rw [if_neg h1, if_neg h1]
theorem unw_lo {F : Int → (Int → Int) → Prop} {first : Bool} {n : Int} {N : Nat} {xs : Int → Int} {x : Int} {l : Nat} : ∀ (m : Nat), m ≤ l → ∀ s, unw F first n N (upx xs l x) m s = unw F first n N xs m s
  | 0, _, _ => rfl
  | m + 1, h, s => by
    show unw F first n N (upx xs l x) m (lcF F first _ _ (trx (upx xs l x) m) (N - 1 - (upx xs l x m).toNat) (upx xs l x m + 1) s) = unw F first n N xs m _
    have e : upx xs l x m = xs m := by unfold upx; rw [if_neg (by omega)]
    rw [unw_lo m (by omega), trx_lo (by omega), e]
theorem SPN_cg {p n l : Int} {xs ys : Int → Int} (h : ∀ i, 0 ≤ i → i < l → xs i = ys i) : SPN p n xs l = SPN p n ys l := lp_cg (fun k t k0 k1 => by rw [h k k0 k1])
theorem FIT_cg {p n l : Int} {T1 T2 xs ys : Int → Int} (h : ∀ i, 0 ≤ i → i ≤ l → xs i = ys i) (l0 : 0 ≤ l) : FIT p n T1 T2 l xs ↔ FIT p n T1 T2 l ys := by
  have e1 : SPN p n xs l = SPN p n ys l := SPN_cg (fun i i0 i1 => h i i0 (by omega))
  have e2 : ∀ i j, 0 ≤ i → i < j → j ≤ l → (AG p n T1 T2 xs i j l ↔ AG p n T1 T2 ys i j l) := fun i j i0 ij jl => by
    unfold AG
    rw [h i i0 (by omega), h j (by omega) jl]
    have e3 : ∀ m, sR (fun k => T1 (25 * i + 5 * j + k) * dg p (xs k) m) 0 (l + 1) = sR (fun k => T1 (25 * i + 5 * j + k) * dg p (ys k) m) 0 (l + 1) := fun m => sR_congr (fun k k0 k1 => by rw [h k k0 (by omega)])
    constructor <;> intro g m m0 m1 <;> have := g m m0 m1 <;> rw [e3] at * <;> exact this
  unfold FIT
  rw [e1, h l l0 (Int.le_refl _)]
  exact and_congr_right (fun _ => ⟨fun g i j i0 ij jl hd => (e2 i j i0 ij jl).mp (g i j i0 ij jl hd), fun g i j i0 ij jl hd => (e2 i j i0 ij jl).mpr (g i j i0 ij jl hd)⟩)
theorem AG_more {p n i j l m : Int} {T1 T2 xs : Int → Int} (hd : DU n T1 i j l) (hl : 0 ≤ l) (hlm : l ≤ m) (hm : m < n) : AG p n T1 T2 xs i j l ↔ AG p n T1 T2 xs i j m := by
  have e : ∀ q, sR (fun k => T1 (25 * i + 5 * j + k) * dg p (xs k) q) 0 (m + 1) = sR (fun k => T1 (25 * i + 5 * j + k) * dg p (xs k) q) 0 (l + 1) := fun q => by
    rw [sR_split (mid := l + 1) (by omega) (by omega), sR_zero' (lo := l + 1) (fun k k0 k1 => by rw [hd k (by omega) (by omega)]; simp), Int.add_zero]
  unfold AG
  constructor <;> intro g q q0 q1 <;> have := g q q0 q1 <;> rw [e] at * <;> exact this
/-- the numbers of the source's couples: when each is due -/
def due (n : Int) (T1 : Int → Int) (i j d : Int) : Prop := j ≤ d ∧ d < n ∧ DU n T1 i j d ∧ (d = j ∨ T1 (25 * i + 5 * j + d) ≠ 0)
theorem due_iff {n i j d l : Int} {T1 : Int → Int} (h : due n T1 i j d) (hj : j ≤ l) (hl : l < n) : DU n T1 i j l ↔ d ≤ l := by
  obtain ⟨h1, h2, h3, h4⟩ := h
  constructor
  · intro g
    rcases h4 with h4 | h4
    · omega
    · rcases Int.lt_or_le l d with q | q
      · exact absurd (g d q h2) h4
      · exact q
  · intro g k k0 k1; exact h3 k (by omega) k1
/-- only what is due now need be looked at -/
theorem FIT_now {p n l : Int} {T1 T2 xs dd : Int → Int} (l1 : l < n) (hd : ∀ i j, 0 ≤ i → i < j → j < n → due n T1 i j (dd (5 * i + j))) (hpre : ∀ k, 0 ≤ k → k < l → FIT p n T1 T2 k xs) : FIT p n T1 T2 l xs ↔ (¬ In p n (SPN p n xs l) (dg p (xs l)) ∧ ∀ i j, 0 ≤ i → i < j → j ≤ l → dd (5 * i + j) = l → AG p n T1 T2 xs i j l) := by
  unfold FIT
  refine and_congr_right (fun _ => ⟨fun g i j i0 ij jl hdd => g i j i0 ij jl ?_, fun g i j i0 ij jl hdu => ?_⟩)
  · exact (due_iff (hd i j i0 ij (by omega)) jl l1).mpr (by omega)
  · have h1 := hd i j i0 ij (by omega)
    have h2 := (due_iff h1 jl l1).mp hdu
    by_cases h3 : dd (5 * i + j) = l
    · exact g i j i0 ij jl h3
    · have h4 : dd (5 * i + j) < l := by omega
      have h5 := (hpre (dd (5 * i + j)) (by have := h1.1; omega) h4).2 i j i0 ij h1.1 h1.2.2.1
      exact (AG_more h1.2.2.1 (by have := h1.1; omega) (by omega) l1).mp h5
