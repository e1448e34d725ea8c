/-! ===== SPANS by their ECHELONS: leads ℓ, rows R by their leads ===== -/
def PR (p : Int) : Prop := p = 2 ∨ p = 3 ∨ p = 5 ∨ p = 7
theorem PN.pr {p n : Int} (h : PN p n) : PR p := by unfold PN at h; unfold PR; omega
def iv (p x : Int) : Int := x ^ (p - 2).toNat % p
theorem iv_s {p x : Int} (hp : PR p) (h1 : 1 ≤ x) (h2 : x < p) : 1 ≤ iv p x ∧ iv p x < p ∧ x * iv p x % p = 1 := by
  rcases hp with rfl | rfl | rfl | rfl
  · have : x = 1 := by omega
    subst this; decide
  · have : x = 1 ∨ x = 2 := by omega
    rcases this with rfl | rfl <;> decide
  · have : x = 1 ∨ x = 2 ∨ x = 3 ∨ x = 4 := by omega
    rcases this with rfl | rfl | rfl | rfl <;> decide
  · have : x = 1 ∨ x = 2 ∨ x = 3 ∨ x = 4 ∨ x = 5 ∨ x = 6 := by omega
    rcases this with rfl | rfl | rfl | rfl | rfl | rfl <;> decide
theorem iv_u {p x y : Int} (hp : PR p) (h1 : 1 ≤ x) (h2 : x < p) (h3 : 1 ≤ y) (h4 : y < p) (h : x * y % p = 1) : y = iv p x := by
  rcases hp with rfl | rfl | rfl | rfl
  · have hx : x = 1 := by omega
    have hy : y = 1 := by omega
    subst hx; subst hy; decide
  · have hx : x = 1 ∨ x = 2 := by omega
    have hy : y = 1 ∨ y = 2 := by omega
    rcases hx with rfl | rfl <;> rcases hy with rfl | rfl <;> revert h <;> decide
  · have hx : x = 1 ∨ x = 2 ∨ x = 3 ∨ x = 4 := by omega
    have hy : y = 1 ∨ y = 2 ∨ y = 3 ∨ y = 4 := by omega
    rcases hx with rfl | rfl | rfl | rfl <;> rcases hy with rfl | rfl | rfl | rfl <;> revert h <;> decide
  · have hx : x = 1 ∨ x = 2 ∨ x = 3 ∨ x = 4 ∨ x = 5 ∨ x = 6 := by omega
    have hy : y = 1 ∨ y = 2 ∨ y = 3 ∨ y = 4 ∨ y = 5 ∨ y = 6 := by omega
    rcases hx with rfl | rfl | rfl | rfl | rfl | rfl <;> rcases hy with rfl | rfl | rfl | rfl | rfl | rfl <;> revert h <;> decide
def ldF (u : Int → Int) (lo : Int) : Nat → Int
  | 0 => lo
  | k + 1 => if u lo ≠ 0 then lo else ldF u (lo + 1) k
def ldw (w : Int) (u : Int → Int) : Int := ldF u 0 w.toNat
theorem ldF_s (u : Int → Int) : ∀ (k : Nat) (lo : Int), lo ≤ ldF u lo k ∧ ldF u lo k ≤ lo + k ∧ (∀ c, lo ≤ c → c < ldF u lo k → u c = 0) ∧ (ldF u lo k < lo + k → u (ldF u lo k) ≠ 0)
  | 0, lo => ⟨Int.le_refl _, by show lo ≤ lo + ((0 : Nat) : Int); omega, fun c h1 h2 => by have : c < lo := h2; omega, fun h => by have : lo < lo + ((0 : Nat) : Int) := h; omega⟩
  | k + 1, lo => by
    by_cases h : u lo ≠ 0
    · have e : ldF u lo (k + 1) = lo := by show (if u lo ≠ 0 then lo else _) = lo; rw [if_pos h]
      rw [e]
      exact ⟨Int.le_refl _, by omega, fun c h1 h2 => by omega, fun _ => h⟩
    · have e : ldF u lo (k + 1) = ldF u (lo + 1) k := by show (if u lo ≠ 0 then lo else _) = _; rw [if_neg h]
      rw [e]
      obtain ⟨a1, a2, a3, a4⟩ := ldF_s u k (lo + 1)
      refine ⟨by omega, by omega, fun c h1 h2 => ?_, fun h5 => a4 (by omega)⟩
      by_cases hc : c = lo
      · subst hc; exact Classical.not_not.mp h
      · exact a3 c (by omega) h2
theorem ldw_s {w : Int} (hw : 0 ≤ w) (u : Int → Int) : 0 ≤ ldw w u ∧ ldw w u ≤ w ∧ (∀ c, 0 ≤ c → c < ldw w u → u c = 0) ∧ (ldw w u < w → u (ldw w u) ≠ 0) := by
  obtain ⟨a1, a2, a3, a4⟩ := ldF_s u w.toNat 0
  exact ⟨a1, by unfold ldw; omega, a3, fun h => a4 (by unfold ldw at h; omega)⟩
theorem ldw_u {w r : Int} {u : Int → Int} (hw : 0 ≤ w) (h0 : 0 ≤ r) (h1 : r ≤ w) (hz : ∀ c, 0 ≤ c → c < r → u c = 0) (hn : r < w → u r ≠ 0) : ldw w u = r := by
  obtain ⟨a1, a2, a3, a4⟩ := ldw_s hw u
  rcases Int.lt_trichotomy (ldw w u) r with h | h | h
  · exact absurd (hz _ a1 h) (a4 (by omega))
  · exact h
  · exact absurd (a3 r h0 h) (hn (by omega))
theorem ldw_cg {w : Int} {u v : Int → Int} (hw : 0 ≤ w) (h : ∀ c, 0 ≤ c → c < w → u c = v c) : ldw w u = ldw w v := by
  obtain ⟨a1, a2, a3, a4⟩ := ldw_s hw v
  refine ldw_u hw a1 a2 (fun c h1 h2 => ?_) (fun h1 => ?_)
  · rw [h c h1 (by omega)]; exact a3 c h1 h2
  · rw [h _ a1 h1]; exact a4 h1
abbrev ES : Type := (Int → Bool) × (Int → Int → Int)
def EW (p w : Int) (E : ES) : Prop := ∀ l, 0 ≤ l → l < w → E.1 l = true → (∀ c, 0 ≤ c → c < w → 0 ≤ E.2 l c ∧ E.2 l c < p) ∧ E.2 l l = 1 ∧ (∀ c, 0 ≤ c → c < l → E.2 l c = 0) ∧ (∀ m, 0 ≤ m → m < w → E.1 m = true → m ≠ l → E.2 l m = 0)
/-- what is left of v without the SPAN -/
def rd (p w : Int) (E : ES) (v : Int → Int) : Int → Int := fun c => (v c - sR (fun l => if E.1 l = true then v l * E.2 l c else 0) 0 w) % p
def ild (p w : Int) (E : ES) (v : Int → Int) : Int := ldw w (rd p w E v)
def irow (p w : Int) (E : ES) (v : Int → Int) : Int → Int := fun c => rd p w E v c * iv p (rd p w E v (ild p w E v)) % p
/-- a VECTOR comes to the SPAN -/
def ins (p w : Int) (E : ES) (v : Int → Int) : ES :=
  if ild p w E v < w then (fun l => E.1 l || decide (l = ild p w E v), fun l c => if l = ild p w E v then irow p w E v c else (E.2 l c - E.2 l (ild p w E v) * irow p w E v c) % p) else E
/-- how many lead below w -/
def cd (ℓ : Int → Bool) (w : Int) : Int := sR (fun l => if ℓ l = true then 1 else 0) 0 w
theorem sR_one {f : Int → Int} {lo hi l : Int} (h1 : lo ≤ l) (h2 : l < hi) (h : ∀ k, lo ≤ k → k < hi → k ≠ l → f k = 0) : sR f lo hi = f l := by
  rw [sR_split (mid := l) h1 (by omega), sR_zero' (f := f) (lo := lo) (hi := l) (fun k g1 g2 => h k g1 (by omega) (by omega)), sR_split (lo := l) (mid := l + 1) (by omega) (by omega), sR_succ (by omega), sR_nil (lo := l) (hi := l) (by omega), sR_zero' (f := f) (lo := l + 1) (hi := hi) (fun k g1 g2 => h k (by omega) g2 (by omega))]
  omega
theorem rd_in {p w c : Int} {E : ES} {v : Int → Int} (hp : 0 < p) : 0 ≤ rd p w E v c ∧ rd p w E v c < p := ⟨Int.emod_nonneg _ (by omega), Int.emod_lt_of_pos _ hp⟩
theorem rd_lead {p w l : Int} {E : ES} {v : Int → Int} (hE : EW p w E) (h0 : 0 ≤ l) (h1 : l < w) (hl : E.1 l = true) : rd p w E v l = 0 := by
  unfold rd
  rw [sR_one (l := l) h0 h1 (fun k g1 g2 g3 => by
    by_cases hk : E.1 k = true
    · rw [if_pos hk, (hE k g1 g2 hk).2.2.2 l h0 h1 hl (Ne.symm g3)]; simp
    · rw [if_neg hk]), if_pos hl, (hE l h0 h1 hl).2.1]
  simp
theorem ild_s {p w : Int} {E : ES} {v : Int → Int} (hw : 0 ≤ w) (hE : EW p w E) (h : ild p w E v < w) : 0 ≤ ild p w E v ∧ E.1 (ild p w E v) = false ∧ rd p w E v (ild p w E v) ≠ 0 ∧ ∀ c, 0 ≤ c → c < ild p w E v → rd p w E v c = 0 := by
  obtain ⟨a1, a2, a3, a4⟩ := ldw_s hw (rd p w E v)
  refine ⟨a1, ?_, a4 h, a3⟩
  cases hb : E.1 (ild p w E v) with
  | false => rfl
  | true => exact absurd (rd_lead hE a1 h hb) (a4 h)
theorem irow_s {p w : Int} {E : ES} {v : Int → Int} (hp : PR p) (hw : 0 ≤ w) (hE : EW p w E) (h : ild p w E v < w) : (∀ c, 0 ≤ irow p w E v c ∧ irow p w E v c < p) ∧ irow p w E v (ild p w E v) = 1 ∧ (∀ c, 0 ≤ c → c < ild p w E v → irow p w E v c = 0) ∧ ∀ l, 0 ≤ l → l < w → E.1 l = true → irow p w E v l = 0 := by
  have hp2 : 2 ≤ p := by unfold PR at hp; omega
  obtain ⟨b1, b2, b3, b4⟩ := ild_s hw hE h
  have hr := rd_in (p := p) (w := w) (E := E) (v := v) (c := ild p w E v) (by omega)
  obtain ⟨i1, i2, i3⟩ := iv_s hp (show 1 ≤ rd p w E v (ild p w E v) by omega) hr.2
  refine ⟨fun c => ⟨Int.emod_nonneg _ (by omega), Int.emod_lt_of_pos _ (by omega)⟩, i3, fun c h1 h2 => ?_, fun l h1 h2 h3 => ?_⟩
  · unfold irow; rw [b4 c h1 h2]; simp
  · unfold irow; rw [rd_lead hE h1 h2 h3]; simp
theorem EW_ins {p w : Int} {E : ES} {v : Int → Int} (hp : PR p) (hw : 0 ≤ w) (hE : EW p w E) : EW p w (ins p w E v) := by
  unfold ins
  by_cases h : ild p w E v < w
  · rw [if_pos h]
    have hp2 : 2 ≤ p := by unfold PR at hp; omega
    obtain ⟨b1, b2, b3, b4⟩ := ild_s hw hE h
    obtain ⟨c1, c2, c3, c4⟩ := irow_s hp hw hE h
    generalize ild p w E v = L at h b1 b2 b3 b4 c2 c3 ⊢
    generalize irow p w E v = u at c1 c2 c3 c4 ⊢
    intro l h0 h1 hl
    simp only at hl ⊢
    by_cases hlL : l = L
    · subst hlL
      refine ⟨fun c _ _ => by rw [if_pos rfl]; exact c1 c, by rw [if_pos rfl]; exact c2, fun c g1 g2 => by rw [if_pos rfl]; exact c3 c g1 g2, fun m g1 g2 g3 g4 => ?_⟩
      rw [if_pos rfl]
      have : E.1 m = true := by
        simp only [Bool.or_eq_true, decide_eq_true_eq] at g3
        rcases g3 with g | g
        · exact g
        · omega
      exact c4 m g1 g2 this
    · have hEl : E.1 l = true := by
        simp only [Bool.or_eq_true, decide_eq_true_eq] at hl
        rcases hl with g | g
        · exact g
        · omega
      obtain ⟨e1, e2, e3, e4⟩ := hE l h0 h1 hEl
      refine ⟨fun c _ _ => by rw [if_neg hlL]; exact ⟨Int.emod_nonneg _ (by omega), Int.emod_lt_of_pos _ (by omega)⟩, ?_, fun c g1 g2 => ?_, fun m g1 g2 g3 g4 => ?_⟩
      · rw [if_neg hlL, e2, c4 l h0 h1 hEl, Int.mul_zero, Int.sub_zero]
        exact Int.emod_eq_of_lt (by omega) (by omega)
      · rw [if_neg hlL, e3 c g1 g2]
        by_cases hc : c < L
        · rw [c3 c g1 hc]; simp
        · rw [e3 L b1 (by omega)]; simp
      · rw [if_neg hlL]
        simp only [Bool.or_eq_true, decide_eq_true_eq] at g3
        rcases g3 with g | g
        · rw [e4 m g1 g2 g g4, c4 m g1 g2 g]; simp
        · rw [g, c2, Int.mul_one, Int.sub_self]; simp
  · rw [if_neg h]; exact hE
theorem cd_succ {ℓ : Int → Bool} {w : Int} (hw : 0 ≤ w) : cd ℓ (w + 1) = cd ℓ w + if ℓ w = true then 1 else 0 := sR_succ hw
theorem cd_b {ℓ : Int → Bool} {w : Int} (hw : 0 ≤ w) : 0 ≤ cd ℓ w ∧ cd ℓ w ≤ w := by
  refine up_ind (P := fun w => 0 ≤ cd ℓ w ∧ cd ℓ w ≤ w) ?_ ?_ w hw
  · unfold cd; rw [sR_nil (by omega)]; omega
  · intro k hk ih
    rw [cd_succ hk]
    split <;> omega
theorem cd_mono {ℓ : Int → Bool} {a b : Int} (h0 : 0 ≤ a) (h : a ≤ b) : cd ℓ a ≤ cd ℓ b := by
  refine up_ind (P := fun b => cd ℓ a ≤ cd ℓ b) (Int.le_refl _) ?_ b h
  intro k hk ih
  rw [cd_succ (by omega)]
  split <;> omega
theorem cd_lt {ℓ : Int → Bool} {l w : Int} (h0 : 0 ≤ l) (h1 : l < w) (hl : ℓ l = true) : cd ℓ l < cd ℓ w := by
  have h2 := cd_mono (ℓ := ℓ) (a := l + 1) (b := w) (by omega) (by omega)
  rw [cd_succ h0, if_pos hl] at h2
  omega
theorem cd_cg {ℓ ℓ' : Int → Bool} {w : Int} (h : ∀ l, 0 ≤ l → l < w → ℓ l = ℓ' l) : cd ℓ w = cd ℓ' w := by
  apply sR_congr
  intro k h1 h2
  rw [h k h1 h2]
theorem cd_add {ℓ : Int → Bool} {w L : Int} (h0 : 0 ≤ L) (hL : ℓ L = false) : cd (fun l => ℓ l || decide (l = L)) w = cd ℓ w + if L < w then 1 else 0 := by
  by_cases hw : 0 ≤ w
  · refine up_ind (P := fun w => cd (fun l => ℓ l || decide (l = L)) w = cd ℓ w + if L < w then 1 else 0) ?_ ?_ w hw
    · unfold cd; rw [sR_nil (by omega), sR_nil (by omega), if_neg (by omega)]; rfl
    · intro k hk ih
      rw [cd_succ hk, cd_succ hk, ih]
      by_cases hkL : k = L
      · subst hkL
        simp [hL]
        omega
      · have e1 : (ℓ k || decide (k = L)) = ℓ k := by simp [hkL]
        rw [e1]
        by_cases g : L < k
        · rw [if_pos g, if_pos (show L < k + 1 by omega)]
          generalize (if ℓ k = true then (1 : Int) else 0) = z
          omega
        · rw [if_neg g, if_neg (show ¬ L < k + 1 by omega)]
          generalize (if ℓ k = true then (1 : Int) else 0) = z
          omega
  · unfold cd
    rw [sR_nil (by omega), sR_nil (by omega), if_neg (by omega)]; rfl
/-- how many there are behind a VECTOR that came -/
theorem cd_ins {p w : Int} {E : ES} {v : Int → Int} (hw : 0 ≤ w) (hE : EW p w E) : cd (ins p w E v).1 w = cd E.1 w + if ild p w E v < w then 1 else 0 := by
  unfold ins
  by_cases h : ild p w E v < w
  · rw [if_pos h]
    obtain ⟨b1, b2, b3, b4⟩ := ild_s hw hE h
    exact cd_add b1 b2
  · rw [if_neg h, if_neg h]; omega
