/-! ===== SPANS: what comes, what is the same ===== -/
theorem dvd_small {p x : Int} (h0 : 0 ≤ x) (h1 : x < p) (h : p ∣ x) : x = 0 := by
  have := Int.emod_eq_zero_of_dvd h
  rwa [Int.emod_eq_of_lt h0 h1] at this
theorem cmb_ins {p w : Int} {E : ES} {v a : Int → Int} {c : Int} (hw : 0 ≤ w) (hE : EW p w E) (h : ild p w E v < w) : p ∣ cmb (ins p w E v) w a c - (cmb E w a c + (a (ild p w E v) - cmb E w a (ild p w E v)) * irow p w E v c) := by
  obtain ⟨b1, b2, b3, b4⟩ := ild_s hw hE h
  rw [ins_yes h]
  generalize ild p w E v = L at *
  generalize irow p w E v = u
  have e : cmb (fun l => E.1 l || decide (l = L), fun l c => if l = L then u c else (E.2 l c - E.2 l L * u c) % p) w a c
      = sR (fun l => (if E.1 l = true then a l * ((E.2 l c - E.2 l L * u c) % p) else 0) + (if l = L then a L * u c else 0)) 0 w := by
    unfold cmb
    apply sR_congr
    intro k g0 g1
    by_cases hk : k = L
    · subst hk; simp [b2]
    · simp [hk]
  rw [e, sR_add, sR_one (f := fun l => if l = L then a L * u c else 0) (l := L) b1 h (fun k _ _ g => by rw [if_neg g]), if_pos rfl]
  have h2 : p ∣ sR (fun l => if E.1 l = true then a l * ((E.2 l c - E.2 l L * u c) % p) else 0) 0 w - (cmb E w a c - cmb E w a L * u c) := by
    have e3 : cmb E w a c - cmb E w a L * u c = sR (fun l => if E.1 l = true then a l * (E.2 l c - E.2 l L * u c) else 0) 0 w := by
      unfold cmb
      rw [Int.mul_comm _ (u c), ← sR_mul, ← sR_sub]
      apply sR_congr; intro k _ _; split <;> grind
    rw [e3, ← sR_sub]
    apply sR_dvd
    intro k _ _
    split
    · obtain ⟨q, hq⟩ := emod_ex (E.2 k c - E.2 k L * u c) p
      exact ⟨a k * q, by rw [hq]; grind⟩
    · simp
  obtain ⟨q, hq⟩ := h2
  exact ⟨q, by grind⟩
theorem irow_mg {p w : Int} {E : ES} {v : Int → Int} (hp : PR p) (hw : 0 ≤ w) (hE : EW p w E) (h : ild p w E v < w) : ∃ s, Mg p w (irow p w E v) (fun c => s * rd p w E v c) ∧ Mg p w (rd p w E v) (fun c => rd p w E v (ild p w E v) * irow p w E v c) := by
  obtain ⟨b1, b2, b3, b4⟩ := ild_s hw hE h
  have hp2 : 2 ≤ p := by unfold PR at hp; omega
  have hr := rd_in (p := p) (w := w) (E := E) (v := v) (c := ild p w E v) (by omega)
  obtain ⟨i1, i2, i3⟩ := iv_s hp (show 1 ≤ rd p w E v (ild p w E v) by omega) hr.2
  refine ⟨iv p (rd p w E v (ild p w E v)), fun c h0 h1 => ?_, fun c h0 h1 => ?_⟩
  · unfold irow
    obtain ⟨q, hq⟩ := emod_ex (rd p w E v c * iv p (rd p w E v (ild p w E v))) p
    exact ⟨q, by rw [hq]; grind⟩
  · unfold irow
    obtain ⟨q, hq⟩ := emod_ex (rd p w E v c * iv p (rd p w E v (ild p w E v))) p
    obtain ⟨q2, hq2⟩ := emod_ex (rd p w E v (ild p w E v) * iv p (rd p w E v (ild p w E v))) p
    show p ∣ rd p w E v c - rd p w E v (ild p w E v) * (rd p w E v c * iv p (rd p w E v (ild p w E v)) % p)
    rw [hq]
    rw [i3] at hq2
    exact ⟨rd p w E v c * q2 - rd p w E v (ild p w E v) * q, by grind⟩
/-- what the SPAN holds behind v's coming -/
theorem In_ins {p w : Int} {E : ES} {v u : Int → Int} (hp : PR p) (hw : 0 ≤ w) (hE : EW p w E) : In p w (ins p w E v) u ↔ ∃ t, In p w E (fun c => u c - t * v c) := by
  by_cases h : ild p w E v < w
  · obtain ⟨b1, b2, b3, b4⟩ := ild_s hw hE h
    obtain ⟨s, m1, m2⟩ := irow_mg hp hw hE h
    constructor
    · intro hu
      -- u is what its parts make of E's rows, and so much of the new row
      refine ⟨(u (ild p w E v) - cmb E w u (ild p w E v)) * s, ?_⟩
      have h3 := ((In_cmb (a := u) hE).lin (In_rdv (v := v) hE) 1 (-((u (ild p w E v) - cmb E w u (ild p w E v)) * s)))
      refine h3.cg (fun c h0 h1 => ?_)
      obtain ⟨q1, e1⟩ := hu c h0 h1
      change u c - cmb (ins p w E v) w u c = _ at e1
      obtain ⟨q2, e2⟩ := cmb_ins (a := u) (c := c) hw hE h
      obtain ⟨q3, e3⟩ := m1 c h0 h1
      exact ⟨-q1 - q2 - (u (ild p w E v) - cmb E w u (ild p w E v)) * q3, by grind⟩
    · rintro ⟨t, ht⟩ c h0 h1
      show p ∣ u c - cmb (ins p w E v) w u c
      obtain ⟨q2, e2⟩ := cmb_ins (a := u) (c := c) hw hE h
      obtain ⟨q4, e4⟩ := ht c h0 h1
      change (u c - t * v c) - cmb E w (fun c => u c - t * v c) c = _ at e4
      rw [cmb_sub (a := u) (b := fun c => t * v c), cmb_mul] at e4
      obtain ⟨q5, e5⟩ := ht _ b1 h
      change (u _ - t * v _) - cmb E w (fun c => u c - t * v c) _ = _ at e5
      rw [cmb_sub (a := u) (b := fun c => t * v c), cmb_mul] at e5
      obtain ⟨q6, e6⟩ := rd_mg (p := p) (E := E) (v := v) c h0 h1
      obtain ⟨q7, e7⟩ := rd_mg (p := p) (E := E) (v := v) _ b1 h
      obtain ⟨q8, e8⟩ := m2 c h0 h1
      change rd p w E v c - (v c - cmb E w v c) = _ at e6
      change rd p w E v (ild p w E v) - (v (ild p w E v) - cmb E w v (ild p w E v)) = _ at e7
      change rd p w E v c - rd p w E v (ild p w E v) * irow p w E v c = _ at e8
      refine ⟨q4 - q2 - t * q6 + t * q8 + t * q7 * irow p w E v c - q5 * irow p w E v c, ?_⟩
      clear m1 m2 ht hE b1 b2 b3 b4
      generalize ild p w E v = L at *
      generalize cmb (ins p w E v) w u c = C' at *
      generalize irow p w E v c = R at *
      generalize rd p w E v c = r at *
      generalize rd p w E v L = rL at *
      generalize cmb E w u c = cu at *
      generalize cmb E w u L = cuL at *
      generalize cmb E w v c = cv at *
      generalize cmb E w v L = cvL at *
      generalize u c = uc at *
      generalize u L = uL at *
      generalize v c = vc at *
      generalize v L = vL at *
      have z1 : uc - cu = t * (vc - cv) + p * q4 := by grind
      have z2 : vc - cv = r - p * q6 := by grind
      have z3 : uL - cuL = t * (vL - cvL) + p * q5 := by grind
      have z4 : vL - cvL = rL - p * q7 := by grind
      have z5 : C' = cu + (uL - cuL) * R + p * q2 := by grind
      rw [z5, z3, z4]
      rw [z2] at z1
      have z6 : r = rL * R + p * q8 := by omega
      have z7 : uc = cu + (t * ((rL * R + p * q8) - p * q6) + p * q4) := by rw [z6] at z1; omega
      rw [z7]
      clear z1 z2 z3 z4 z5 z6 z7 e2 e4 e5 e6 e7 e8
      grind
  · have hv : In p w E v := (In_ild hw).mpr (by have := (ldw_s hw (rd p w E v)).2.1; unfold ild at *; omega)
    rw [ins_no h]
    constructor
    · intro hu; exact ⟨0, hu.cg (fun c _ _ => by rw [show u c - (u c - 0 * v c) = 0 by omega]; exact Int.dvd_zero p)⟩
    · rintro ⟨t, ht⟩
      exact (ht.lin hv 1 t).cg (fun c _ _ => by rw [show 1 * (u c - t * v c) + t * v c - u c = 0 by omega]; exact Int.dvd_zero p)
theorem In_ins_of {p w : Int} {E : ES} {v u : Int → Int} (hp : PR p) (hw : 0 ≤ w) (hE : EW p w E) (h : In p w E u) : In p w (ins p w E v) u :=
  (In_ins hp hw hE).mpr ⟨0, h.cg (fun c _ _ => by rw [show u c - (u c - 0 * v c) = 0 by omega]; exact Int.dvd_zero p)⟩
theorem In_ins_v {p w : Int} {E : ES} {v : Int → Int} (hp : PR p) (hw : 0 ≤ w) (hE : EW p w E) : In p w (ins p w E v) v :=
  (In_ins hp hw hE).mpr ⟨1, In_zero (fun c _ _ => by rw [show v c - 1 * v c = 0 by omega]; exact Int.dvd_zero p)⟩
theorem In_E0 {p w : Int} {u : Int → Int} : In p w E0 u ↔ ∀ c, 0 ≤ c → c < w → p ∣ u c := by
  have e : ∀ c, cmb E0 w u c = 0 := fun c => sR_zero' (fun k _ _ => rfl)
  constructor
  · intro h c h0 h1
    have := h c h0 h1
    change p ∣ u c - cmb E0 w u c at this
    rwa [e, Int.sub_zero] at this
  · intro h; exact In_zero h
theorem In_EU {p w : Int} {u : Int → Int} : In p w EU u := by
  intro c h0 h1
  rw [sR_one (l := c) h0 h1 (fun k _ _ g => by show (if true = true then u k * (if k = c then 1 else 0) else 0) = 0; rw [if_neg g]; simp)]
  show p ∣ u c - (if true = true then u c * (if c = c then 1 else 0) else 0)
  simp
/-- where a VECTOR that is held begins, there a row leads -/
theorem In_lead {p w : Int} {E : ES} {u : Int → Int} {l : Int} (hE : EW p w E) (h : In p w E u) (h0 : 0 ≤ l) (h1 : l < w) (hz : ∀ c, 0 ≤ c → c < l → p ∣ u c) (hl : ¬ p ∣ u l) : E.1 l = true := by
  cases hb : E.1 l with
  | true => rfl
  | false =>
    exfalso
    apply hl
    have h2 := h l h0 h1
    have h3 : p ∣ sR (fun k => if E.1 k = true then u k * E.2 k l else 0) 0 w := by
      apply sR_dvd
      intro k g0 g1
      by_cases hk : E.1 k = true
      · rw [if_pos hk]
        by_cases hkl : k < l
        · exact Int.dvd_mul_of_dvd_left (hz k g0 hkl)
        · have : k ≠ l := fun e => by rw [e, hb] at hk; cases hk
          rw [(hE k g0 g1 hk).2.2.1 l h0 (by omega)]; simp
      · rw [if_neg hk]; exact Int.dvd_zero p
    have := Int.dvd_add h2 h3
    rwa [Int.sub_add_cancel] at this
/-- a smaller SPAN leads where the larger one does -/
theorem In_leads {p w : Int} {E E' : ES} {l : Int} (hp : 2 ≤ p) (hE : EW p w E) (hE' : EW p w E') (hs : ∀ u, In p w E u → In p w E' u) (h0 : 0 ≤ l) (h1 : l < w) (hl : E.1 l = true) : E'.1 l = true := by
  refine In_lead hE' (hs _ (In_row hE h0 h1 hl)) h0 h1 (fun c g0 g1 => ?_) ?_
  · rw [(hE l h0 h1 hl).2.2.1 c g0 g1]; exact Int.dvd_zero p
  · rw [(hE l h0 h1 hl).2.1]
    intro h
    have := dvd_small (by omega) (by omega) h
    omega
theorem sR_le {f g : Int → Int} {lo hi : Int} (h : ∀ k, lo ≤ k → k < hi → f k ≤ g k) : sR f lo hi ≤ sR g lo hi := by
  by_cases hh : lo ≤ hi
  · refine up_ind (P := fun m => m ≤ hi → sR f lo m ≤ sR g lo m) ?_ ?_ hi hh (Int.le_refl _)
    · intro _; rw [sR_nil (by omega), sR_nil (by omega)]; omega
    · intro k hk ih h3
      rw [sR_succ hk, sR_succ hk]
      have := h k hk (by omega)
      have := ih (by omega)
      omega
  · rw [sR_nil (by omega), sR_nil (by omega)]; omega
theorem cd_le {ℓ ℓ' : Int → Bool} {w : Int} (h : ∀ l, 0 ≤ l → l < w → ℓ l = true → ℓ' l = true) : cd ℓ w ≤ cd ℓ' w := by
  apply sR_le
  intro k h0 h1
  by_cases hk : ℓ k = true
  · rw [if_pos hk, if_pos (h k h0 h1 hk)]; omega
  · rw [if_neg hk]; split <;> omega
/-- as many, and all of them: the same -/
theorem cd_all {ℓ ℓ' : Int → Bool} {w : Int} (h : ∀ l, 0 ≤ l → l < w → ℓ l = true → ℓ' l = true) (he : cd ℓ' w ≤ cd ℓ w) : ∀ l, 0 ≤ l → l < w → ℓ l = ℓ' l := by
  intro l h0 h1
  cases hb : ℓ l with
  | true => exact (h l h0 h1 hb).symm
  | false =>
    cases hb' : ℓ' l with
    | false => rfl
    | true =>
      exfalso
      have e1 := sR_split (f := fun l => if ℓ l = true then (1 : Int) else 0) (lo := 0) (mid := l) (hi := w) h0 (by omega)
      have e2 := sR_split (f := fun l => if ℓ' l = true then (1 : Int) else 0) (lo := 0) (mid := l) (hi := w) h0 (by omega)
      have e3 := sR_split (f := fun l => if ℓ l = true then (1 : Int) else 0) (lo := l) (mid := l + 1) (hi := w) (by omega) (by omega)
      have e4 := sR_split (f := fun l => if ℓ' l = true then (1 : Int) else 0) (lo := l) (mid := l + 1) (hi := w) (by omega) (by omega)
      have a1 : sR (fun l => if ℓ l = true then (1 : Int) else 0) 0 l ≤ sR (fun l => if ℓ' l = true then (1 : Int) else 0) 0 l := cd_le (fun m g0 g1 g2 => h m g0 (by omega) g2)
      have a2 : sR (fun l => if ℓ l = true then (1 : Int) else 0) (l + 1) w ≤ sR (fun l => if ℓ' l = true then (1 : Int) else 0) (l + 1) w := sR_le (fun k g0 g1 => by
        by_cases hk : ℓ k = true
        · rw [if_pos hk, if_pos (h k (by omega) g1 hk)]; omega
        · rw [if_neg hk]; split <;> omega)
      rw [sR_succ (by omega), sR_nil (lo := l) (hi := l) (by omega), hb] at e3
      rw [sR_succ (by omega), sR_nil (lo := l) (hi := l) (by omega), hb'] at e4
      simp only [if_true, Bool.false_eq_true, if_false] at e3 e4
      unfold cd at he
      omega
/-- two SPANS that hold the same are the same -/
theorem ES_uniq {p w : Int} {E E' : ES} (hp : 2 ≤ p) (hE : EW p w E) (hE' : EW p w E') (h : ∀ u, In p w E u ↔ In p w E' u) : ESm w E E' := by
  have hl : ∀ l, 0 ≤ l → l < w → E.1 l = E'.1 l := fun l h0 h1 => by
    have a1 := In_leads hp hE hE' (fun u => (h u).mp) h0 h1
    have a2 := In_leads hp hE' hE (fun u => (h u).mpr) h0 h1
    cases hb : E.1 l <;> cases hb' : E'.1 l <;> simp_all
  refine ⟨hl, fun l c h0 h1 hl1 h2 h3 => ?_⟩
  have hl2 : E'.1 l = true := by rw [← hl l h0 h1]; exact hl1
  obtain ⟨a1, a2, a3, a4⟩ := hE l h0 h1 hl1
  obtain ⟨b1, b2, b3, b4⟩ := hE' l h0 h1 hl2
  -- the row of E is held by E', and its parts at the leads are those of E' row
  have hin : In p w E' (E.2 l) := (h _).mp (In_row hE h0 h1 hl1)
  have h5 := hin c h2 h3
  rw [sR_one (l := l) h0 h1 (fun k q0 q1 q2 => by
    by_cases hk : E'.1 k = true
    · rw [if_pos hk, a4 k q0 q1 (by rw [hl k q0 q1]; exact hk) q2]; simp
    · rw [if_neg hk]), if_pos hl2, a2, Int.one_mul] at h5
  have c1 := a1 c h2 h3
  have c2 := b1 c h2 h3
  obtain ⟨q, hq⟩ := h5
  have : q = 0 := by
    rcases Int.lt_trichotomy q 0 with g | g | g
    · have : p * q ≤ p * (-1) := Int.mul_le_mul_of_nonneg_left (by omega) (by omega)
      omega
    · exact g
    · have : p * 1 ≤ p * q := Int.mul_le_mul_of_nonneg_left (by omega) (by omega)
      omega
  rw [this] at hq
  omega
/-- a SPAN within another one, as large: the same -/
theorem ES_full {p w : Int} {E E' : ES} (hp : 2 ≤ p) (hE : EW p w E) (hE' : EW p w E') (hs : ∀ u, In p w E u → In p w E' u) (hc : cd E'.1 w ≤ cd E.1 w) : ESm w E E' := by
  have hl := cd_all (ℓ := E.1) (ℓ' := E'.1) (fun l h0 h1 => In_leads hp hE hE' hs h0 h1) hc
  refine ES_uniq hp hE hE' (fun u => ⟨hs u, fun hu => ?_⟩)
  -- u less what E makes of its parts begins nowhere
  have h1 : In p w E' (fun c => u c - cmb E w u c) := by
    refine (hu.lin (hs _ (In_cmb (a := u) hE)) 1 (-1)).cg (fun c _ _ => ?_)
    rw [show 1 * u c + -1 * cmb E w u c - (u c - cmb E w u c) = 0 by omega]; exact Int.dvd_zero p
  have hz : ∀ l, 0 ≤ l → l < w → E.1 l = true → p ∣ u l - cmb E w u l := fun l h0 h1 hl => by
    have e : cmb E w u l = u l := by
      unfold cmb
      rw [sR_one (l := l) h0 h1 (fun k q0 q1 q2 => by
        by_cases hk : E.1 k = true
        · rw [if_pos hk, (hE k q0 q1 hk).2.2.2 l h0 h1 hl (Ne.symm q2)]; simp
        · rw [if_neg hk]), if_pos hl, (hE l h0 h1 hl).2.1, Int.mul_one]
    rw [e, Int.sub_self]; exact Int.dvd_zero p
  intro c h0 h1c
  show p ∣ u c - cmb E w u c
  have h2 := h1 c h0 h1c
  have h3 : p ∣ sR (fun k => if E'.1 k = true then (u k - cmb E w u k) * E'.2 k c else 0) 0 w := by
    apply sR_dvd
    intro k g0 g1
    by_cases hk : E'.1 k = true
    · rw [if_pos hk]; exact Int.dvd_mul_of_dvd_left (hz k g0 g1 (by rw [hl k g0 g1]; exact hk))
    · rw [if_neg hk]; exact Int.dvd_zero p
  have := Int.dvd_add h2 h3
  rwa [Int.sub_add_cancel] at this
