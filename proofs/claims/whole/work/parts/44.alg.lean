/-! ===== loops as folds; SPANS by what they hold ===== -/
def lpN {S : Type} (f : Int → S → S) (lo : Int) : Nat → S → S
  | 0, s => s
  | k + 1, s => f (lo + k) (lpN f lo k s)
def lp {S : Type} (f : Int → S → S) (lo hi : Int) (s : S) : S := lpN f lo (hi - lo).toNat s
theorem lp_nil {S : Type} {f : Int → S → S} {lo hi : Int} {s : S} (h : hi ≤ lo) : lp f lo hi s = s := by
  unfold lp; rw [show (hi - lo).toNat = 0 by omega]; rfl
theorem lp_succ {S : Type} {f : Int → S → S} {lo k : Int} {s : S} (h : lo ≤ k) : lp f lo (k + 1) s = f k (lp f lo k s) := by
  unfold lp
  rw [show (k + 1 - lo).toNat = (k - lo).toNat + 1 by omega]
  show f (lo + ((k - lo).toNat : Int)) _ = _
  rw [show lo + ((k - lo).toNat : Int) = k by omega]
/-- what every step keeps -/
theorem lp_ind {S : Type} {f : Int → S → S} {lo : Int} {s : S} {P : Int → S → Prop} (h0 : P lo s) {hi : Int} (hs : ∀ k t, lo ≤ k → k < hi → P k t → P (k + 1) (f k t)) (h : lo ≤ hi) : P hi (lp f lo hi s) := by
  have key : ∀ m, lo ≤ m → m ≤ hi → P m (lp f lo m s) := by
    refine up_ind (P := fun m => m ≤ hi → P m (lp f lo m s)) ?_ ?_
    · intro _; rw [lp_nil (by omega)]; exact h0
    · intro k hk ih h2
      rw [lp_succ hk]
      exact hs k _ hk (by omega) (ih (by omega))
  exact key hi h (Int.le_refl _)
/-- two loops that keep step -/
theorem lp_rel {S S' : Type} {f : Int → S → S} {g : Int → S' → S'} {lo hi : Int} {s : S} {s' : S'} {R : S → S' → Prop} (h0 : R s s') (hs : ∀ k t t', lo ≤ k → k < hi → R t t' → R (f k t) (g k t')) : R (lp f lo hi s) (lp g lo hi s') := by
  by_cases h : lo ≤ hi
  · have key : ∀ m, lo ≤ m → m ≤ hi → R (lp f lo m s) (lp g lo m s') := by
      refine up_ind (P := fun m => m ≤ hi → R (lp f lo m s) (lp g lo m s')) ?_ ?_
      · intro _; rw [lp_nil (by omega), lp_nil (by omega)]; exact h0
      · intro k hk ih h2
        rw [lp_succ hk, lp_succ hk]
        exact hs k _ _ hk (by omega) (ih (by omega))
    exact key hi h (Int.le_refl _)
  · rw [lp_nil (by omega), lp_nil (by omega)]; exact h0
theorem lp_cg {S : Type} {f g : Int → S → S} {lo hi : Int} {s : S} (h : ∀ k t, lo ≤ k → k < hi → f k t = g k t) : lp f lo hi s = lp g lo hi s :=
  lp_rel (R := fun a b => a = b) rfl (fun k t t' h1 h2 e => by rw [e]; exact h k t' h1 h2)
/-- a loop over the chosen ones alone -/
theorem lp_sel {S : Type} {f : Int → S → S} {ℓ : Int → Bool} {w : Int} {s : S} (hw : 0 ≤ w) : lp f 0 (cd ℓ w) s = lp (fun l t => if ℓ l = true then f (cd ℓ l) t else t) 0 w s := by
  refine up_ind (P := fun w => lp f 0 (cd ℓ w) s = lp (fun l t => if ℓ l = true then f (cd ℓ l) t else t) 0 w s) ?_ ?_ w hw
  · unfold cd; rw [sR_nil (by omega), lp_nil (by omega), lp_nil (by omega)]
  · intro k hk ih
    rw [cd_succ hk, lp_succ (lo := 0) hk]
    by_cases h : ℓ k = true
    · rw [if_pos h, if_pos h, lp_succ (cd_b hk).1, ih]
    · rw [if_neg h, if_neg h, Int.add_zero, ih]
/-! the same SPAN -/
def ESm (w : Int) (E E' : ES) : Prop := (∀ l, 0 ≤ l → l < w → E.1 l = E'.1 l) ∧ ∀ l c, 0 ≤ l → l < w → E.1 l = true → 0 ≤ c → c < w → E.2 l c = E'.2 l c
theorem ESm.rfl' {w : Int} {E : ES} : ESm w E E := ⟨fun _ _ _ => rfl, fun _ _ _ _ _ _ _ => rfl⟩
theorem ESm.symm {w : Int} {E E' : ES} (h : ESm w E E') : ESm w E' E := ⟨fun l h0 h1 => (h.1 l h0 h1).symm, fun l c h0 h1 hl h2 h3 => (h.2 l c h0 h1 (by rw [h.1 l h0 h1]; exact hl) h2 h3).symm⟩
theorem ESm.trans {w : Int} {E E' E'' : ES} (h : ESm w E E') (h' : ESm w E' E'') : ESm w E E'' := ⟨fun l h0 h1 => (h.1 l h0 h1).trans (h'.1 l h0 h1), fun l c h0 h1 hl h2 h3 => (h.2 l c h0 h1 hl h2 h3).trans (h'.2 l c h0 h1 (by rw [← h.1 l h0 h1]; exact hl) h2 h3)⟩
theorem ESm.cdw {w : Int} {E E' : ES} (h : ESm w E E') : cd E.1 w = cd E'.1 w := cd_cg h.1
theorem ESm.cdl {w l : Int} {E E' : ES} (h : ESm w E E') (hl : l ≤ w) : cd E.1 l = cd E'.1 l := cd_cg (fun m h0 h1 => h.1 m h0 (by omega))
theorem ESm.ew {p w : Int} {E E' : ES} (h : ESm w E E') (hE : EW p w E) : EW p w E' := by
  intro l h0 h1 hl
  have hl' : E.1 l = true := by rw [h.1 l h0 h1]; exact hl
  obtain ⟨a1, a2, a3, a4⟩ := hE l h0 h1 hl'
  refine ⟨fun c g0 g1 => by rw [← h.2 l c h0 h1 hl' g0 g1]; exact a1 c g0 g1, by rw [← h.2 l l h0 h1 hl' h0 h1]; exact a2, fun c g0 g1 => by rw [← h.2 l c h0 h1 hl' g0 (by omega)]; exact a3 c g0 g1, fun m g0 g1 g2 g3 => ?_⟩
  rw [← h.2 l m h0 h1 hl' g0 g1]
  exact a4 m g0 g1 (by rw [h.1 m g0 g1]; exact g2) g3
theorem ESm.rdv {p w : Int} {E E' : ES} {v v' : Int → Int} {c : Int} (h : ESm w E E') (hv : ∀ c, 0 ≤ c → c < w → v c = v' c) (h0 : 0 ≤ c) (h1 : c < w) : rd p w E v c = rd p w E' v' c := by
  unfold rd
  rw [hv c h0 h1]
  congr 2
  apply sR_congr
  intro l g0 g1
  rw [← h.1 l g0 g1]
  by_cases hl : E.1 l = true
  · rw [if_pos hl, if_pos hl, h.2 l c g0 g1 hl h0 h1, hv l g0 g1]
  · rw [if_neg hl, if_neg hl]
theorem ESm.ildv {p w : Int} {E E' : ES} {v v' : Int → Int} (hw : 0 ≤ w) (h : ESm w E E') (hv : ∀ c, 0 ≤ c → c < w → v c = v' c) : ild p w E v = ild p w E' v' :=
  ldw_cg hw (fun c h0 h1 => h.rdv hv h0 h1)
theorem ESm.insv {p w : Int} {E E' : ES} {v v' : Int → Int} (hw : 0 ≤ w) (h : ESm w E E') (hv : ∀ c, 0 ≤ c → c < w → v c = v' c) : ESm w (ins p w E v) (ins p w E' v') := by
  have e := h.ildv (p := p) hw hv
  by_cases hi : ild p w E v < w
  · have hi0 : 0 ≤ ild p w E v := (ldw_s hw _).1
    have hr : ∀ c, 0 ≤ c → c < w → irow p w E v c = irow p w E' v' c := fun c h0 h1 => by
      unfold irow; rw [h.rdv hv h0 h1, h.rdv hv hi0 hi, e]
    rw [ins_yes hi, ins_yes (by rw [← e]; exact hi)]
    rw [← e]
    refine ⟨fun l h0 h1 => by show (_ || _) = (_ || _); rw [h.1 l h0 h1], fun l c h0 h1 hl h2 h3 => ?_⟩
    show (if _ then _ else _) = (if _ then _ else _)
    by_cases hL : l = ild p w E v
    · rw [if_pos hL, if_pos hL, hr c h2 h3]
    · have hl' : E.1 l = true := by
        have : (E.1 l || decide (l = ild p w E v)) = true := hl
        simpa [hL] using this
      rw [if_neg hL, if_neg hL, hr c h2 h3, h.2 l c h0 h1 hl' h2 h3, h.2 l _ h0 h1 hl' hi0 hi]
  · rw [ins_no hi, ins_no (by rw [← e]; exact hi)]; exact h
theorem EC.to {σ : SG} {e p w : Int} {E E' : ES} (h : EC σ e p w E) (hs : ESm w E E') : EC σ e p w E' := by
  obtain ⟨a1, a2, a3, a4, a5, a6, a7, ⟨a8, a9, a10⟩, a11, a12, a13⟩ := h
  refine ⟨a1, a2, a3, a4, by rw [a5, hs.cdw], a6, a7, ⟨a8, a9, fun l h0 h1 => by rw [a10 l h0 h1, hs.1 l h0 h1]⟩, fun l c h0 h1 hl h2 h3 => ?_, hs.ew a12, a13⟩
  have hl' : E.1 l = true := by rw [hs.1 l h0 h1]; exact hl
  rw [a11 l c h0 h1 hl' h2 h3, hs.2 l c h0 h1 hl' h2 h3]
theorem SP.to {σ : SG} {s many p n : Int} {E E' : ES} (h : SP σ s many p n E) (hs : ESm n E E') : SP σ s many p n E' := by
  obtain ⟨a1, a2, a3⟩ := h
  refine ⟨by rw [a1, hs.cdw], fun l c h0 h1 hl h2 h3 => ?_, hs.ew a3⟩
  have hl' : E.1 l = true := by rw [hs.1 l h0 h1]; exact hl
  rw [← hs.cdl (by omega), a2 l c h0 h1 hl' h2 h3, hs.2 l c h0 h1 hl' h2 h3]
/-! what a SPAN holds -/
def In (p w : Int) (E : ES) (v : Int → Int) : Prop := ∀ c, 0 ≤ c → c < w → p ∣ v c - sR (fun l => if E.1 l = true then v l * E.2 l c else 0) 0 w
theorem sR_dvd {f : Int → Int} {p lo hi : Int} (h : ∀ k, lo ≤ k → k < hi → p ∣ f k) : p ∣ sR f lo hi := by
  by_cases hh : lo ≤ hi
  · have key : ∀ m, lo ≤ m → m ≤ hi → p ∣ sR f lo m := by
      refine up_ind (P := fun m => m ≤ hi → p ∣ sR f lo m) ?_ ?_
      · intro _; rw [sR_nil (by omega)]; exact Int.dvd_zero p
      · intro k hk ih h2
        rw [sR_succ hk]
        exact Int.dvd_add (ih (by omega)) (h k hk (by omega))
    exact key hi hh (Int.le_refl _)
  · rw [sR_nil (by omega)]; exact Int.dvd_zero p
/-- the rows, taken so often -/
def cmb (E : ES) (w : Int) (a : Int → Int) (c : Int) : Int := sR (fun l => if E.1 l = true then a l * E.2 l c else 0) 0 w
theorem cmb_add {E : ES} {w c : Int} {a b : Int → Int} : cmb E w (fun l => a l + b l) c = cmb E w a c + cmb E w b c := by
  unfold cmb; rw [← sR_add]; apply sR_congr; intro k _ _; split <;> grind
theorem cmb_sub {E : ES} {w c : Int} {a b : Int → Int} : cmb E w (fun l => a l - b l) c = cmb E w a c - cmb E w b c := by
  unfold cmb; rw [← sR_sub]; apply sR_congr; intro k _ _; split <;> grind
theorem cmb_mul {E : ES} {w c t : Int} {a : Int → Int} : cmb E w (fun l => t * a l) c = t * cmb E w a c := by
  unfold cmb; rw [← sR_mul]; apply sR_congr; intro k _ _; split <;> grind
theorem cmb_dvd {E : ES} {w c p : Int} {a : Int → Int} (h : ∀ l, 0 ≤ l → l < w → E.1 l = true → p ∣ a l) : p ∣ cmb E w a c := by
  apply sR_dvd; intro k h0 h1
  by_cases hk : E.1 k = true
  · rw [if_pos hk]; exact Int.dvd_mul_of_dvd_left (h k h0 h1 hk)
  · rw [if_neg hk]; exact Int.dvd_zero p
theorem In_iff {p w : Int} {E : ES} {v : Int → Int} : In p w E v ↔ ∀ c, 0 ≤ c → c < w → p ∣ v c - cmb E w v c := Iff.rfl
theorem In_rd {p w : Int} {E : ES} {v : Int → Int} : In p w E v ↔ ∀ c, 0 ≤ c → c < w → rd p w E v c = 0 := by
  constructor
  · intro h c h0 h1; exact Int.emod_eq_zero_of_dvd (h c h0 h1)
  · intro h c h0 h1; exact Int.dvd_of_emod_eq_zero (h c h0 h1)
theorem In_ild {p w : Int} {E : ES} {v : Int → Int} (hw : 0 ≤ w) : In p w E v ↔ ild p w E v = w := by
  obtain ⟨a1, a2, a3, a4⟩ := ldw_s hw (rd p w E v)
  rw [In_rd]
  constructor
  · intro h
    rcases Int.lt_or_eq_of_le a2 with g | g
    · exact absurd (h _ a1 g) (a4 g)
    · exact g
  · intro h c h0 h1
    exact a3 c h0 (by unfold ild at h; omega)
/-- v and v' the same by p -/
def Mg (p w : Int) (v v' : Int → Int) : Prop := ∀ c, 0 ≤ c → c < w → p ∣ v c - v' c
theorem Mg.rfl' {p w : Int} {v : Int → Int} : Mg p w v v := fun c _ _ => by rw [Int.sub_self]; exact Int.dvd_zero p
theorem Mg.symm {p w : Int} {v v' : Int → Int} (h : Mg p w v v') : Mg p w v' v := fun c h0 h1 => by
  have := Int.dvd_neg.mpr (h c h0 h1); rwa [Int.neg_sub] at this
theorem Mg.trans {p w : Int} {v v' v'' : Int → Int} (h : Mg p w v v') (h' : Mg p w v' v'') : Mg p w v v'' := fun c h0 h1 => by
  have := Int.dvd_add (h c h0 h1) (h' c h0 h1); rwa [show v c - v' c + (v' c - v'' c) = v c - v'' c by omega] at this
theorem In.cg {p w : Int} {E : ES} {v v' : Int → Int} (h : In p w E v) (hm : Mg p w v v') : In p w E v' := by
  intro c h0 h1
  have a1 := h c h0 h1
  have a2 := hm c h0 h1
  have a3 : p ∣ cmb E w (fun l => v l - v' l) c := cmb_dvd (fun l g0 g1 _ => hm l g0 g1)
  rw [cmb_sub] at a3
  obtain ⟨x, hx⟩ := a1
  obtain ⟨y, hy⟩ := a2
  obtain ⟨z, hz⟩ := a3
  change v c - cmb E w v c = _ at hx
  show p ∣ v' c - cmb E w v' c
  exact ⟨x - y + z, by grind⟩
theorem In.lin {p w : Int} {E : ES} {v v' : Int → Int} (h : In p w E v) (h' : In p w E v') (s t : Int) : In p w E (fun c => s * v c + t * v' c) := by
  intro c h0 h1
  obtain ⟨x, hx⟩ := h c h0 h1
  obtain ⟨y, hy⟩ := h' c h0 h1
  change v c - cmb E w v c = _ at hx
  change v' c - cmb E w v' c = _ at hy
  show p ∣ (s * v c + t * v' c) - cmb E w (fun c => s * v c + t * v' c) c
  rw [cmb_add (a := fun c => s * v c) (b := fun c => t * v' c), cmb_mul, cmb_mul]
  exact ⟨s * x + t * y, by grind⟩
theorem In_zero {p w : Int} {E : ES} {v : Int → Int} (h : ∀ c, 0 ≤ c → c < w → p ∣ v c) : In p w E v := by
  intro c h0 h1
  exact Int.dvd_sub (h c h0 h1) (cmb_dvd (fun l g0 g1 _ => h l g0 g1))
theorem In.scl {p w : Int} {E : ES} {v : Int → Int} (h : In p w E v) (s : Int) : In p w E (fun c => s * v c) := by
  refine (h.lin h s 0).cg (fun c _ _ => ?_)
  rw [show s * v c + 0 * v c - s * v c = 0 by grind]; exact Int.dvd_zero p
theorem In.sum {p w : Int} {E : ES} {f : Int → Int → Int} {lo hi : Int} (h : ∀ k, lo ≤ k → k < hi → In p w E (f k)) : In p w E (fun c => sR (fun k => f k c) lo hi) := by
  by_cases hh : lo ≤ hi
  · have key : ∀ m, lo ≤ m → m ≤ hi → In p w E (fun c => sR (fun k => f k c) lo m) := by
      refine up_ind (P := fun m => m ≤ hi → In p w E (fun c => sR (fun k => f k c) lo m)) ?_ ?_
      · intro _; exact In_zero (fun c _ _ => by rw [sR_nil (by omega)]; exact Int.dvd_zero p)
      · intro k hk ih h2
        refine ((ih (by omega)).lin (h k hk (by omega)) 1 1).cg (fun c _ _ => ?_)
        rw [sR_succ hk, show ∀ a b : Int, 1 * a + 1 * b - (a + b) = 0 by intro a b; omega]; exact Int.dvd_zero p
    exact key hi hh (Int.le_refl _)
  · exact In_zero (fun c _ _ => by rw [sR_nil (by omega)]; exact Int.dvd_zero p)
theorem In_row {p w l : Int} {E : ES} (hE : EW p w E) (h0 : 0 ≤ l) (h1 : l < w) (hl : E.1 l = true) : In p w E (E.2 l) := by
  intro c g0 g1
  rw [sR_one (l := l) h0 h1 (fun k q0 q1 q2 => by
    by_cases hk : E.1 k = true
    · rw [if_pos hk, (hE l h0 h1 hl).2.2.2 k q0 q1 hk q2]; simp
    · rw [if_neg hk]), if_pos hl, (hE l h0 h1 hl).2.1, Int.one_mul, Int.sub_self]
  exact Int.dvd_zero p
/-- what the rows make is held -/
theorem In_cmb {p w : Int} {E : ES} {a : Int → Int} (hE : EW p w E) : In p w E (cmb E w a) := by
  refine In.cg (v := fun c => sR (fun l => (fun l c => if E.1 l = true then a l * E.2 l c else 0) l c) 0 w) (In.sum (fun k h0 h1 => ?_)) Mg.rfl'
  by_cases hk : E.1 k = true
  · exact ((In_row hE h0 h1 hk).scl (a k)).cg (fun c _ _ => by rw [if_pos hk, Int.sub_self]; exact Int.dvd_zero p)
  · exact In_zero (fun c _ _ => by rw [if_neg hk]; exact Int.dvd_zero p)
theorem In.back {p w : Int} {E : ES} {v : Int → Int} (h : In p w E v) : Mg p w v (cmb E w v) := h
/-- what is left differs from v by what is held -/
theorem rd_mg {p w : Int} {E : ES} {v : Int → Int} : Mg p w (rd p w E v) (fun c => v c - cmb E w v c) := by
  intro c h0 h1
  obtain ⟨q, hq⟩ := emod_ex (v c - cmb E w v c) p
  exact ⟨q, by show (v c - cmb E w v c) % p - (v c - cmb E w v c) = _; rw [hq]; omega⟩
theorem In_rdv {p w : Int} {E : ES} {v : Int → Int} (hE : EW p w E) : In p w E (fun c => v c - rd p w E v c) := by
  refine (In_cmb (a := v) hE).cg (fun c h0 h1 => ?_)
  obtain ⟨q, hq⟩ := rd_mg (p := p) (E := E) (v := v) c h0 h1
  exact ⟨q, by grind⟩
