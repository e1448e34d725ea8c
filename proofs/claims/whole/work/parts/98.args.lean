/-! ===== SCRIPTS: what stands behind a STEP's WORD, told purely; the class reads it ===== -/
/-- a sign that compares, as the class holds it -/
def cmS (c : Int) : Int := if c = 60 then -1 else if c = 62 then 1 else 0
def isC (f : Int → Int) (N e : Int) : Prop := isS f N e 60 ∨ isS f N e 62 ∨ isS f N e 61
noncomputable def ag1 (f : Int → Int) (N w : Int) (s : PS) : PS := if w = 1 then cns f N 0 4 s else if w = 2 then cns f N 0 4 s else if w = 3 then cns f N 0 6 s else if w = 8 then cns f N 1 99 s else cns f N 0 3 s
noncomputable def av1 (f : Int → Int) (N w : Int) (s : PS) : Int := if w = 1 then cnv f N 0 4 s else if w = 2 then cnv f N 0 4 s else if w = 3 then cnv f N 0 6 s else if w = 8 then cnv f N 1 99 s else cnv f N 0 3 s
/-- the WORD k, if the step wants it -/
noncomputable def agw (f : Int → Int) (N : Int) (k : Nat) (s : PS) : PS := mst f N (zb (isU f N s.2.2 (strI k))) s
def c2u (C : Int → Int → Int) (l k v : Int) : Int → Int → Int := fun a b => if a = l ∧ b = k then v else C a b
def CR (σ : SG) (C : Int → Int → Int) : Prop := ∀ l k, 0 ≤ l → l < 60 → 0 ≤ k → k < 6 → σ 29 (6 * l + k) = C l k
theorem CR.fr {σ σ' : SG} {C : Int → Int → Int} (h : CR σ C) (h1 : ∀ k, σ' 29 k = σ 29 k) : CR σ' C := fun l k l0 l1 k0 k1 => (h1 _).trans (h l k l0 l1 k0 k1)
section SCA
variable {d : Nat} {σ : SG} {Q : Int → SG → Prop} {f : Int → Int} {N l : Int} {C : Int → Int → Int} {s : PS}
theorem offST {t t2 : SG} (hO : Off (fun b j => (b = 22 ∧ (j = 1 ∨ j = 2 ∨ j = 3 ∨ j = 6 ∨ j = 7 ∨ j = 8)) ∨ b = 29) σ t) (h : Off (fun b j => b = 22 ∧ (j = 1 ∨ j = 6 ∨ j = 7 ∨ j = 8)) t t2) : Off (fun b j => (b = 22 ∧ (j = 1 ∨ j = 2 ∨ j = 3 ∨ j = 6 ∨ j = 7 ∨ j = 8)) ∨ b = 29) σ t2 := Off_trans hO (Off_mono h (fun b j q => by omega))
theorem offSF {t t2 : SG} (hO : Off (fun b j => (b = 22 ∧ (j = 1 ∨ j = 2 ∨ j = 3 ∨ j = 6 ∨ j = 7 ∨ j = 8)) ∨ b = 29) σ t) (h : Off (fun b j => b = 22 ∧ (j = 2 ∨ j = 3)) t t2) : Off (fun b j => (b = 22 ∧ (j = 1 ∨ j = 2 ∨ j = 3 ∨ j = 6 ∨ j = 7 ∨ j = 8)) ∨ b = 29) σ t2 := Off_trans hO (Off_mono h (fun b j q => by omega))
theorem Sc_set_s {k v : Int} (l0 : 0 ≤ l) (l1 : l < 60) (k0 : 0 ≤ k) (k1 : k < 6) (hC : CR σ C) (h : ∀ t, CR t (c2u C l k v) → Off (fun b j => b = 29) σ t → Q 0 t) : Tri (d + 1) M_Sc_set [vA 28, vI l, vI k, vI v] σ Q := by
  refine t_Sc_set (fun _ _ _ => ⟨fun z => by omega, fun _ => ⟨fun z => by omega, fun _ => ⟨fun z => by omega, fun _ => ⟨fun z => by omega, fun _ => ⟨ob_28, ?_⟩⟩⟩⟩⟩)
  rw [w32_id (x := l * 6) (by omega) (by omega), w32_id (x := l * 6 + k) (by omega) (by omega), show l * 6 + k = 6 * l + k by omega]
  refine ⟨wr_of (by omega) kd_29 (by omega) (by omega), fun t e => h t (fun a b a0 a1 b0 b1 => ?_) (by rw [e]; exact Off_up rfl)⟩
  unfold c2u
  by_cases g : a = l ∧ b = k
  · rw [if_pos g, g.1, g.2, e]; exact up_same
  · rw [if_neg g, e, up_ne (by omega)]; exact hC a b a0 a1 b0 b1
theorem Sc_number_s {k lo hi : Int} (g0 : s.1 = 0) (l0 : 0 ≤ l) (l1 : l < 60) (k0 : 0 ≤ k) (k1 : k < 6) (hl : σ 28 2 = l) (hT : TC σ f N s.2.2) (hC : CR σ C)
    (h1 : (cns f N lo hi s).1 = 0 → ∀ t, TC t f N (cns f N lo hi s).2.2 → CR t (c2u C l k (cnv f N lo hi s)) → Off (fun b j => (b = 22 ∧ (j = 1 ∨ j = 2 ∨ j = 3 ∨ j = 6 ∨ j = 7 ∨ j = 8)) ∨ b = 29) σ t → Q 1 t)
    (h0 : 0 < (cns f N lo hi s).1 → ∀ t, FT t (cns f N lo hi s).1 (cns f N lo hi s).2.1 → Off (fun b j => (b = 22 ∧ (j = 1 ∨ j = 2 ∨ j = 3 ∨ j = 6 ∨ j = 7 ∨ j = 8)) ∨ b = 29) σ t → Q 0 t) : Tri (d + 3) M_Sc_number [vA 28, vA 22, vI k, vI lo, vI hi] σ Q := by
  refine t_Sc_number (fun _ _ _ => ⟨ob_22, To_seesNumber_s hT (fun k2 m1 m2 hv => ⟨fun _ => ⟨ob_28, ob_22, ob_28, ?_⟩, fun y => by omega⟩) (fun k2 t hF hO => ⟨fun y => absurd rfl y, fun _ => ?_⟩) (fun k2 m1 t hF hO => ⟨fun y => absurd rfl y, fun _ => ?_⟩)⟩)
  · rw [hl, hv]
    have e1 := cns_go (f := f) (N := N) g0 k2 m1 m2
    have e2 := cnv_go (f := f) (N := N) g0 k2 m1 m2
    rw [e1, e2] at h1
    refine Sc_set_s l0 l1 k0 k1 hC (fun t3 hC3 hO3 => ⟨ob_22, To_next_s (TC.fr hT (funext fun q => hO3 23 q (by omega)) (fun q _ _ _ _ => hO3 22 q (by omega))) (fun t4 hT4 hO4 => h1 rfl t4 hT4 (hC3.fr (fun q => hO4 29 q (by omega))) ?_)⟩)
    exact offST (Off_mono hO3 (fun b j q => by omega)) hO4
  · rw [cns_no g0 k2] at h0
    exact h0 (bk_p (by omega)) t hF (Off_mono hO (fun b j q => by omega))
  · rw [cns_4 g0 k2 m1] at h0
    exact h0 (by show (0 : Int) < 4; omega) t hF (Off_mono hO (fun b j q => by omega))
/-- the signs < > = -/
noncomputable def agc (f : Int → Int) (N : Int) (s : PS) : PS := mst f N (zb (isC f N s.2.2)) s
theorem Sc_readCompares_s (g0 : s.1 = 0) (l0 : 0 ≤ l) (l1 : l < 60) (hl : σ 28 2 = l) (hT : TC σ f N s.2.2) (hC : CR σ C)
    (h1 : (agc f N s).1 = 0 → ∀ t, TC t f N (agc f N s).2.2 → CR t (c2u C l 3 (cmS (f (tS f N s.2.2)))) → Off (fun b j => (b = 22 ∧ (j = 1 ∨ j = 2 ∨ j = 3 ∨ j = 6 ∨ j = 7 ∨ j = 8)) ∨ b = 29) σ t → Q 1 t)
    (h0 : 0 < (agc f N s).1 → ∀ t, FT t (agc f N s).1 (agc f N s).2.1 → Off (fun b j => (b = 22 ∧ (j = 1 ∨ j = 2 ∨ j = 3 ∨ j = 6 ∨ j = 7 ∨ j = 8)) ∨ b = 29) σ t → Q 0 t) : Tri (d + 3) M_Sc_readCompares [vA 28, vA 22] σ Q := by
  have go : ∀ v, isC f N s.2.2 → v = cmS (f (tS f N s.2.2)) → obok 6 28 ∧ obok 6 28 ∧ Tri (d + 2) M_Sc_set [vA 28, vI (σ 28 2), vI 3, vI v] σ (fun r8 σ8 => obok 8 22 ∧ Tri (d + 2) M_To_advance [vA 22] σ8 (fun r9 σ9 => Q 1 σ9)) := fun v hc hv => by
    have e1 : agc f N s = adv f N s := mst_go g0 (zb_t hc)
    rw [e1] at h1
    rw [hl]
    refine ⟨ob_28, ob_28, Sc_set_s l0 l1 (by omega) (by omega) hC (fun t3 hC3 hO3 => ⟨ob_22, To_next_s (TC.fr hT (funext fun q => hO3 23 q (by omega)) (fun q _ _ _ _ => hO3 22 q (by omega))) (fun t4 hT4 hO4 => h1 rfl t4 hT4 (by rw [← hv]; exact hC3.fr (fun q => hO4 29 q (by omega))) (offST (Off_mono hO3 (fun b j q => by omega)) hO4))⟩)⟩
  refine t_Sc_readCompares ⟨ob_22, To_isSign_s hT (fun y => ⟨fun z => by omega, fun _ => go _ (Or.inl y) (by unfold cmS; rw [if_pos y.2])⟩) (fun y => ⟨fun _ => ⟨ob_22, To_isSign_s hT (fun y2 => ⟨fun z => by omega, fun _ => go _ (Or.inr (Or.inl y2)) (by unfold cmS; rw [if_neg (by have := y2.2; omega), if_pos y2.2])⟩) (fun y2 => ⟨fun _ => ⟨ob_22, To_isSign_s hT (fun y3 => ⟨fun z => by omega, fun _ => go _ (Or.inr (Or.inr y3)) (by unfold cmS; rw [if_neg (by have := y3.2; omega), if_neg (by have := y3.2; omega)])⟩) (fun y3 => ⟨fun _ => ⟨ob_22, To_blame_s hT (fun t q2 q3 _ hO => ⟨Or.inl rfl, ?_⟩)⟩, fun z => absurd rfl z⟩)⟩, fun z => absurd rfl z⟩)⟩, fun z => absurd rfl z⟩)⟩
  have e1 : agc f N s = (bk f N s.2.2 2, tS f N s.2.2, s.2.2) := mst_no g0 (zb_f (fun w => by rcases w with w | w | w; exact y w; exact y2 w; exact y3 w))
  rw [e1] at h0
  exact h0 (bk_p (by omega)) t ⟨q2, q3⟩ (Off_mono hO (fun b j q => by omega))
/-- a word taken, in the same form -/
theorem To_word_s {k : Nat} (hk : k < 11) (g0 : s.1 = 0) (hT : TC σ f N s.2.2)
    (h1 : (agw f N k s).1 = 0 → ∀ t, TC t f N (agw f N k s).2.2 → Off (fun b j => b = 22 ∧ (j = 1 ∨ j = 6 ∨ j = 7 ∨ j = 8)) σ t → Q 1 t)
    (h0 : 0 < (agw f N k s).1 → ∀ t, FT t (agw f N k s).1 (agw f N k s).2.1 → Off (fun b j => b = 22 ∧ (j = 2 ∨ j = 3)) σ t → Q 0 t) : Tri (d + 5) M_To_takeWord [vA 22, vA (-10 - (k : Int))] σ Q := by
  refine To_takeWord_s hk hT (fun w t hT2 hO => ?_) (fun w t hF hO => ?_)
  · have e : agw f N k s = adv f N s := mst_go g0 (zb_t w)
    rw [e] at h1
    exact h1 rfl t hT2 hO
  · have e : agw f N k s = (bk f N s.2.2 2, tS f N s.2.2, s.2.2) := mst_no g0 (zb_f w)
    rw [e] at h0
    exact h0 (bk_p (by omega)) t hF hO
end SCA
