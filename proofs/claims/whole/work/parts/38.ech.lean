/-! ===== the class's ECHELON ===== -/
def stl (e : Int) : Int := if e = 69 ∨ e = 107 then 25 else 5
/-- the class's object at e holds E, of width w -/
def EC (σ : SG) (e p w : Int) (E : ES) : Prop := obok 2 e ∧ σ e 0 = stl e ∧ σ e 3 = p ∧ σ e 4 = w ∧ σ e 5 = cd E.1 w ∧ 0 ≤ w ∧ w ≤ stl e ∧ (0 ≤ σ e 6 ∧ σ e 6 < 2 ^ w.toNat ∧ ∀ l, 0 ≤ l → l < w → tb (σ e 6) l = E.1 l) ∧ (∀ l c, 0 ≤ l → l < w → E.1 l = true → 0 ≤ c → c < w → σ (e + 1) (l * stl e + c) = E.2 l c) ∧ EW p w E ∧ PR p
theorem stl_c (e : Int) : stl e = 5 ∨ stl e = 25 := by unfold stl; split <;> omega
theorem ech_k {e : Int} (h : obok 2 e) : 0 ≤ e ∧ e + 2 < 161 ∧ ∃ n m : Nat, kd (e + 1) = (100, n) ∧ kd (e + 2) = (100, m) ∧ (m : Int) = stl e ∧ (n : Int) = stl e * stl e := by
  obtain ⟨h0, h1, h2⟩ := kd_ech h
  refine ⟨h0, h1, ?_⟩
  unfold stl
  rcases h2 with ⟨a, b, c, d⟩ | ⟨a, b, c⟩
  · rw [if_neg (by omega)]; exact ⟨25, 5, a, b, by omega, by omega⟩
  · rw [if_pos c]; exact ⟨625, 25, a, b, by omega, by omega⟩
theorem st_b {e l c w : Int} (hw : w ≤ stl e) (h0 : 0 ≤ l) (h1 : l < w) (h2 : 0 ≤ c) (h3 : c < w) : 0 ≤ l * stl e ∧ l * stl e ≤ 600 ∧ 0 ≤ l * stl e + c ∧ l * stl e + w ≤ stl e * stl e ∧ w ≤ 25 := by
  rcases stl_c e with h | h <;> rw [h] at hw ⊢ <;> omega
theorem st_ne {e l c l' c' w : Int} (hw : w ≤ stl e) (h0 : 0 ≤ l) (h1 : l < w) (h2 : 0 ≤ c) (h3 : c < w) (h0' : 0 ≤ l') (h1' : l' < w) (h2' : 0 ≤ c') (h3' : c' < w) : l * stl e + c = l' * stl e + c' ↔ l = l' ∧ c = c' := by
  rcases stl_c e with h | h <;> rw [h] at hw ⊢ <;> omega
theorem pw2 {w : Int} (h0 : 0 ≤ w) (h : w ≤ 25) : (2 : Int) ^ w.toNat ≤ 33554432 := by
  have := pow_le (p := 2) (k := w.toNat) (n := 25) (by omega) (by omega)
  omega
theorem EC.cg {σ σ' : SG} {e p w : Int} {E : ES} (h : EC σ e p w E) (h0 : ∀ k, σ' e k = σ e k) (h1 : ∀ k, σ' (e + 1) k = σ (e + 1) k) : EC σ' e p w E := by
  obtain ⟨a1, a2, a3, a4, a5, a6, a7, a8, a9, a10⟩ := h
  exact ⟨a1, by rw [h0]; exact a2, by rw [h0]; exact a3, by rw [h0]; exact a4, by rw [h0]; exact a5, a6, a7, by rw [h0]; exact a8, fun l c q1 q2 q3 q4 q5 => by rw [h1]; exact a9 l c q1 q2 q3 q4 q5, a10⟩
def E0 : ES := (fun _ => false, fun _ _ => 0)
theorem EW0 {p w : Int} : EW p w E0 := fun l _ _ h => by cases h
theorem cd0 {w : Int} : cd E0.1 w = 0 := by
  unfold cd
  apply sR_zero'
  intro k _ _
  rfl
section ECH
variable {d : Nat} {σ : SG} {Q : Int → SG → Prop}
theorem Ec_begin_s {e p w : Int} (ho : obok 2 e) (hs : σ e 0 = stl e) (hp : PR p) (hw0 : 0 ≤ w) (hw : w ≤ stl e) (h : ∀ σ', EC σ' e p w E0 → Off (fun b j => b = e ∧ 3 ≤ j ∧ j ≤ 6) σ σ' → Q 0 σ') : Tri (d + 1) M_Ec_begin [vA e, vI p, vI w] σ Q := by
  have hp2 : 2 ≤ p := by unfold PR at hp; omega
  refine t_Ec_begin (fun _ _ => ⟨ho, fun s1 e1 => ⟨ho, ho, fun s2 e2 => ⟨ho, fun s3 e3 => ⟨ho, fun s4 e4 => ?_⟩⟩⟩⟩)
  have es : s1 e 0 = stl e := by rw [e1, up_ne (by omega)]; exact hs
  have hx : s4 = up (up (up (up σ e 3 p) e 4 w) e 5 0) e 6 0 := by
    rw [e4, e3, e2, es, e1, show max 2 p = p by omega, show max 0 (min w (stl e)) = w by omega]
  have g0 : s4 e 0 = σ e 0 := by rw [hx, up_ne (by omega), up_ne (by omega), up_ne (by omega), up_ne (by omega)]
  have g3 : s4 e 3 = p := by rw [hx, up_ne (by omega), up_ne (by omega), up_ne (by omega), up_same]
  have g4 : s4 e 4 = w := by rw [hx, up_ne (by omega), up_ne (by omega), up_same]
  have g5 : s4 e 5 = 0 := by rw [hx, up_ne (by omega), up_same]
  have g6 : s4 e 6 = 0 := by rw [hx, up_same]
  refine h s4 ⟨ho, by rw [g0]; exact hs, g3, g4, by rw [g5, cd0], hw0, hw, ?_, fun l c _ _ hl => (by cases hl), EW0, hp⟩ ?_
  · rw [g6]
    have := pow_pos' (p := 2) (k := w.toNat) (by omega)
    exact ⟨by omega, by omega, fun l _ _ => tb_zero l⟩
  · intro b j hb
    rw [hx, up_ne (by omega), up_ne (by omega), up_ne (by omega), up_ne (by omega)]
theorem Ec_leadsAt_s {e p w l : Int} {E : ES} (hE : EC σ e p w E) (h0 : 0 ≤ l) (h1 : l < w) (ht : E.1 l = true → Q 1 σ) (hf : E.1 l = false → Q 0 σ) : Tri (d + 1) M_Ec_leadsAt [vA e, vI l] σ Q := by
  obtain ⟨a1, a2, a3, a4, a5, a6, a7, ⟨b1, b2, b3⟩, a9⟩ := hE
  have hc := stl_c e
  have hw := pw2 a6 (by omega)
  refine t_Ec_leadsAt (fun _ => ⟨a1, fun q => hf ?_, fun q => ht ?_⟩)
  · rw [← b3 l h0 h1]; exact (bit_eq b1 (by omega) h0 (by omega)).mp q
  · rw [← b3 l h0 h1]; exact (bit_ne b1 (by omega) h0 (by omega)).mp q
theorem Ec_firstOf_s {e p w o : Int} {E : ES} {len : Nat} (hE : EC σ e p w E) (hk : kd o = (100, len)) (hl : w ≤ (len : Int)) (h : Q (ldw w (σ o)) σ) : Tri (d + 1) M_Ec_firstOf [vA e, vA o] σ Q := by
  obtain ⟨a1, a2, a3, a4, a5, a6, a7, a8⟩ := hE
  have hc := stl_c e
  refine t_Ec_firstOf ?_
  refine loop_up (S := Unit) (P := fun l _ => L (d + 1) M_Ec_firstOf 2 [vA e, vA o, vI l] [] σ Q) (fun l _ => 0 ≤ l ∧ ∀ c, 0 ≤ c → c < l → σ o c = 0) w ?_ ?_ 0 a6 () ⟨by omega, fun c _ _ => by omega⟩
  · rintro _ ⟨_, hz⟩
    refine s_Ec_firstOf_2 ⟨a1, fun _ => ⟨a1, ?_⟩, fun q => by omega⟩
    rw [a4]
    rw [ldw_u (r := w) a6 a6 (Int.le_refl _) hz (fun q => by omega)] at h
    exact h
  · rintro l _ hl2 ⟨hl0, hz⟩ ih
    refine s_Ec_firstOf_2 ⟨a1, fun q => by omega, fun _ => ⟨rd_of hk (by omega) (by omega), fun q => ?_, fun q => ?_⟩⟩
    · rw [w32_id (by omega) (by omega)]
      refine ih () ⟨by omega, fun c g1 g2 => ?_⟩
      by_cases hcl : c = l
      · subst hcl; exact q
      · exact hz c g1 (by omega)
    · rw [ldw_u (r := l) a6 hl0 (by omega) hz (fun _ => q)] at h
      exact h
/-- v becomes what is left of it -/
theorem Ec_reduce_s {e p w o : Int} {E : ES} {len : Nat} (hE : EC σ e p w E) (h0 : 0 ≤ o) (hk : kd o = (100, len)) (hl : w ≤ (len : Int)) (hoe : o ≠ e) (hoe1 : o ≠ e + 1) (hv : ∀ c, 0 ≤ c → c < w → 0 ≤ σ o c ∧ σ o c < p)
    (h : ∀ σ', (∀ c, 0 ≤ c → c < w → σ' o c = rd p w E (σ o) c) → Off (fun b j => b = o ∧ 0 ≤ j ∧ j < w) σ σ' → Q 0 σ') : Tri (d + 1) M_Ec_reduce [vA e, vA o] σ Q := by
  have hE0 := hE
  obtain ⟨a1, a2, a3, a4, a5, a6, a7, ⟨b1, b2, b3⟩, a9, hEW, hp⟩ := hE
  obtain ⟨k0, k1, n1, m1, k2, k3, k4, k5⟩ := ech_k a1
  have hc := stl_c e
  have hw2 := pw2 a6 (by omega)
  have hp2 : 2 ≤ p ∧ p ≤ 7 := by unfold PR at hp; omega
  refine t_Ec_reduce ⟨a1, fun q => by omega, fun _ => ⟨by rw [hk], a1, fun _ => ?_, fun q => by rw [hk] at q; simp only at q; omega⟩⟩
  rw [a3]
  refine loop_up (P := fun l s => L (d + 1) M_Ec_reduce 22 [vA e, vA o, vI p, vI l, vU, vU] [] s Q)
    (fun l s => 0 ≤ l ∧ (∀ c, 0 ≤ c → c < w → s o c = (σ o c - sR (fun l => if E.1 l = true then σ o l * E.2 l c else 0) 0 l) % p) ∧ Off (fun b j => b = o ∧ 0 ≤ j ∧ j < w) σ s) w ?_ ?_ 0 a6 σ ⟨by omega, fun c g1 g2 => by
      rw [sR_nil (by omega), Int.sub_zero]
      have := hv c g1 g2
      exact (Int.emod_eq_of_lt (by omega) (by omega)).symm, Off_rfl⟩
  · rintro s ⟨_, hs, hO⟩
    have e4 : s e 4 = w := by rw [hO e 4 (by omega)]; exact a4
    exact s_Ec_reduce_22 ⟨a1, fun _ => h s hs hO, fun q => by omega⟩
  · rintro l s hl2 ⟨hl0, hs, hO⟩ ih
    have e4 : s e 4 = w := by rw [hO e 4 (by omega)]; exact a4
    have e6 : s e 6 = σ e 6 := hO e 6 (by omega)
    -- at a place that leads nothing was taken away yet
    have hcur : E.1 l = true → s o l = σ o l := by
      intro hl
      rw [hs l hl0 hl2, sR_zero' (fun k g1 g2 => by
        by_cases hk2 : E.1 k = true
        · rw [if_pos hk2, (hEW k g1 (by omega) hk2).2.2.2 l hl0 hl2 hl (by omega)]; simp
        · rw [if_neg hk2]), Int.sub_zero]
      have := hv l hl0 hl2
      exact Int.emod_eq_of_lt (by omega) (by omega)
    have hnext : ∀ s', (∀ c, 0 ≤ c → c < w → s' o c = (σ o c - sR (fun l => if E.1 l = true then σ o l * E.2 l c else 0) 0 (l + 1)) % p) → Off (fun b j => b = o ∧ 0 ≤ j ∧ j < w) σ s' → L (d + 1) M_Ec_reduce 22 [vA e, vA o, vI p, vI (w32 (l + 1)), vU, vU] [] s' Q := by
      intro s' g1 g2
      rw [w32_id (by omega) (by omega)]
      exact ih s' ⟨by omega, g1, g2⟩
    have hsame : (E.1 l = true → s o l = 0) → L (d + 1) M_Ec_reduce 22 [vA e, vA o, vI p, vI (w32 (l + 1)), vU, vU] [] s Q := by
      intro hz
      refine hnext s (fun c g1 g2 => ?_) hO
      rw [hs c g1 g2, sR_succ hl0]
      by_cases hl : E.1 l = true
      · rw [if_pos hl, ← hcur hl, hz hl]; simp
      · rw [if_neg hl]; simp
    refine s_Ec_reduce_22 ⟨a1, fun q => by omega, fun _ => ⟨rd_of hk (by omega) (by omega), fun q => hsame (fun _ => q), fun q => ⟨a1, fun q2 => hsame (fun hl => ?_), fun q2 => ?_⟩⟩⟩
    · rw [e6] at q2
      have := (bit_eq b1 (by omega) hl0 (by omega)).mp q2
      rw [b3 l hl0 hl2, hl] at this
      cases this
    · rw [e6] at q2
      have hl : E.1 l = true := by rw [← b3 l hl0 hl2]; exact (bit_ne b1 (by omega) hl0 (by omega)).mp q2
      obtain ⟨v1, v2⟩ := hv l hl0 hl2
      rw [hcur hl] at q ⊢
      obtain ⟨r1, r2, r3, r4⟩ := hEW l hl0 hl2 hl
      refine loop_up (P := fun c s => L (d + 1) M_Ec_reduce 54 [vA e, vA o, vI p, vI l, vI (σ o l), vI c] [] s Q)
        (fun c t => l ≤ c ∧ (∀ c', 0 ≤ c' → c' < c → t o c' = (σ o c' - sR (fun l => if E.1 l = true then σ o l * E.2 l c' else 0) 0 (l + 1)) % p) ∧ (∀ c', c ≤ c' → t o c' = s o c') ∧ Off (fun b j => b = o ∧ 0 ≤ j ∧ j < w) σ t) w ?_ ?_ l (by omega) s ⟨by omega, fun c' g1 g2 => ?_, fun _ _ => rfl, hO⟩
      · rintro t ⟨_, ht, _, hO2⟩
        have e4 : t e 4 = w := by rw [hO2 e 4 (by omega)]; exact a4
        exact s_Ec_reduce_54 ⟨a1, fun _ => hnext t ht hO2, fun q => by omega⟩
      · rintro c t hc2 ⟨hc0, ht, ht2, hO2⟩ ih2
        have e4 : t e 4 = w := by rw [hO2 e 4 (by omega)]; exact a4
        have e0 : t e 0 = stl e := by rw [hO2 e 0 (by omega)]; exact a2
        have hb := st_b (e := e) (l := l) (c := c) a7 hl0 hl2 (by omega) hc2
        have eR : t (e + 1) (l * stl e + c) = E.2 l c := by rw [hO2 (e + 1) _ (by omega)]; exact a9 l c hl0 hl2 hl (by omega) hc2
        have hsc := hs c (by omega) hc2
        have hsr : 0 ≤ s o c ∧ s o c < p := by rw [hsc]; exact ⟨Int.emod_nonneg _ (by omega), Int.emod_lt_of_pos _ (by omega)⟩
        have hrc := r1 c (by omega) hc2
        obtain ⟨m2, m3⟩ := mul_small (a := p - σ o l) (b := E.2 l c) (A := 7) (B := 7) (by omega) (by omega) (by omega) (by omega)
        refine s_Ec_reduce_54 ⟨a1, fun q => by omega, fun _ => ?_⟩
        rw [e0, w32_id (x := l * stl e) (by omega) (by omega), w32_id (x := l * stl e + c) (by omega) (by omega), eR, w32_id (x := p - σ o l) (by omega) (by omega), w32_id (x := (p - σ o l) * E.2 l c) (by omega) (by omega), ht2 c (by omega), w32_id (x := s o c + (p - σ o l) * E.2 l c) (by omega) (by omega), w32_id (x := c + 1) (by omega) (by omega)]
        refine ⟨rd_of hk (by omega) (by omega), a1, a1, rd_of k2 (by omega) (by omega), by omega, wr_of h0 hk (by omega) (by omega), fun t2 et => ih2 t2 ⟨by omega, fun c' g1 g2 => ?_, fun c' g1 => ?_, ?_⟩⟩
        · by_cases hcc : c' = c
          · subst hcc
            rw [et, up_same, Int.tmod_eq_emod_of_nonneg (by omega), hsc, sR_succ hl0, if_pos hl]
            generalize sR (fun l => if E.1 l = true then σ o l * E.2 l c' else 0) 0 l = S
            obtain ⟨q5, hq5⟩ := emod_ex (σ o c' - S) p
            rw [hq5]
            refine emod_cg (q := q5 + E.2 l c') ?_
            grind
          · rw [et, up_ne (by omega)]; exact ht c' g1 (by omega)
        · rw [et, up_ne (by omega)]; exact ht2 c' (by omega)
        · refine Off_trans hO2 ?_
          rw [et]
          exact Off_up ⟨rfl, by omega, by omega⟩
      · rw [hs c' g1 (by omega), sR_succ hl0, if_pos hl, r3 c' g1 g2]; simp
end ECH
