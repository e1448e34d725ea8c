/-! ===== the model's rows of equations: the rows in any order ===== -/
def RR (σ : SG) (p w : Int) (E : ES) : Prop := σ 161 39 = cd E.1 w ∧ EW p w E ∧ ∃ f : Int → Int, (∀ i, 0 ≤ i → i < cd E.1 w → 0 ≤ f i ∧ f i < w ∧ E.1 (f i) = true ∧ ∀ c, 0 ≤ c → c < w → σ 179 (30 * i + c) = E.2 (f i) c) ∧ (∀ i j, 0 ≤ i → i < cd E.1 w → 0 ≤ j → j < cd E.1 w → f i = f j → i = j) ∧ (∀ l, 0 ≤ l → l < w → E.1 l = true → ∃ i, 0 ≤ i ∧ i < cd E.1 w ∧ f i = l)
theorem RR.cg {σ σ' : SG} {p w : Int} {E : ES} (h : RR σ p w E) (h1 : σ' 161 39 = σ 161 39) (h2 : ∀ k, σ' 179 k = σ 179 k) : RR σ' p w E := by
  obtain ⟨a1, a2, f, a3, a4, a5⟩ := h
  exact ⟨h1.trans a1, a2, f, fun i i0 i1 => ⟨(a3 i i0 i1).1, (a3 i i0 i1).2.1, (a3 i i0 i1).2.2.1, fun c c0 c1 => by rw [h2]; exact (a3 i i0 i1).2.2.2 c c0 c1⟩, a4, a5⟩
theorem RR.to {σ : SG} {p w : Int} {E E' : ES} (h : RR σ p w E) (hs : ESm w E E') : RR σ p w E' := by
  obtain ⟨a1, a2, f, a3, a4, a5⟩ := h
  have hc := hs.cdw
  refine ⟨by rw [← hc]; exact a1, hs.ew a2, f, fun i i0 i1 => ?_, fun i j i0 i1 j0 j1 => ?_, fun l l0 l1 hl => ?_⟩
  · rw [← hc] at i1
    obtain ⟨q1, q2, q3, q4⟩ := a3 i i0 i1
    exact ⟨q1, q2, by rw [← hs.1 _ q1 q2]; exact q3, fun c c0 c1 => by rw [q4 c c0 c1]; exact hs.2 _ _ q1 q2 q3 c0 c1⟩
  · rw [← hc] at i1 j1; exact a4 i j i0 i1 j0 j1
  · obtain ⟨i, q1, q2, q3⟩ := a5 l l0 l1 (by rw [hs.1 l l0 l1]; exact hl)
    exact ⟨i, q1, by rw [← hc]; exact q2, q3⟩
/-- what the first i rows take away -/
noncomputable def smf (E : ES) (V f : Int → Int) (w i c : Int) : Int := sR (fun l => ind (∃ j, 0 ≤ j ∧ j < i ∧ f j = l) * (V l * E.2 l c)) 0 w
theorem smf_zero {E : ES} {V f : Int → Int} {w c : Int} : smf E V f w 0 c = 0 := by
  unfold smf
  apply sR_zero'
  intro k _ _
  rw [ind_f (fun ⟨j, q1, q2, _⟩ => by omega)]; simp
theorem smf_succ {E : ES} {V f : Int → Int} {w i c : Int} (i0 : 0 ≤ i) (f0 : 0 ≤ f i) (f1 : f i < w) (hj : ∀ j, 0 ≤ j → j < i → f j ≠ f i) : smf E V f w (i + 1) c = smf E V f w i c + V (f i) * E.2 (f i) c := by
  have h2 : smf E V f w (i + 1) c - smf E V f w i c = V (f i) * E.2 (f i) c := by
    unfold smf
    rw [← sR_sub, sR_one (l := f i) f0 f1]
    · rw [ind_t ⟨i, i0, by omega, rfl⟩, ind_f (fun ⟨j, q1, q2, q3⟩ => hj j q1 q2 q3)]; omega
    · intro k k0 k1 hk
      by_cases hx : ∃ j, 0 ≤ j ∧ j < i ∧ f j = k
      · rw [ind_t hx, ind_t (by obtain ⟨j, q1, q2, q3⟩ := hx; exact ⟨j, q1, by omega, q3⟩)]; omega
      · rw [ind_f hx, ind_f (fun ⟨j, q1, q2, q3⟩ => hx ⟨j, q1, by
          have : j ≠ i := fun e => hk (by rw [← q3, e])
          omega, q3⟩)]; omega
  omega
theorem smf_all {E : ES} {V f : Int → Int} {w r c : Int} (h1 : ∀ i, 0 ≤ i → i < r → 0 ≤ f i ∧ f i < w ∧ E.1 (f i) = true) (h2 : ∀ l, 0 ≤ l → l < w → E.1 l = true → ∃ i, 0 ≤ i ∧ i < r ∧ f i = l) : smf E V f w r c = sR (fun l => if E.1 l = true then V l * E.2 l c else 0) 0 w := by
  unfold smf
  apply sR_congr
  intro k k0 k1
  by_cases hk : E.1 k = true
  · rw [if_pos hk, ind_t (h2 k k0 k1 hk)]; omega
  · rw [if_neg hk, ind_f (fun ⟨j, q1, q2, q3⟩ => hk (by rw [← q3]; exact (h1 j q1 q2).2.2))]; omega
section RRW
variable {d : Nat} {σ : SG} {Q : Int → SG → Prop}
theorem R_noRows_s {p w : Int} (h : ∀ σ', RR σ' p w E0 → Off (fun b j => b = 161 ∧ j = 39) σ σ' → Q 0 σ') : Tri (d + 1) M_R_noRows [vA 161] σ Q := by
  refine t_R_noRows (fun s e => h s ⟨by rw [e, up_same, cd0], EW0, fun _ => 0, fun i i0 i1 => by rw [cd0] at i1; omega, fun i j i0 i1 => by rw [cd0] at i1; omega, fun l _ _ hl => by cases hl⟩ (by rw [e]; exact Off_up ⟨rfl, rfl⟩))
theorem R_leadOfRow_s {a f w : Int} {len : Nat} (hk : kd a = (100, len)) (hw0 : 0 ≤ w) (hf : 0 ≤ f) (hfl : f + w ≤ (len : Int)) (hlen : len ≤ 5000)
    (h : Q (if ldw w (fun c => σ a (f + c)) < w then ldw w (fun c => σ a (f + c)) else -1) σ) : Tri (d + 1) M_R_leadOfRow [vA 161, vA a, vI f, vI w] σ Q := by
  refine t_R_leadOfRow (fun _ _ => ?_)
  refine loop_up (S := Unit) (P := fun l _ => L (d + 1) M_R_leadOfRow 3 [vU, vA a, vI f, vI w, vI l] [] σ Q) (fun l _ => 0 ≤ l ∧ ∀ c, 0 ≤ c → c < l → σ a (f + c) = 0) w ?_ ?_ 0 hw0 () ⟨by omega, fun c _ _ => by omega⟩
  · rintro _ ⟨_, hz⟩
    refine s_R_leadOfRow_3 ⟨fun _ => ?_, fun q => by omega⟩
    rw [ldw_u (r := w) hw0 hw0 (Int.le_refl _) hz (fun q => by omega), if_neg (by omega)] at h
    exact h
  · rintro l _ hl ⟨l0, hz⟩ ih
    refine s_R_leadOfRow_3 ⟨fun q => by omega, fun _ => ?_⟩
    rw [w32_id (x := f + l) (by omega) (by omega), w32_id (x := l + 1) (by omega) (by omega)]
    refine ⟨rd_of hk (by omega) (by omega), fun q => ih () ⟨by omega, fun c c0 c1 => ?_⟩, fun q => ?_⟩
    · by_cases hc : c = l
      · subst hc; exact q
      · exact hz c c0 (by omega)
    · rw [ldw_u (r := l) hw0 l0 (by omega) hz (fun _ => q), if_pos hl] at h
      exact h
theorem R_addEquation_s {p w : Int} {E : ES} (hp : PR p) (hpe : σ 161 26 = p) (hw0 : 0 ≤ w) (hw : w ≤ 25) (hR : RR σ p w E) (hv : ∀ c, 0 ≤ c → c < w → 0 ≤ σ 180 c ∧ σ 180 c < p)
    (h : ∀ σ', RR σ' p w (ins p w E (σ 180)) → Off (fun b j => b = 179 ∨ b = 180 ∨ (b = 161 ∧ j = 39)) σ σ' → Q 0 σ') : Tri (d + 2) M_R_addEquation [vA 161, vI w] σ Q := by
  have hp2 : 2 ≤ p ∧ p ≤ 7 := by unfold PR at hp; omega
  obtain ⟨a1, hEW, f, hf, hinj, hsur⟩ := hR
  have hcb := cd_b (ℓ := E.1) (w := w) hw0
  generalize hr : cd E.1 w = r at *
  refine t_R_addEquation (fun _ => ?_)
  refine loop_up (P := fun i t => L (d + 2) M_R_addEquation 2 [vA 161, vI w, vI i, vU, vU, vU, vU] [] t Q)
    (fun i t => 0 ≤ i ∧ (∀ c, 0 ≤ c → c < w → t 180 c = (σ 180 c - smf E (σ 180) f w i c) % p) ∧ Off (fun b j => b = 180) σ t) r ?_ ?_ 0 hcb.1 σ ⟨by omega, fun c c0 c1 => ?_, Off_rfl⟩
  · rintro t ⟨_, ht, hO⟩
    have e39 : t 161 39 = r := (hO 161 39 (by omega)).trans a1
    have e26 : t 161 26 = p := (hO 161 26 (by omega)).trans hpe
    have hrd : ∀ c, 0 ≤ c → c < w → t 180 c = rd p w E (σ 180) c := fun c c0 c1 => by
      rw [ht c c0 c1, smf_all (fun i i0 i1 => ⟨(hf i i0 i1).1, (hf i i0 i1).2.1, (hf i i0 i1).2.2.1⟩) hsur]; rfl
    have hld : ldw w (fun c => t 180 (0 + c)) = ild p w E (σ 180) := ldw_cg hw0 (fun c c0 c1 => by rw [show (0 : Int) + c = c by omega]; exact hrd c c0 c1)
    refine s_R_addEquation_2 ⟨fun _ => ?_, fun q => by omega⟩
    refine R_leadOfRow_s kd_180 hw0 (by omega) (by omega) (by omega) ?_
    rw [hld]
    by_cases hc : ild p w E (σ 180) < w
    · rw [if_pos hc]
      obtain ⟨l1, l2, l3, l4⟩ := ild_s hw0 hEW hc
      obtain ⟨u1, u2, u3, u4⟩ := irow_s hp hw0 hEW hc
      have hrdb : ∀ c, 0 ≤ rd p w E (σ 180) c ∧ rd p w E (σ 180) c < p := fun c => rd_in (by omega)
      have hins := ins_yes (p := p) (w := w) (E := E) (v := σ 180) hc
      have hEWn := EW_ins (v := σ 180) hp hw0 hEW
      have hcdn := cd_ins (v := σ 180) hw0 hEW
      rw [if_pos hc, hr] at hcdn
      have hcb2 := (cd_b (ℓ := (ins p w E (σ 180)).1) (w := w) hw0).2
      generalize hLd : ild p w E (σ 180) = Ld at *
      have hir : ∀ c, irow p w E (σ 180) c = rd p w E (σ 180) c * iv p (rd p w E (σ 180) Ld) % p := fun c => by unfold irow; rw [hLd]
      generalize hu : irow p w E (σ 180) = u at *
      have hivb := iv_s hp (show 1 ≤ rd p w E (σ 180) Ld by have := hrdb Ld; omega) (hrdb Ld).2
      refine ⟨fun _ => ⟨⟨l1, by omega⟩, ?_⟩, fun q => by omega⟩
      rw [hrd Ld l1 hc]
      refine R_inverse_s hp e26 (by have := hrdb Ld; omega) (hrdb Ld).2 ?_
      refine loop_up (P := fun k t => L (d + 2) M_R_addEquation 120 [vA 161, vI w, vI Ld, vI (iv p (rd p w E (σ 180) Ld)), vI k, vU, vU] [] t Q)
        (fun k t2 => 0 ≤ k ∧ (∀ c, 0 ≤ c → c < k → t2 179 (30 * r + c) = u c) ∧ (∀ j, j < 30 * r → t2 179 j = σ 179 j) ∧ Off (fun b j => b = 179) t t2) w ?_ ?_ 0 hw0 t ⟨by omega, fun c _ _ => by omega, fun j _ => hO 179 j (by omega), Off_rfl⟩
      · rintro t2 ⟨_, hn2, ho2, hO2⟩
        have e392 : t2 161 39 = r := (hO2 161 39 (by omega)).trans e39
        refine s_R_addEquation_120 ⟨fun _ => ?_, fun q => by omega⟩
        -- the older rows, each without its part at the new lead
        refine loop_up (P := fun i t => L (d + 2) M_R_addEquation 164 [vA 161, vI w, vI Ld, vU, vI i, vU, vU] [] t Q)
          (fun i t3 => 0 ≤ i ∧ (∀ j c, 0 ≤ j → j < r → 0 ≤ c → c < w → t3 179 (30 * j + c) = if j < i then (E.2 (f j) c - E.2 (f j) Ld * u c) % p else E.2 (f j) c) ∧ (∀ c, 0 ≤ c → c < w → t3 179 (30 * r + c) = u c) ∧ Off (fun b j => b = 179) t t3) r ?_ ?_ 0 hcb.1 t2 ⟨by omega, fun j c j0 j1 c0 c1 => ?_, hn2, hO2⟩
        · rintro t3 ⟨_, hold, hnew, hO3⟩
          have e393 : t3 161 39 = r := (hO3 161 39 (by omega)).trans e39
          refine s_R_addEquation_164 ⟨fun _ t4 e4 => ?_, fun q => by omega⟩
          rw [e393, w32_id (by omega) (by omega)] at e4
          have f4 : ∀ k, t4 179 k = t3 179 k := fun k => by rw [e4, up_ne (by omega)]
          refine h t4 ⟨by rw [e4, up_same, hcdn], hEWn, fun i => if i = r then Ld else f i, fun i i0 i1 => ?_, fun i j i0 i1 j0 j1 hij => ?_, fun l l0 l1' hl => ?_⟩ (fun b j hb => ?_)
          · rw [hcdn] at i1
            by_cases hi : i = r
            · subst hi
              simp only [if_true]
              refine ⟨l1, hc, by rw [hins]; simp, fun c c0 c1 => ?_⟩
              rw [f4, hnew c c0 c1, hins]
              show u c = (if Ld = Ld then u c else _)
              rw [if_pos rfl]
            · simp only [if_neg hi]
              obtain ⟨q1, q2, q3, q4⟩ := hf i i0 (by omega)
              have hne : f i ≠ Ld := fun e => by rw [e, l2] at q3; cases q3
              refine ⟨q1, q2, by rw [hins]; simp [q3], fun c c0 c1 => ?_⟩
              rw [f4, hold i c i0 (by omega) c0 c1, if_pos (by omega), hins]
              show _ = (if f i = Ld then u c else _)
              rw [if_neg hne]
          · rw [hcdn] at i1 j1
            simp only at hij
            by_cases hi : i = r <;> by_cases hj : j = r
            · omega
            · rw [if_pos hi, if_neg hj] at hij
              have := (hf j j0 (by omega)).2.2.1
              rw [← hij, l2] at this; cases this
            · rw [if_neg hi, if_pos hj] at hij
              have := (hf i i0 (by omega)).2.2.1
              rw [hij, l2] at this; cases this
            · rw [if_neg hi, if_neg hj] at hij
              exact hinj i j i0 (by omega) j0 (by omega) hij
          · rw [hcdn]
            rw [hins] at hl
            simp only [Bool.or_eq_true, decide_eq_true_eq] at hl
            rcases hl with hl | hl
            · obtain ⟨i, q1, q2, q3⟩ := hsur l l0 l1' hl
              exact ⟨i, q1, by omega, by simp only; rw [if_neg (by omega)]; exact q3⟩
            · exact ⟨r, hcb.1, by omega, by simp only [if_true]; exact hl.symm⟩
          · rw [e4, up_ne (by omega), hO3 b j (by omega)]; exact hO b j (by omega)
        · rintro i t3 hi ⟨i0, hold, hnew, hO3⟩ ih3
          have e393 : t3 161 39 = r := (hO3 161 39 (by omega)).trans e39
          obtain ⟨q1, q2, q3, q4⟩ := hf i i0 hi
          obtain ⟨r1, r2, r3, r4⟩ := hEW (f i) q1 q2 q3
          have hoff : t3 179 (30 * i + Ld) = E.2 (f i) Ld := by
            have := hold i Ld i0 hi l1 hc
            rw [if_neg (by omega)] at this
            exact this
          refine s_R_addEquation_164 ⟨fun q => by omega, fun _ => ?_⟩
          rw [w32_id (x := 30 * i) (by omega) (by omega), w32_id (x := 30 * i + Ld) (by omega) (by omega), hoff]
          refine ⟨⟨by omega, by omega⟩, ?_⟩
          have hoffb := r1 Ld l1 hc
          have hnext : ∀ t4, (∀ j c, 0 ≤ j → j < r → 0 ≤ c → c < w → t4 179 (30 * j + c) = if j < i + 1 then (E.2 (f j) c - E.2 (f j) Ld * u c) % p else E.2 (f j) c) → (∀ c, 0 ≤ c → c < w → t4 179 (30 * r + c) = u c) → Off (fun b j => b = 179) t t4 → L (d + 2) M_R_addEquation 164 [vA 161, vI w, vI Ld, vU, vI (w32 (i + 1)), vU, vU] [] t4 Q := fun t4 g1 g2 g3 => by
            rw [w32_id (by omega) (by omega)]
            exact ih3 t4 ⟨by omega, g1, g2, g3⟩
          refine loop_up (P := fun k t => L (d + 2) M_R_addEquation 190 [vA 161, vI w, vI Ld, vU, vI i, vI (E.2 (f i) Ld), vI k] [] t Q)
            (fun k t4 => 0 ≤ k ∧ (∀ j c, 0 ≤ j → j < r → 0 ≤ c → c < w → t4 179 (30 * j + c) = if j < i ∨ (j = i ∧ c < k) then (E.2 (f j) c - E.2 (f j) Ld * u c) % p else E.2 (f j) c) ∧ (∀ c, 0 ≤ c → c < w → t4 179 (30 * r + c) = u c) ∧ Off (fun b j => b = 179) t t4) w ?_ ?_ 0 hw0 t3 ⟨by omega, fun j c j0 j1 c0 c1 => ?_, hnew, hO3⟩
          · rintro t4 ⟨_, hold4, hnew4, hO4⟩
            refine s_R_addEquation_190 ⟨fun _ => hnext t4 (fun j c j0 j1 c0 c1 => ?_) hnew4 hO4, fun q => by omega⟩
            rw [hold4 j c j0 j1 c0 c1]
            by_cases g : j < i + 1
            · rw [if_pos g, if_pos (by omega)]
            · rw [if_neg g, if_neg (by omega)]
          · rintro k t4 hk ⟨k0, hold4, hnew4, hO4⟩ ih4
            have e394 : t4 161 39 = r := (hO4 161 39 (by omega)).trans e39
            have e264 : t4 161 26 = p := (hO4 161 26 (by omega)).trans e26
            refine s_R_addEquation_190 ⟨fun q => by omega, fun _ => ⟨fun q => hnext t4 (fun j c j0 j1 c0 c1 => ?_) hnew4 hO4, fun q => ?_⟩⟩
            · rw [hold4 j c j0 j1 c0 c1]
              by_cases g : j < i ∨ (j = i ∧ c < k)
              · rw [if_pos g, if_pos (by omega)]
              · rw [if_neg g]
                by_cases g2 : j < i + 1
                · have hji : j = i := by omega
                  rw [if_pos g2, hji, q, Int.zero_mul, Int.sub_zero]
                  exact (Int.emod_eq_of_lt (r1 c c0 c1).1 (r1 c c0 c1).2).symm
                · rw [if_neg g2]
            · have hcur : t4 179 (30 * i + k) = E.2 (f i) k := by
                have := hold4 i k i0 hi k0 hk
                rw [if_neg (by omega)] at this
                exact this
              have hE1 := r1 k k0 hk
              have hu1 := u1 k
              obtain ⟨m2, m3⟩ := mul_small (a := E.2 (f i) Ld) (b := u k) (A := 7) (B := 7) (by omega) (by omega) (by omega) (by omega)
              rw [e394, e264, w32_id (x := 30 * i) (by omega) (by omega), w32_id (x := 30 * r) (by omega) (by omega), w32_id (x := 30 * i + k) (by omega) (by omega), w32_id (x := 30 * r + k) (by omega) (by omega), hcur, hnew4 k k0 hk, w32_id (x := E.2 (f i) Ld * u k) (by omega) (by omega), w32_id (x := E.2 (f i) k - E.2 (f i) Ld * u k) (by omega) (by omega), w32_id (x := k + 1) (by omega) (by omega)]
              refine ⟨⟨by omega, by omega⟩, ⟨by omega, by omega⟩, R_left_s hp2 ⟨⟨by omega, by omega⟩, fun t5 e5 => ih4 t5 ⟨by omega, fun j c j0 j1 c0 c1 => ?_, fun c c0 c1 => ?_, fun b j hb => ?_⟩⟩⟩
              · by_cases hjc : j = i ∧ c = k
                · rw [hjc.1, hjc.2, e5, up_same, if_pos (by omega)]
                · rw [e5, up_ne (by omega), hold4 j c j0 j1 c0 c1]
                  by_cases g : j < i ∨ (j = i ∧ c < k)
                  · rw [if_pos g, if_pos (by omega)]
                  · rw [if_neg g, if_neg (by omega)]
              · rw [e5, up_ne (by omega)]; exact hnew4 c c0 c1
              · rw [e5, up_ne (by omega)]; exact hO4 b j hb
          · rw [hold j c j0 j1 c0 c1]
            by_cases g : j < i
            · rw [if_pos g, if_pos (Or.inl g)]
            · rw [if_neg g, if_neg (by omega)]
        · rw [if_neg (by omega), ho2 _ (by omega)]
          exact (hf j j0 j1).2.2.2 c c0 c1
      · rintro k t2 hk ⟨k0, hn2, ho2, hO2⟩ ih2
        have e392 : t2 161 39 = r := (hO2 161 39 (by omega)).trans e39
        have e262 : t2 161 26 = p := (hO2 161 26 (by omega)).trans e26
        have e180 : t2 180 k = rd p w E (σ 180) k := by rw [hO2 180 k (by omega)]; exact hrd k k0 hk
        have hr1 := hrdb k
        obtain ⟨m2, m3⟩ := mul_small (a := rd p w E (σ 180) k) (b := iv p (rd p w E (σ 180) Ld)) (A := 7) (B := 7) (by omega) (by omega) (by omega) (by omega)
        refine s_R_addEquation_120 ⟨fun q => by omega, fun _ => ?_⟩
        rw [e392, e262, e180, w32_id (x := 30 * r) (by omega) (by omega), w32_id (x := 30 * r + k) (by omega) (by omega), w32_id (x := rd p w E (σ 180) k * iv p (rd p w E (σ 180) Ld)) (by omega) (by omega), w32_id (x := k + 1) (by omega) (by omega), Int.tmod_eq_emod_of_nonneg m2]
        refine ⟨⟨k0, by omega⟩, by omega, ⟨by omega, by omega⟩, fun t3 e3 => ih2 t3 ⟨by omega, fun c c0 c1 => ?_, fun j hj => ?_, fun b j hb => ?_⟩⟩
        · by_cases hck : c = k
          · subst hck; rw [e3, up_same, hir]
          · rw [e3, up_ne (by omega)]; exact hn2 c c0 (by omega)
        · rw [e3, up_ne (by omega)]; exact ho2 j hj
        · rw [e3, up_ne (by omega)]; exact hO2 b j hb
    · rw [if_neg hc]
      refine ⟨fun q => by omega, fun _ => h t ?_ (Off_mono hO (fun b j q => by omega))⟩
      rw [ins_no hc]
      exact ⟨by rw [e39, hr], hEW, f, fun i i0 i1 => ⟨(hf i i0 (by omega)).1, (hf i i0 (by omega)).2.1, (hf i i0 (by omega)).2.2.1, fun c c0 c1 => by rw [hO 179 _ (by omega)]; exact (hf i i0 (by omega)).2.2.2 c c0 c1⟩, fun i j i0 i1 j0 j1 => hinj i j i0 (by omega) j0 (by omega), fun l l0 l1 hl => by rw [hr]; exact hsur l l0 l1 hl⟩
  · rintro i t hi ⟨i0, ht, hO⟩ ih
    obtain ⟨q1, q2, q3, q4⟩ := hf i i0 hi
    obtain ⟨r1, r2, r3, r4⟩ := hEW (f i) q1 q2 q3
    have e39 : t 161 39 = r := (hO 161 39 (by omega)).trans a1
    have hrow : ∀ c, 0 ≤ c → c < w → t 179 (30 * i + c) = E.2 (f i) c := fun c c0 c1 => by rw [hO 179 _ (by omega)]; exact q4 c c0 c1
    have hlead : ldw w (fun c => t 179 (30 * i + c)) = f i := ldw_u hw0 q1 (by omega) (fun c c0 c1 => by rw [hrow c c0 (by omega)]; exact r3 c c0 c1) (fun _ => by rw [hrow (f i) q1 q2, r2]; omega)
    refine s_R_addEquation_2 ⟨fun q => by omega, fun _ => ?_⟩
    rw [w32_id (x := 30 * i) (by omega) (by omega)]
    refine R_leadOfRow_s kd_179 hw0 (by omega) (by omega) (by omega) ?_
    rw [hlead, if_pos q2]
    refine ⟨⟨q1, by omega⟩, ?_⟩
    have hby : t 180 (f i) = σ 180 (f i) := by
      rw [ht _ q1 q2]
      have hz : smf E (σ 180) f w i (f i) = 0 := by
        unfold smf
        apply sR_zero'
        intro k k0 k1
        by_cases hx : ∃ j, 0 ≤ j ∧ j < i ∧ f j = k
        · obtain ⟨j, j0, j1, j2⟩ := hx
          have hne : f i ≠ k := fun e => by have := hinj j i j0 (by omega) i0 hi (by omega); omega
          have hk : E.1 k = true := by rw [← j2]; exact (hf j j0 (by omega)).2.2.1
          rw [(hEW k k0 k1 hk).2.2.2 (f i) q1 q2 q3 hne]; simp
        · rw [ind_f hx]; simp
      rw [hz, Int.sub_zero]
      have := hv _ q1 q2
      exact Int.emod_eq_of_lt this.1 this.2
    rw [hby]
    have hss : ∀ c, smf E (σ 180) f w (i + 1) c = smf E (σ 180) f w i c + σ 180 (f i) * E.2 (f i) c := fun c => smf_succ i0 q1 q2 (fun j j0 j1 e => by have := hinj j i j0 (by omega) i0 hi e; omega)
    have hnext : ∀ t2, (∀ c, 0 ≤ c → c < w → t2 180 c = (σ 180 c - smf E (σ 180) f w (i + 1) c) % p) → Off (fun b j => b = 180) σ t2 → L (d + 2) M_R_addEquation 2 [vA 161, vI w, vI (w32 (i + 1)), vU, vU, vU, vU] [] t2 Q := fun t2 g1 g2 => by
      rw [w32_id (by omega) (by omega)]
      exact ih t2 ⟨by omega, g1, g2⟩
    have hvb := hv _ q1 q2
    refine loop_up (P := fun k t => L (d + 2) M_R_addEquation 32 [vA 161, vI w, vI i, vI (σ 180 (f i)), vI k, vU, vU] [] t Q)
      (fun k t2 => 0 ≤ k ∧ (∀ c, 0 ≤ c → c < k → t2 180 c = (σ 180 c - smf E (σ 180) f w (i + 1) c) % p) ∧ (∀ c, k ≤ c → c < w → t2 180 c = t 180 c) ∧ Off (fun b j => b = 180) σ t2) w ?_ ?_ 0 hw0 t ⟨by omega, fun c _ _ => by omega, fun _ _ _ => rfl, hO⟩
    · rintro t2 ⟨_, hd2, _, hO2⟩
      exact s_R_addEquation_32 ⟨fun _ => hnext t2 hd2 hO2, fun q => by omega⟩
    · rintro k t2 hk ⟨k0, hd2, hk2, hO2⟩ ih2
      have e262 : t2 161 26 = p := (hO2 161 26 (by omega)).trans hpe
      refine s_R_addEquation_32 ⟨fun q => by omega, fun _ => ⟨fun q => hnext t2 (fun c c0 c1 => ?_) hO2, fun q => ?_⟩⟩
      · by_cases hck : c < k
        · exact hd2 c c0 hck
        · rw [hk2 c (by omega) c1, ht c c0 c1, hss, q, Int.zero_mul, Int.add_zero]
      · have hcur := ht k k0 hk
        have hcb3 : 0 ≤ t 180 k ∧ t 180 k < p := by rw [hcur]; exact ⟨Int.emod_nonneg _ (by omega), Int.emod_lt_of_pos _ (by omega)⟩
        have hE1 := r1 k k0 hk
        have hrk : t2 179 (30 * i + k) = E.2 (f i) k := by rw [hO2 179 _ (by omega)]; exact q4 k k0 hk
        obtain ⟨m2, m3⟩ := mul_small (a := σ 180 (f i)) (b := E.2 (f i) k) (A := 7) (B := 7) (by omega) (by omega) (by omega) (by omega)
        rw [w32_id (x := 30 * i) (by omega) (by omega), w32_id (x := 30 * i + k) (by omega) (by omega), hrk, hk2 k (by omega) hk, e262, w32_id (x := σ 180 (f i) * E.2 (f i) k) (by omega) (by omega), w32_id (x := t 180 k - σ 180 (f i) * E.2 (f i) k) (by omega) (by omega), w32_id (x := k + 1) (by omega) (by omega)]
        refine ⟨⟨k0, by omega⟩, ⟨by omega, by omega⟩, R_left_s hp2 ⟨⟨k0, by omega⟩, fun t4 e4 => ih2 t4 ⟨by omega, fun c c0 c1 => ?_, fun c c0 c1 => ?_, fun b j hb => ?_⟩⟩⟩
        · by_cases hck : c = k
          · subst hck
            rw [e4, up_same, hss, hcur]
            generalize smf E (σ 180) f w i c = S
            obtain ⟨q5, hq5⟩ := emod_ex (σ 180 c - S) p
            rw [hq5]
            refine emod_cg (q := q5) ?_
            grind
          · rw [e4, up_ne (by omega)]; exact hd2 c c0 (by omega)
        · rw [e4, up_ne (by omega)]; exact hk2 c (by omega) c1
        · rw [e4, up_ne (by omega)]; exact hO2 b j hb
  · rw [smf_zero, Int.sub_zero]
    have := hv c c0 c1
    exact (Int.emod_eq_of_lt this.1 this.2).symm
end RRW
