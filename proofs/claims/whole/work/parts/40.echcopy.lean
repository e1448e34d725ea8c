/-! ===== the class's ECHELON: copies, the whole ===== -/
def EU : ES := (fun _ => true, fun l c => if l = c then 1 else 0)
theorem EWU {p w : Int} (hp : 2 ≤ p) : EW p w EU := by
  intro l h0 h1 _
  refine ⟨fun c _ _ => ?_, ?_, fun c g1 g2 => ?_, fun m g1 g2 _ g4 => ?_⟩
  · show 0 ≤ (if l = c then (1 : Int) else 0) ∧ (if l = c then (1 : Int) else 0) < p
    split <;> omega
  · show (if l = l then (1 : Int) else 0) = 1
    rw [if_pos rfl]
  · show (if l = c then (1 : Int) else 0) = 0
    rw [if_neg (by omega)]
  · show (if l = m then (1 : Int) else 0) = 0
    rw [if_neg (by omega)]
theorem cdU {w : Int} (hw : 0 ≤ w) : cd EU.1 w = w := by
  refine up_ind (P := fun w => cd EU.1 w = w) ?_ ?_ w hw
  · unfold cd; rw [sR_nil (by omega)]
  · intro k hk ih
    rw [cd_succ hk, ih]; rfl
theorem unit5 {l c : Int} (h0 : 0 ≤ l) (h1 : l < 5) (h2 : 0 ≤ c) (h3 : c < 5) : unitv (l * 5 + c) = if l = c then 1 else 0 := by
  unfold unitv
  rw [show (l * 5 + c) / 5 = l by omega, show (l * 5 + c) % 5 = c by omega]
/-- UNITS stands in every heap that is told -/
def UN (σ : SG) : Prop := ∀ j, 0 ≤ j → j < 25 → σ (-2) j = unitv j
theorem L_units_of {d pc : Nat} {M : MR} {ls st : List AV} {σ : SG} {Q : Int → SG → Prop} (h : UN σ → L d M pc ls st σ Q) : L d M pc ls st σ Q := by
  intro l g p e s m args below meth c H locs A cx hR hl hL hst
  refine h ?_ l g p e s m args below meth c H locs A cx hR hl hL hst
  intro j h0 h1
  obtain ⟨n, rfl⟩ := nat_of h0
  exact hR.1.2.2.2.1 n (by omega)
section ECC
variable {d : Nat} {σ : SG} {Q : Int → SG → Prop}
theorem Ec_copyFrom_s {e f p w : Int} {E : ES} (ho : obok 2 e) (hs : σ e 0 = stl e) (hw : w ≤ stl e) (hF : EC σ f p w E) (hef : e ≠ f) (hef1 : e ≠ f + 1) (hef2 : e + 1 ≠ f)
    (h : ∀ σ', EC σ' e p w E → Off (fun b j => (b = e ∧ 3 ≤ j ∧ j ≤ 6) ∨ b = e + 1) σ σ' → Q 0 σ') : Tri (d + 2) M_Ec_copyFrom [vA e, vA f] σ Q := by
  have hF0 := hF
  obtain ⟨a1, a2, a3, a4, a5, a6, a7, ⟨b1, b2, b3⟩, a9, hEW, hp⟩ := hF
  obtain ⟨k0, k1, n1, m1, k2, k3, k4, k5⟩ := ech_k a1
  obtain ⟨j0, j1, n2, m2, j2, j3, j4, j5⟩ := ech_k ho
  have hc := stl_c e
  have hc2 := stl_c f
  have hw2 := pw2 a6 (by omega)
  refine t_Ec_copyFrom ⟨a1, a1, ho, ?_⟩
  rw [a3, a4]
  refine Ec_begin_s ho hs hp a6 hw (fun s1 hE1 hO1 => ?_)
  obtain ⟨q1, q2, q3, q4, q5, q6, q7, q8, q9, q10, q11⟩ := hE1
  refine loop_up (P := fun l s => L (d + 2) M_Ec_copyFrom 14 [vA e, vA f, vI l] [] s Q)
    (fun l s => 0 ≤ l ∧ (∀ m c, 0 ≤ m → m < l → E.1 m = true → 0 ≤ c → c < w → s (e + 1) (m * stl e + c) = E.2 m c) ∧ (s e 0 = stl e ∧ s e 3 = p ∧ s e 4 = w) ∧ Off (fun b j => (b = e ∧ 3 ≤ j ∧ j ≤ 6) ∨ b = e + 1) σ s) w ?_ ?_ 0 a6 s1 ⟨by omega, fun m c _ _ => by omega, ⟨q2, q3, q4⟩, Off_mono hO1 (fun a k q => Or.inl q)⟩
  · rintro s ⟨_, hr, ⟨g0, g3, g4⟩, hO⟩
    have e5 : s f 5 = cd E.1 w := by rw [hO f 5 (by omega)]; exact a5
    have e6 : s f 6 = σ f 6 := hO f 6 (by omega)
    refine s_Ec_copyFrom_14 ⟨ho, fun _ => ⟨a1, ho, fun s2 es2 => ⟨a1, ho, fun s3 es3 => ?_⟩⟩, fun q => by omega⟩
    have e62 : s2 f 6 = σ f 6 := by rw [es2, up_ne (by omega)]; exact e6
    have hx : s3 = up (up s e 5 (cd E.1 w)) e 6 (σ f 6) := by rw [es3, e62, es2, e5]
    have hO3 : Off (fun b j => (b = e ∧ 3 ≤ j ∧ j ≤ 6) ∨ b = e + 1) σ s3 := by
      intro b j hb
      rw [hx, up_ne (by omega), up_ne (by omega)]; exact hO b j hb
    refine h s3 ⟨ho, by rw [hx, up_ne (by omega), up_ne (by omega)]; exact g0, by rw [hx, up_ne (by omega), up_ne (by omega)]; exact g3, by rw [hx, up_ne (by omega), up_ne (by omega)]; exact g4, by rw [hx, up_ne (by omega), up_same], a6, hw, by rw [hx, up_same]; exact ⟨b1, b2, b3⟩, fun l c r1 r2 r3 r4 r5 => ?_, hEW, hp⟩ hO3
    rw [hx, up_ne (by omega), up_ne (by omega)]
    exact hr l c r1 r2 r3 r4 r5
  · rintro l s hl ⟨hl0, hr, ⟨g0, g3, g4⟩, hO⟩ ih
    have e0 : s f 0 = stl f := by rw [hO f 0 (by omega)]; exact a2
    have hnext : ∀ s', (∀ m c, 0 ≤ m → m < l + 1 → E.1 m = true → 0 ≤ c → c < w → s' (e + 1) (m * stl e + c) = E.2 m c) → (s' e 0 = stl e ∧ s' e 3 = p ∧ s' e 4 = w) → Off (fun b j => (b = e ∧ 3 ≤ j ∧ j ≤ 6) ∨ b = e + 1) σ s' → L (d + 2) M_Ec_copyFrom 14 [vA e, vA f, vI (w32 (l + 1))] [] s' Q := by
      intro s' r1 r2 r3
      rw [w32_id (by omega) (by omega)]
      exact ih s' ⟨by omega, r1, r2, r3⟩
    have hFs : EC s f p w E := hF0.cg (fun k => hO f k (by omega)) (fun k => hO (f + 1) k (by omega))
    refine s_Ec_copyFrom_14 ⟨ho, fun q => by omega, fun _ => ⟨a1, ?_⟩⟩
    refine Ec_leadsAt_s hFs hl0 hl (fun hE => ⟨fun z => absurd z (by omega), fun _ => ⟨a1, a1, ho, ho, ho, ?_⟩⟩) (fun hE => ⟨fun _ => hnext s (fun m c r1 r2 r3 r4 r5 => ?_) ⟨g0, g3, g4⟩ hO, fun z => absurd rfl z⟩)
    · have hb1 := st_b (e := e) (l := l) (c := 0) hw hl0 hl (by omega) (by omega)
      have hb2 := st_b (e := f) (l := l) (c := 0) a7 hl0 hl (by omega) (by omega)
      rw [e0, g0, g4, w32_id (x := l * stl f) (by omega) (by omega), w32_id (x := l * stl e) (by omega) (by omega)]
      refine ⟨⟨by omega, by rw [j2], by rw [k2], by omega, by omega, by omega, by rw [k2]; simp only; omega, by rw [j2]; simp only; omega⟩, fun s6 e6 => hnext s6 (fun m c r1 r2 r3 r4 r5 => ?_) ⟨by rw [e6, cpy_ne (by omega)]; exact g0, by rw [e6, cpy_ne (by omega)]; exact g3, by rw [e6, cpy_ne (by omega)]; exact g4⟩ (fun b j hb => by rw [e6, cpy_ne (by omega)]; exact hO b j hb)⟩
      by_cases hml : m = l
      · subst hml
        rw [e6, cpy_in (by omega) (by omega), show m * stl f + (m * stl e + c - m * stl e) = m * stl f + c by omega, hO (f + 1) _ (by omega)]
        exact a9 m c r1 hl r3 r4 r5
      · rw [e6, cpy_ne ?_]
        · exact hr m c r1 (by omega) r3 r4 r5
        · have : m < l := by omega
          rcases stl_c e with hs5 | hs5 <;> rw [hs5] at hw ⊢ <;> omega
    · by_cases hml : m = l
      · subst hml; rw [hE] at r3; cases r3
      · exact hr m c r1 (by omega) r3 r4 r5
theorem Ec_beginWhole_s {e p w : Int} (ho : obok 2 e) (hs : σ e 0 = stl e) (hp : PR p) (hw0 : 0 ≤ w) (hw : w ≤ 5)
    (h : ∀ σ', EC σ' e p w EU → Off (fun b j => (b = e ∧ 3 ≤ j ∧ j ≤ 6) ∨ b = e + 1) σ σ' → Q 0 σ') : Tri (d + 2) M_Ec_beginWhole [vA e, vI p, vI w] σ Q := by
  obtain ⟨j0, j1, n2, m2, j2, j3, j4, j5⟩ := ech_k ho
  have hc := stl_c e
  have hp2 : 2 ≤ p := by unfold PR at hp; omega
  refine t_Ec_beginWhole (fun _ _ => ⟨ho, ?_⟩)
  rw [show min w 5 = w by omega]
  refine Ec_begin_s ho hs hp hw0 (by omega) (fun s1 hE1 hO1 => ?_)
  obtain ⟨q1, q2, q3, q4, q5, q6, q7, q8, q9, q10, q11⟩ := hE1
  refine loop_up (P := fun l s => L (d + 2) M_Ec_beginWhole 12 [vA e, vU, vU, vI l] [] s Q)
    (fun l s => 0 ≤ l ∧ (∀ m c, 0 ≤ m → m < l → 0 ≤ c → c < w → s (e + 1) (m * stl e + c) = if m = c then 1 else 0) ∧ (s e 0 = stl e ∧ s e 3 = p ∧ s e 4 = w) ∧ Off (fun b j => (b = e ∧ 3 ≤ j ∧ j ≤ 6) ∨ b = e + 1) σ s) w ?_ ?_ 0 hw0 s1 ⟨by omega, fun m c _ _ => by omega, ⟨q2, q3, q4⟩, Off_mono hO1 (fun a k q => Or.inl q)⟩
  · rintro s ⟨_, hr, ⟨g0, g3, g4⟩, hO⟩
    refine s_Ec_beginWhole_12 ⟨ho, fun _ => ⟨ho, ho, fun s2 es2 => ⟨ho, ho, fun s3 es3 => ?_⟩⟩, fun q => by omega⟩
    have e42 : s2 e 4 = w := by rw [es2, up_ne (by omega)]; exact g4
    have hpw := pow_pos' (p := 2) (k := w.toNat) (by omega)
    have hpw2 := pw2 hw0 (by omega)
    have hx : s3 = up (up s e 5 w) e 6 (2 ^ w.toNat - 1) := by
      rw [es3, e42, es2, g4, shl1 hw0 (by omega), w32_id (by omega) (by omega)]
    have hO3 : Off (fun b j => (b = e ∧ 3 ≤ j ∧ j ≤ 6) ∨ b = e + 1) σ s3 := by
      intro b j hb
      rw [hx, up_ne (by omega), up_ne (by omega)]; exact hO b j hb
    refine h s3 ⟨ho, by rw [hx, up_ne (by omega), up_ne (by omega)]; exact g0, by rw [hx, up_ne (by omega), up_ne (by omega)]; exact g3, by rw [hx, up_ne (by omega), up_ne (by omega)]; exact g4, by rw [hx, up_ne (by omega), up_same, cdU hw0], hw0, by omega, ?_, fun l c r1 r2 r3 r4 r5 => ?_, EWU hp2, hp⟩ hO3
    · rw [hx, up_same]
      refine ⟨by omega, by omega, fun l r1 r2 => ?_⟩
      rw [ones_bit hw0 (by omega) r1]
      show decide (l < w) = true
      simpa using r2
    · rw [hx, up_ne (by omega), up_ne (by omega)]
      exact hr l c r1 r2 r4 r5
  · rintro l s hl ⟨hl0, hr, ⟨g0, g3, g4⟩, hO⟩ ih
    refine L_units_of (fun hU => ?_)
    have hb1 := st_b (e := e) (l := l) (c := 0) (w := w) (by omega) hl0 hl (by omega) (by omega)
    refine s_Ec_beginWhole_12 ⟨ho, fun q => by omega, fun _ => ⟨ho, ho, ho, ?_⟩⟩
    rw [g0, g4, w32_id (x := l * 5) (by omega) (by omega), w32_id (x := l * stl e) (by omega) (by omega), w32_id (x := l + 1) (by omega) (by omega)]
    refine ⟨⟨by omega, by rw [j2], by rw [kd_m2], by omega, by omega, by omega, by rw [kd_m2]; simp only; omega, by rw [j2]; simp only; omega⟩, fun s4 e4 => ih s4 ⟨by omega, fun m c r1 r2 r4 r5 => ?_, ⟨by rw [e4, cpy_ne (by omega)]; exact g0, by rw [e4, cpy_ne (by omega)]; exact g3, by rw [e4, cpy_ne (by omega)]; exact g4⟩, fun b j hb => by rw [e4, cpy_ne (by omega)]; exact hO b j hb⟩⟩
    by_cases hml : m = l
    · subst hml
      rw [e4, cpy_in (by omega) (by omega), show m * 5 + (m * stl e + c - m * stl e) = m * 5 + c by omega, hU _ (by omega) (by omega)]
      exact unit5 r1 (by omega) r4 (by omega)
    · rw [e4, cpy_ne ?_]
      · exact hr m c r1 (by omega) r4 r5
      · have : m < l := by omega
        rcases stl_c e with hs5 | hs5 <;> rw [hs5] <;> omega
end ECC
