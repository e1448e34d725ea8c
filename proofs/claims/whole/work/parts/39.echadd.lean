/-! ===== the class's ECHELON: what comes, what is held ===== -/
theorem cpy_in {σ : SG} {src sp dst dp n k : Int} (h0 : dp ≤ k) (h1 : k < dp + n) : cpy σ src sp dst dp n dst k = σ src (sp + (k - dp)) := by unfold cpy; rw [if_pos ⟨rfl, h0, h1⟩]
theorem cpy_ne {σ : SG} {src sp dst dp n b k : Int} (h : b ≠ dst ∨ k < dp ∨ dp + n ≤ k) : cpy σ src sp dst dp n b k = σ b k := by unfold cpy; rw [if_neg (by omega)]
theorem rd_cg {p w : Int} {E : ES} {v v' : Int → Int} {c : Int} (h : ∀ c, 0 ≤ c → c < w → v c = v' c) (h0 : 0 ≤ c) (h1 : c < w) : rd p w E v c = rd p w E v' c := by
  unfold rd
  rw [h c h0 h1, sR_congr (fun l g1 g2 => by rw [h l g1 g2])]
theorem ild_cg {p w : Int} {E : ES} {v v' : Int → Int} (hw : 0 ≤ w) (h : ∀ c, 0 ≤ c → c < w → v c = v' c) : ild p w E v = ild p w E v' := ldw_cg hw (fun c h0 h1 => rd_cg h h0 h1)
section ECA
variable {d : Nat} {σ : SG} {Q : Int → SG → Prop}
theorem X_inverse_s {p x : Int} (hp : PR p) (h1 : 1 ≤ x) (h2 : x < p) (h : Q (iv p x) σ) : Tri (d + 1) M_X_inverse [vI x, vI p] σ Q := by
  have hp2 : 2 ≤ p ∧ p ≤ 7 := by unfold PR at hp; omega
  obtain ⟨i1, i2, i3⟩ := iv_s hp h1 h2
  refine t_X_inverse (fun _ _ => ?_)
  refine loop_up (S := Unit) (P := fun y _ => L (d + 1) M_X_inverse 2 [vI x, vI p, vI y] [] σ Q) (fun y _ => 1 ≤ y ∧ ∀ z, 1 ≤ z → z < y → x * z % p ≠ 1) p ?_ ?_ 1 (by omega) () ⟨by omega, fun z _ _ => by omega⟩
  · rintro _ ⟨_, hz⟩
    exact absurd i3 (hz _ i1 i2)
  · rintro y _ hy ⟨hy1, hz⟩ ih
    obtain ⟨m1, m2⟩ := mul_small (a := x) (b := y) (A := 7) (B := 7) (by omega) (by omega) (by omega) (by omega)
    refine s_X_inverse_2 ⟨fun q => by omega, fun _ => ?_⟩
    rw [w32_id (x := x * y) (by omega) (by omega), w32_id (x := y + 1) (by omega) (by omega), Int.tmod_eq_emod_of_nonneg m1]
    refine ⟨by omega, fun q => ih () ⟨by omega, fun z g1 g2 => ?_⟩, fun q => ?_⟩
    · by_cases hzy : z = y
      · subst hzy; exact q
      · exact hz z g1 (by omega)
    · rw [iv_u hp h1 h2 hy1 hy q]; exact h
theorem Ec_holds_s {e p w v f : Int} {E : ES} {len : Nat} (hE : EC σ e p w E) (hk : kd v = (100, len)) (hf : 0 ≤ f) (hfl : f + w ≤ (len : Int)) (hlen : len ≤ 5000) (hve : v ≠ e + 2) (hv : ∀ c, 0 ≤ c → c < w → 0 ≤ σ v (f + c) ∧ σ v (f + c) < p)
    (h1 : ∀ σ', ild p w E (fun c => σ v (f + c)) = w → Off (fun b j => b = e + 2) σ σ' → Q 1 σ') (h0 : ∀ σ', ild p w E (fun c => σ v (f + c)) < w → Off (fun b j => b = e + 2) σ σ' → Q 0 σ') : Tri (d + 2) M_Ec_holds [vA e, vA v, vI f] σ Q := by
  have hE0 := hE
  obtain ⟨a1, a2, a3, a4, a5, a6, a7, ⟨b1, b2, b3⟩, a9, hEW, hp⟩ := hE
  obtain ⟨k0, k1, n1, m1, k2, k3, k4, k5⟩ := ech_k a1
  have hc := stl_c e
  refine t_Ec_holds (fun _ => ⟨fun q => by omega, fun _ => ⟨a1, by rw [hk], fun _ => ⟨a1, a1, ⟨by omega, by rw [k3], by rw [hk], hf, by omega, by omega, by rw [hk, a4]; exact hfl, by rw [k3, a4]; simp only; omega⟩, fun s3 e3 => ⟨a1, a1, ?_⟩⟩, fun q => ?_⟩⟩)
  · rw [a4] at e3
    have hx : ∀ c, 0 ≤ c → c < w → s3 (e + 2) c = σ v (f + c) := fun c g1 g2 => by
      rw [e3, cpy_in (by omega) (by omega)]; congr 1; omega
    have hO3 : Off (fun b j => b = e + 2) σ s3 := fun b j hb => by rw [e3, cpy_ne (by omega)]
    have hE3 : EC s3 e p w E := hE0.cg (fun k => hO3 e k (by omega)) (fun k => hO3 (e + 1) k (by omega))
    refine Ec_reduce_s hE3 (by omega) k3 (by omega) (by omega) (by omega) (fun c g1 g2 => by rw [hx c g1 g2]; exact hv c g1 g2) (fun s4 g4 hO4 => ⟨a1, a1, ?_⟩)
    have hO4' : Off (fun b j => b = e + 2) σ s4 := Off_trans hO3 (Off_mono hO4 (fun a k q => q.1))
    have hE4 : EC s4 e p w E := hE0.cg (fun k => hO4' e k (by omega)) (fun k => hO4' (e + 1) k (by omega))
    have e4 : s4 e 4 = w := by rw [hO4' e 4 (by omega)]; exact a4
    have hld : ldw w (s4 (e + 2)) = ild p w E (fun c => σ v (f + c)) := by
      unfold ild
      exact ldw_cg a6 (fun c g1 g2 => by rw [g4 c g1 g2]; exact rd_cg hx g1 g2)
    obtain ⟨l1, l2, _, _⟩ := ldw_s a6 (rd p w E (fun c => σ v (f + c)))
    refine Ec_firstOf_s hE4 k3 (by omega) ⟨a1, fun q => h0 s4 ?_ hO4', fun q => h1 s4 ?_ hO4'⟩
    · rw [hld, e4] at q; exact q
    · rw [hld, e4] at q
      unfold ild at q ⊢
      omega
  · rw [hk, a4, w32_id (by omega) (by omega)] at q
    simp only at q
    omega
theorem ins_no {p w : Int} {E : ES} {v : Int → Int} (h : ¬ ild p w E v < w) : ins p w E v = E := by unfold ins; rw [if_neg h]
theorem ins_yes {p w : Int} {E : ES} {v : Int → Int} (h : ild p w E v < w) : ins p w E v = (fun l => E.1 l || decide (l = ild p w E v), fun l c => if l = ild p w E v then irow p w E v c else (E.2 l c - E.2 l (ild p w E v) * irow p w E v c) % p) := by unfold ins; rw [if_pos h]
theorem Ec_add_s {e p w v f : Int} {E : ES} {len : Nat} (hE : EC σ e p w E) (hk : kd v = (100, len)) (hf : 0 ≤ f) (hfl : f + w ≤ (len : Int)) (hlen : len ≤ 5000) (hve : v ≠ e + 2) (hv : ∀ c, 0 ≤ c → c < w → 0 ≤ σ v (f + c) ∧ σ v (f + c) < p)
    (h : ∀ r σ', EC σ' e p w (ins p w E (fun c => σ v (f + c))) → r = (if ild p w E (fun c => σ v (f + c)) < w then 1 else 0) → Off (fun b j => (b = e ∧ (j = 5 ∨ j = 6)) ∨ b = e + 1 ∨ b = e + 2) σ σ' → Q r σ') : Tri (d + 2) M_Ec_add [vA e, vA v, vI f] σ Q := by
  have hE0 := hE
  obtain ⟨a1, a2, a3, a4, a5, a6, a7, ⟨b1, b2, b3⟩, a9, hEW, hp⟩ := hE
  obtain ⟨k0, k1, n1, m1, k2, k3, k4, k5⟩ := ech_k a1
  have hc := stl_c e
  have hp2 : 2 ≤ p ∧ p ≤ 7 := by unfold PR at hp; omega
  have hw2 := pw2 a6 (by omega)
  refine t_Ec_add (fun _ => ⟨fun q => by omega, fun _ => ⟨a1, by rw [hk], fun _ => ⟨a1, a1, ⟨by omega, by rw [k3], by rw [hk], hf, by omega, by omega, by rw [hk, a4]; exact hfl, by rw [k3, a4]; simp only; omega⟩, fun s3 e3 => ⟨a1, a1, ?_⟩⟩, fun q => ?_⟩⟩)
  · rw [a4] at e3
    have hx : ∀ c, 0 ≤ c → c < w → s3 (e + 2) c = σ v (f + c) := fun c g1 g2 => by
      rw [e3, cpy_in (by omega) (by omega)]; congr 1; omega
    have hO3 : Off (fun b j => b = e + 2) σ s3 := fun b j hb => by rw [e3, cpy_ne (by omega)]
    have hE3 : EC s3 e p w E := hE0.cg (fun k => hO3 e k (by omega)) (fun k => hO3 (e + 1) k (by omega))
    generalize hV : (fun c => σ v (f + c)) = V at h
    have hx : ∀ c, 0 ≤ c → c < w → s3 (e + 2) c = V c := fun c g1 g2 => by rw [hx c g1 g2, ← hV]
    refine Ec_reduce_s hE3 (by omega) k3 (by omega) (by omega) (by omega) (fun c g1 g2 => by rw [hx c g1 g2, ← hV]; exact hv c g1 g2) (fun s4 g4 hO4 => ⟨a1, a1, ?_⟩)
    have g4 : ∀ c, 0 ≤ c → c < w → s4 (e + 2) c = rd p w E V c := fun c g1 g2 => by rw [g4 c g1 g2]; exact rd_cg hx g1 g2
    have hO4' : Off (fun b j => b = e + 2) σ s4 := Off_trans hO3 (Off_mono hO4 (fun a k q => q.1))
    have hE4 : EC s4 e p w E := hE0.cg (fun k => hO4' e k (by omega)) (fun k => hO4' (e + 1) k (by omega))
    have e4 : s4 e 4 = w := by rw [hO4' e 4 (by omega)]; exact a4
    have e3' : s4 e 3 = p := by rw [hO4' e 3 (by omega)]; exact a3
    have hld : ldw w (s4 (e + 2)) = ild p w E V := ldw_cg a6 (fun c g1 g2 => g4 c g1 g2)
    refine Ec_firstOf_s hE4 k3 (by omega) ?_
    rw [hld]
    refine ⟨a1, fun q => ?_, fun q => ?_⟩
    · -- the SPAN grows
      rw [e4] at q
      obtain ⟨l1, l2, l3, l4⟩ := ild_s a6 hEW q
      obtain ⟨c1, c2, c3, c4⟩ := irow_s hp a6 hEW q
      have hrd : ∀ c, 0 ≤ rd p w E V c ∧ rd p w E V c < p := fun c => rd_in (by omega)
      have hins := ins_yes (p := p) (w := w) (E := E) (v := V) q
      have hEWn := EW_ins (v := V) hp a6 hEW
      have hcdn := cd_ins (v := V) a6 hEW
      rw [if_pos q] at h hcdn
      generalize hLd : ild p w E V = Ld at *
      have hir : ∀ c, irow p w E V c = rd p w E V c * iv p (rd p w E V Ld) % p := fun c => by unfold irow; rw [hLd]
      generalize hu : irow p w E V = u at *
      have hivb := iv_s hp (show 1 ≤ rd p w E V Ld by have := hrd Ld; omega) (hrd Ld).2
      refine ⟨a1, rd_of k3 (by omega) (by omega), a1, ?_⟩
      rw [g4 Ld l1 q, e3']
      refine X_inverse_s hp (by have := hrd Ld; omega) (hrd Ld).2 ?_
      -- the new row, by one
      refine loop_up (P := fun c s => L (d + 2) M_Ec_add 76 [vA e, vU, vU, vI Ld, vI (iv p (rd p w E V Ld)), vI c, vU, vU] [] s Q)
        (fun c s => Ld ≤ c ∧ (∀ c', 0 ≤ c' → c' < c → s (e + 2) c' = u c') ∧ (∀ c', c ≤ c' → c' < w → s (e + 2) c' = rd p w E V c') ∧ Off (fun b j => b = e + 2) σ s) w ?_ ?_ Ld (by omega) s4 ⟨by omega, fun c' g1 g2 => by rw [g4 c' g1 (by omega), l4 c' g1 g2, c3 c' g1 g2], fun c' g1 g2 => g4 c' (by omega) g2, hO4'⟩
      · rintro s ⟨_, hs, _, hO⟩
        have e4 : s e 4 = w := by rw [hO e 4 (by omega)]; exact a4
        refine s_Ec_add_76 ⟨a1, fun _ => ?_, fun q => by omega⟩
        -- the rows above
        refine loop_up (P := fun l s => L (d + 2) M_Ec_add 118 [vA e, vU, vU, vI Ld, vU, vI l, vU, vU] [] s Q)
          (fun l t => 0 ≤ l ∧ (∀ c, 0 ≤ c → c < w → t (e + 2) c = u c) ∧ (∀ m c, 0 ≤ m → m < w → E.1 m = true → 0 ≤ c → c < w → t (e + 1) (m * stl e + c) = if m < l then (E.2 m c - E.2 m Ld * u c) % p else E.2 m c) ∧ Off (fun b j => b = e + 1 ∨ b = e + 2) σ t) Ld ?_ ?_ 0 l1 s ⟨by omega, hs, fun m c g1 g2 g3 g5 g6 => by rw [if_neg (by omega), hO (e + 1) _ (by omega)]; exact a9 m c g1 g2 g3 g5 g6, Off_mono hO (fun a k q => Or.inr q)⟩
        · rintro t ⟨_, ht, hr, hO2⟩
          have f0 : t e 0 = stl e := by rw [hO2 e 0 (by omega)]; exact a2
          have f4 : t e 4 = w := by rw [hO2 e 4 (by omega)]; exact a4
          have f5 : t e 5 = cd E.1 w := by rw [hO2 e 5 (by omega)]; exact a5
          have f6 : t e 6 = σ e 6 := hO2 e 6 (by omega)
          have f3 : t e 3 = p := by rw [hO2 e 3 (by omega)]; exact a3
          have hb := st_b (e := e) (l := Ld) (c := 0) a7 l1 q (by omega) (by omega)
          refine s_Ec_add_118 ⟨fun _ => ⟨a1, a1, a1, a1, ?_⟩, fun q => by omega⟩
          rw [f0, f4, w32_id (x := Ld * stl e) (by omega) (by omega)]
          refine ⟨⟨by omega, by rw [k2], by rw [k3], by omega, by omega, by omega, by rw [k3]; simp only; omega, by rw [k2]; simp only; omega⟩, fun t2 e2 => ⟨a1, a1, fun t3 et3 => ⟨a1, a1, fun t4 et4 => ?_⟩⟩⟩
          have n5 : t2 e 6 = σ e 6 := by rw [e2, cpy_ne (by omega)]; exact f6
          have ob := or_bit (m := σ e 6) (l := Ld) (w := w.toNat) (by omega) b1 b2 l1 (by omega)
          rw [n5] at et3
          obtain ⟨o1, o2, o3⟩ := ob
          have cb := cd_b (ℓ := E.1) a6
          have hx5 : t3 e 5 = cd E.1 w := by rw [et3, up_ne (by omega), e2, cpy_ne (by omega)]; exact f5
          rw [hx5, w32_id (by omega) (by omega)] at et4
          have hO4 : Off (fun b j => (b = e ∧ (j = 5 ∨ j = 6)) ∨ b = e + 1 ∨ b = e + 2) σ t4 := by
            intro b j hb
            rw [et4, up_ne (by omega), et3, up_ne (by omega), e2, cpy_ne (by omega)]
            exact hO2 b j (by omega)
          refine h 1 t4 ⟨a1, by rw [hO4 e 0 (by omega)]; exact a2, by rw [hO4 e 3 (by omega)]; exact a3, by rw [hO4 e 4 (by omega)]; exact a4, by rw [et4, up_same, hcdn], a6, a7, ?_, ?_, hEWn, hp⟩ rfl hO4
          · have e6 : t4 e 6 = or32 (σ e 6) (shl32 1 Ld) := by rw [et4, up_ne (by omega), et3, up_same]
            rw [e6]
            refine ⟨o1, o2, fun l g1 g2 => ?_⟩
            rw [o3 l g1, b3 l g1 g2, hins]
          · intro m c g1 g2 g3 g5 g6
            have er : t4 (e + 1) (m * stl e + c) = t2 (e + 1) (m * stl e + c) := by rw [et4, up_ne (by omega), et3, up_ne (by omega)]
            rw [er, hins]
            simp only
            have hbm := st_b (e := e) (l := m) (c := c) a7 g1 g2 g5 g6
            by_cases hm : m = Ld
            · subst hm
              rw [if_pos rfl, e2, cpy_in (by omega) (by omega), ← ht c g5 g6]
              congr 1; omega
            · have hEm : E.1 m = true := by
                rw [hins] at g3
                simp only [Bool.or_eq_true, decide_eq_true_eq] at g3
                rcases g3 with g | g
                · exact g
                · omega
              rw [if_neg hm, e2, cpy_ne ?_, hr m c g1 g2 hEm g5 g6]
              · by_cases hml : m < Ld
                · rw [if_pos hml]
                · rw [if_neg hml]
                  obtain ⟨r1, r2, r3, r4⟩ := hEW m g1 g2 hEm
                  rw [r3 Ld l1 (by omega), Int.zero_mul, Int.sub_zero]
                  have := r1 c g5 g6
                  exact (Int.emod_eq_of_lt (by omega) (by omega)).symm
              · rcases stl_c e with hs5 | hs5 <;> rw [hs5] <;> omega
        · rintro l t hl ⟨hl0, ht, hr, hO2⟩ ih2
          have f0 : t e 0 = stl e := by rw [hO2 e 0 (by omega)]; exact a2
          have f4 : t e 4 = w := by rw [hO2 e 4 (by omega)]; exact a4
          have f3 : t e 3 = p := by rw [hO2 e 3 (by omega)]; exact a3
          have hb := st_b (e := e) (l := l) (c := Ld) a7 hl0 (by omega) l1 q
          have hEt : EC t e p w E → True := fun _ => trivial
          have hnext : ∀ t', (∀ c, 0 ≤ c → c < w → t' (e + 2) c = u c) → (∀ m c, 0 ≤ m → m < w → E.1 m = true → 0 ≤ c → c < w → t' (e + 1) (m * stl e + c) = if m < l + 1 then (E.2 m c - E.2 m Ld * u c) % p else E.2 m c) → Off (fun b j => b = e + 1 ∨ b = e + 2) σ t' → L (d + 2) M_Ec_add 118 [vA e, vU, vU, vI Ld, vU, vI (w32 (l + 1)), vU, vU] [] t' Q := by
            intro t' g1 g2 g3
            rw [w32_id (by omega) (by omega)]
            exact ih2 t' ⟨by omega, g1, g2, g3⟩
          have hsame : (E.1 l = true → E.2 l Ld = 0) → L (d + 2) M_Ec_add 118 [vA e, vU, vU, vI Ld, vU, vI (w32 (l + 1)), vU, vU] [] t Q := by
            intro hz
            refine hnext t ht (fun m c g1 g2 g3 g5 g6 => ?_) hO2
            rw [hr m c g1 g2 g3 g5 g6]
            by_cases hml : m = l
            · subst hml
              rw [if_neg (by omega), if_pos (by omega), hz g3, Int.zero_mul, Int.sub_zero]
              have := (hEW m g1 g2 g3).1 c g5 g6
              exact (Int.emod_eq_of_lt (by omega) (by omega)).symm
            · by_cases g : m < l
              · rw [if_pos g, if_pos (by omega)]
              · rw [if_neg g, if_neg (by omega)]
          refine s_Ec_add_118 ⟨fun q => by omega, fun _ => ⟨a1, a1, ?_⟩⟩
          rw [f0, w32_id (x := l * stl e) (by omega) (by omega), w32_id (x := l * stl e + Ld) (by omega) (by omega)]
          refine ⟨rd_of k2 (by omega) (by omega), a1, ?_⟩
          have f6 : t e 6 = σ e 6 := hO2 e 6 (by omega)
          refine t_Ec_leadsAt (fun _ => ⟨a1, fun q2 => ⟨fun _ => ?_, fun z => absurd rfl z⟩, fun q2 => ⟨fun z => absurd z (by omega), fun _ => ?_⟩⟩)
          · rw [f6] at q2
            have hEl := (bit_eq b1 (by omega) hl0 (by omega)).mp q2
            rw [b3 l hl0 (by omega)] at hEl
            exact hsame (fun z => by rw [hEl] at z; cases z)
          · rw [f6] at q2
            have hEl := (bit_ne b1 (by omega) hl0 (by omega)).mp q2
            rw [b3 l hl0 (by omega)] at hEl
            have hrl := hr l Ld hl0 (by omega) hEl l1 q
            rw [if_neg (by omega)] at hrl
            rw [hrl]
            refine ⟨fun z => hsame (fun _ => z), fun z => ?_⟩
            obtain ⟨r1, r2, r3, r4⟩ := hEW l hl0 (by omega) hEl
            refine loop_up (P := fun c s => L (d + 2) M_Ec_add 157 [vA e, vU, vU, vI Ld, vU, vI l, vI (E.2 l Ld), vI c] [] s Q)
              (fun c t' => Ld ≤ c ∧ (∀ c, 0 ≤ c → c < w → t' (e + 2) c = u c) ∧ (∀ m c', 0 ≤ m → m < w → E.1 m = true → 0 ≤ c' → c' < w → t' (e + 1) (m * stl e + c') = if m < l ∨ (m = l ∧ c' < c) then (E.2 m c' - E.2 m Ld * u c') % p else E.2 m c') ∧ Off (fun b j => b = e + 1 ∨ b = e + 2) σ t') w ?_ ?_ Ld (by omega) t ⟨by omega, ht, fun m c' g1 g2 g3 g5 g6 => ?_, hO2⟩
            · rintro t' ⟨_, ht', hr', hO3⟩
              have e4 : t' e 4 = w := by rw [hO3 e 4 (by omega)]; exact a4
              refine s_Ec_add_157 ⟨a1, fun _ => hnext t' ht' (fun m c g1 g2 g3 g5 g6 => ?_) hO3, fun q => by omega⟩
              rw [hr' m c g1 g2 g3 g5 g6]
              by_cases g : m < l + 1
              · rw [if_pos g, if_pos (by omega)]
              · rw [if_neg g, if_neg (by omega)]
            · rintro c t' hc2 ⟨hc0, ht', hr', hO3⟩ ih3
              have e4 : t' e 4 = w := by rw [hO3 e 4 (by omega)]; exact a4
              have e0 : t' e 0 = stl e := by rw [hO3 e 0 (by omega)]; exact a2
              have e3 : t' e 3 = p := by rw [hO3 e 3 (by omega)]; exact a3
              have hbc := st_b (e := e) (l := l) (c := c) a7 hl0 (by omega) (by omega) hc2
              have hrc := hr' l c hl0 (by omega) hEl (by omega) hc2
              rw [if_neg (by omega)] at hrc
              have hE2 := r1 c (by omega) hc2
              have hE3 := r1 Ld l1 q
              have hu1 := c1 c
              obtain ⟨m2, m3⟩ := mul_small (a := E.2 l Ld) (b := u c) (A := 7) (B := 7) (by omega) (by omega) (by omega) (by omega)
              refine s_Ec_add_157 ⟨a1, fun q => by omega, fun _ => ⟨a1, a1, a1, a1, ?_⟩⟩
              rw [e0, w32_id (x := l * stl e) (by omega) (by omega), w32_id (x := l * stl e + c) (by omega) (by omega), hrc, ht' c (by omega) hc2, e3, w32_id (x := E.2 l Ld * u c) (by omega) (by omega), w32_id (x := E.2 l c - E.2 l Ld * u c) (by omega) (by omega), w32_id (x := c + 1) (by omega) (by omega)]
              refine ⟨rd_of k2 (by omega) (by omega), a1, rd_of k3 (by omega) (by omega), a1, X_mod_s (by omega) ⟨wr_of (by omega) k2 (by omega) (by omega), fun t3 et3 => ih3 t3 ⟨by omega, fun c' g1 g2 => ?_, fun m c' g1 g2 g3 g5 g6 => ?_, ?_⟩⟩⟩
              · rw [et3, up_ne (by omega)]; exact ht' c' g1 g2
              · by_cases hmc : m = l ∧ c' = c
                · rw [hmc.1, hmc.2, et3, up_same, if_pos (by omega)]
                · have hne := st_ne (e := e) a7 g1 g2 g5 g6 hl0 (show l < w by omega) (show 0 ≤ c by omega) hc2
                  rw [et3, up_ne (Or.inr (fun z => hmc (hne.mp z))), hr' m c' g1 g2 g3 g5 g6]
                  by_cases g : m < l ∨ (m = l ∧ c' < c)
                  · rw [if_pos g, if_pos (by omega)]
                  · rw [if_neg g, if_neg (by omega)]
              · intro b j hb
                rw [et3, up_ne (by omega)]; exact hO3 b j hb
            · rw [hr m c' g1 g2 g3 g5 g6]
              by_cases g : m < l
              · rw [if_pos g, if_pos (by omega)]
              · rw [if_neg g]
                by_cases g7 : m = l ∧ c' < Ld
                · rw [if_pos (Or.inr g7), c3 c' g5 g7.2, Int.mul_zero, Int.sub_zero]
                  have := (hEW m g1 g2 g3).1 c' g5 g6
                  exact (Int.emod_eq_of_lt (by omega) (by omega)).symm
                · rw [if_neg (by omega)]
      · rintro c s hc2 ⟨hc0, hs, hs2, hO⟩ ih
        have e4 : s e 4 = w := by rw [hO e 4 (by omega)]; exact a4
        have e3 : s e 3 = p := by rw [hO e 3 (by omega)]; exact a3
        have hr1 := hrd c
        obtain ⟨m2, m3⟩ := mul_small (a := rd p w E V c) (b := iv p (rd p w E V Ld)) (A := 7) (B := 7) (by omega) (by omega) (by omega) (by omega)
        refine s_Ec_add_76 ⟨a1, fun q => by omega, fun _ => ⟨a1, a1, rd_of k3 (by omega) (by omega), a1, ?_⟩⟩
        rw [hs2 c (by omega) hc2, e3, w32_id (x := rd p w E V c * iv p (rd p w E V Ld)) (by omega) (by omega), w32_id (x := c + 1) (by omega) (by omega)]
        refine X_mod_s (by omega) ⟨wr_of (by omega) k3 (by omega) (by omega), fun s3 es3 => ih s3 ⟨by omega, fun c' g1 g2 => ?_, fun c' g1 g2 => ?_, fun b j hb => ?_⟩⟩
        · by_cases hcc : c' = c
          · subst hcc; rw [es3, up_same, hir]
          · rw [es3, up_ne (by omega)]; exact hs c' g1 (by omega)
        · rw [es3, up_ne (by omega)]; exact hs2 c' (by omega) g2
        · rw [es3, up_ne (by omega)]; exact hO b j hb
    · -- nothing new
      rw [e4] at q
      refine h 0 s4 ?_ (by rw [if_neg (by omega)]) (Off_mono hO4' (fun a k q => Or.inr (Or.inr q)))
      rw [ins_no (by omega)]
      exact hE4
  · rw [hk, a4, w32_id (by omega) (by omega)] at q
    simp only at q
    omega
end ECA
