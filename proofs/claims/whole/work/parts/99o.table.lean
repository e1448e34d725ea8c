/-! ===== calls: many, constant, put, bracket, lawful, keep, take ===== -/
section CTB
variable {d : Nat} {σ : SG} {Q : Int → SG → Prop} {c : Int → Int}
/-- loops of the model over what it asks -/
theorem R_many_l {n p : Int} {T : Int → Int} (hR : RW σ p n T) (h : Q (cnt n T) σ) : L (d + 3) M_R_many 62 [vA 161, vI 2, vI 0, vI 0, vU, vU] [] σ Q := by
  obtain ⟨b1, b2, b3, b4⟩ := hR.1.1.b
  have e27 := hR.2.2.1
  refine loop_up (P := fun i c => L (d + 3) M_R_many 62 [vA 161, vI 2, vI c, vI i, vU, vU] [] σ Q) (fun i c => 0 ≤ i ∧ c = sR (fun i => sR (fun j => sR (fun k => if T (25 * i + 5 * j + k) = 0 then 0 else 1) 0 n) (i + 1) n) 0 i) n ?_ ?_ 0 (by omega) 0 ⟨by omega, by rw [sR_nil (by omega)]⟩
  · rintro c ⟨_, rfl⟩
    exact s_R_many_62 ⟨fun _ => ⟨fun _ => h, fun q => by omega⟩, fun q => by omega⟩
  · rintro i c hi ⟨hi0, rfl⟩ ih
    have hb1 := cnt1 (T := T) (m := i) (n := n) (by omega) (by omega)
    refine s_R_many_62 ⟨fun q => by omega, fun _ => ?_⟩
    rw [w32_id (x := i + 1) (by omega) (by omega)]
    generalize hC : sR (fun i => sR (fun j => sR (fun k => if T (25 * i + 5 * j + k) = 0 then 0 else 1) 0 n) (i + 1) n) 0 i = C at hb1 ih ⊢
    refine loop_up (P := fun j c => L (d + 3) M_R_many 75 [vA 161, vI 2, vI c, vI i, vI j, vU] [] σ Q) (fun j c => i + 1 ≤ j ∧ c = C + sR (fun j => sR (fun k => if T (25 * i + 5 * j + k) = 0 then 0 else 1) 0 n) (i + 1) j) n ?_ ?_ (i + 1) (by omega) C ⟨by omega, by rw [sR_nil (by omega)]; omega⟩
    · rintro c ⟨_, rfl⟩
      refine s_R_many_75 ⟨fun _ => ?_, fun q => by omega⟩
      rw [w32_id (x := i + 1) (by omega) (by omega)]
      exact ih _ ⟨by omega, by rw [sR_succ hi0, hC]⟩
    · rintro j c hj ⟨hj0, rfl⟩ ih2
      have hb2 := cnt2 (T := T) (i := i) (m := j) (n := n) hi0 (by omega) (by omega)
      refine s_R_many_75 ⟨fun q => by omega, fun _ => ?_⟩
      generalize hE : sR (fun j => sR (fun k => if T (25 * i + 5 * j + k) = 0 then 0 else 1) 0 n) (i + 1) j = E at hb2 ih2 ⊢
      refine loop_up (P := fun k c => L (d + 3) M_R_many 87 [vA 161, vI 2, vI c, vI i, vI j, vI k] [] σ Q) (fun k c => 0 ≤ k ∧ c = C + E + sR (fun k => if T (25 * i + 5 * j + k) = 0 then 0 else 1) 0 k) n ?_ ?_ 0 (by omega) (C + E) ⟨by omega, by rw [sR_nil (by omega)]; omega⟩
      · rintro c ⟨_, rfl⟩
        refine s_R_many_87 ⟨fun _ => ?_, fun q => by omega⟩
        rw [w32_id (x := j + 1) (by omega) (by omega)]
        exact ih2 _ ⟨by omega, by rw [sR_succ hj0, hE]; omega⟩
      · rintro k c hk ⟨hk0, rfl⟩ ih3
        have hb3 := cnt3 (T := T) (i := i) (j := j) (m := k) (by omega)
        refine s_R_many_87 ⟨fun q => by omega, fun _ => ?_⟩
        refine R_table_s hR ⟨by omega, by omega⟩ ⟨by omega, by omega⟩ ⟨by omega, by omega⟩ ⟨fun q => ?_, fun q => ?_⟩
        · rw [w32_id (x := k + 1) (by omega) (by omega), w32_id (by omega) (by omega)]
          exact ih3 _ ⟨by omega, by rw [sR_succ hk0, if_neg q]; omega⟩
        · rw [w32_id (x := k + 1) (by omega) (by omega), w32_id (by omega) (by omega)]
          exact ih3 _ ⟨by omega, by rw [sR_succ hk0, if_pos q]; omega⟩
/-- which SHELVES hold something -/
def hset (c : Int → Int) : Nat → Int
  | 0 => 0
  | k + 1 => if c (127 * ((k : Int) + 1)) = 0 then or32 (hset c k) 0 else or32 (hset c k) (shl32 1 k)
theorem De_heldSet_s (hK : KC σ 6 c) (h : Q (hset c 4) σ) : Tri (d + 1) M_De_heldSet [vA 6] σ Q := by
  have lp : ∀ (m k : Nat), k + m = 4 → L (d + 1) M_De_heldSet 4 [vA 6, vI (hset c k), vI (k : Int)] [] σ Q := by
    intro m
    induction m with
    | zero => intro k hk; rw [show k = 4 by omega]; exact s_De_heldSet_4 ⟨fun _ => h, fun y => by omega⟩
    | succ m ih =>
      intro k hk
      have nx := ih (k + 1) (by omega)
      have e : hset c (k + 1) = if c (127 * ((k : Int) + 1)) = 0 then or32 (hset c k) 0 else or32 (hset c k) (shl32 1 k) := rfl
      refine s_De_heldSet_4 ⟨fun y => by omega, fun _ => ⟨ob_6, rd_of kd_9 (by omega) (by omega), ?_⟩⟩
      rw [sh_e, (hK.2 ((k : Int) + 1) (by omega) (by omega)).1, w32_id (x := (k : Int) + 1) (by omega) (by omega)]
      refine ⟨ob_sh (by omega) (by omega), fun y => ?_, fun y => ?_⟩
      · have y' : c (127 * ((k : Int) + 1)) = 0 := by
          by_cases g : c (127 * ((k : Int) + 1)) = 0
          · exact g
          · rw [if_neg g] at y; omega
        rw [e, if_pos y'] at nx; exact nx
      · have y' : ¬ c (127 * ((k : Int) + 1)) = 0 := fun g => by rw [if_pos g] at y; exact y rfl
        rw [e, if_neg y'] at nx; exact nx
  exact t_De_heldSet (lp 4 0 rfl)
theorem R_held_l (hM : KM σ 0 c) (h : Q (hset c 4) σ) : L (d + 1) M_R_many 141 [vA 161, vU, vI 0, vI 0, vU, vU] [] σ Q := by
  have lp : ∀ (m k : Nat), k + m = 4 → L (d + 1) M_R_many 141 [vA 161, vU, vI (hset c k), vI (k : Int), vU, vU] [] σ Q := by
    intro m
    induction m with
    | zero => intro k hk; rw [show k = 4 by omega]; exact s_R_many_141 ⟨fun _ => h, fun y => by omega⟩
    | succ m ih =>
      intro k hk
      have nx := ih (k + 1) (by omega)
      have e : hset c (k + 1) = if c (127 * ((k : Int) + 1)) = 0 then or32 (hset c k) 0 else or32 (hset c k) (shl32 1 k) := rfl
      refine s_R_many_141 ⟨fun y => by omega, fun _ => ?_⟩
      rw [w32_id (x := (k : Int) + 1) (by omega) (by omega), w32_id (x := 127 * ((k : Int) + 1)) (by omega) (by omega), KM_at hM (j := 127 * ((k : Int) + 1)) (by omega) (by omega)]
      refine ⟨⟨by omega, by omega⟩, fun y => ?_, fun y => ?_⟩
      · rw [e, if_neg y] at nx; exact nx
      · rw [e, if_pos y] at nx; exact nx
  exact lp 4 0 rfl
theorem c_many {x : Int} (hI : IVT σ) : CAL d M_X_many M_R_many [vI x] σ := by
  obtain ⟨c, hK, hM, hD, hS⟩ := hI.2.2.1
  have hW := WD7 hK hD
  obtain ⟨b1, b2, b3, b4⟩ := hW.pn.b
  have hn7 : nrm σ 7 1 = c 0 ∧ nrm σ 7 2 = c 1 := ⟨hW.2.1, hW.2.2.1⟩
  refine Tri_n (t_X_many (fun _ => ⟨fun z => t_X_fail (fun _ t e => ?_), fun z => t_X_answer (fun _ t e => ?_), fun z => t_X_answer (fun _ t e => ?_), fun z => Wd_countCells_s hW.1 (by rw [hW.2.2.1]; omega) (t_X_answer (fun _ t e => ?_)), fun z => De_heldSet_s (KC_n hK rfl) (t_X_answer (fun _ t e => ?_))⟩))
  · have hx := QXm hI e
    refine t_R_many (fun _ t3 e3 t4 e4 => R_now e3 e4 (KM_qx hM hx) hD (fun t5 hR hO h0 hM5 => R_isIn_s (fun y1 y2 => by omega) (fun _ => ⟨fun y => absurd rfl y, fun _ => R_ref (fun t6 h6 hO6 => ⟨rfl, IVT_q hI hx (Off_trans hO hO6) h6⟩)⟩)))
  · have hx := QXm hI e
    refine t_R_many (fun _ t3 e3 t4 e4 => R_now e3 e4 (KM_qx hM hx) hD (fun t5 hR hO h0 hM5 => R_isIn_s (fun y1 y2 => ⟨fun _ => ⟨fun y => by omega, fun _ => ⟨fun y => absurd z y, fun _ => ⟨by rw [hn7.1, hR.2.1], IVT_q hI hx hO h0⟩⟩⟩, fun y => by omega⟩) (fun y => by omega)))
  · have hx := QXm hI e
    refine t_R_many (fun _ t3 e3 t4 e4 => R_now e3 e4 (KM_qx hM hx) hD (fun t5 hR hO h0 hM5 => R_isIn_s (fun y1 y2 => ⟨fun _ => ⟨fun y => by omega, fun _ => ⟨fun _ => ⟨by rw [hn7.2, hR.2.2.1], IVT_q hI hx hO h0⟩, fun y => by omega⟩⟩, fun y => by omega⟩) (fun y => by omega)))
  · have hx := QXm hI e
    refine t_R_many (fun _ t3 e3 t4 e4 => R_now e3 e4 (KM_qx hM hx) hD (fun t5 hR hO h0 hM5 => R_isIn_s (fun y1 y2 => ⟨fun _ => ⟨fun _ => ⟨fun y => absurd z y, fun _ => ?_⟩, fun y => by omega⟩, fun y => by omega⟩) (fun y => by omega)))
    rw [z]
    refine R_many_l hR ⟨?_, IVT_q hI hx hO h0⟩
    rw [hn7.2, show nrm σ (7 + 1) = TBc c 0 from hW.2.2.2.1]
  · have hx := QXm hI e
    refine t_R_many (fun _ t3 e3 t4 e4 => R_now e3 e4 (KM_qx hM hx) hD (fun t5 hR hO h0 hM5 => R_isIn_s (fun y1 y2 => ⟨fun _ => ⟨fun _ => ⟨fun _ => ⟨fun y => absurd z y, fun _ => R_held_l hM5 ⟨rfl, IVT_q hI hx hO h0⟩⟩, fun y => by omega⟩, fun y => by omega⟩, fun y => by omega⟩) (fun y => by omega)))
theorem X_isBase_s {x n : Int} (hn : σ 7 2 = n) (h1 : 0 ≤ x → x < n → Q 1 σ) (h0 : (x < 0 ∨ n ≤ x) → Q 0 σ) : Tri (d + 1) M_X_isBase [vA 0, vI x] σ Q := by
  refine t_X_isBase (fun _ => ⟨fun z => h0 (Or.inl z), fun z => ?_⟩)
  rw [hn]
  exact ⟨fun y => h0 (Or.inr y), fun y => h1 z y⟩
theorem X_isVector_s {x p n : Int} {T : Int → Int} (hW : WD σ 7 p n T) (h1 : 0 ≤ x → x < p ^ n.toNat → Q 1 σ) (h0 : (x < 0 ∨ p ^ n.toNat ≤ x) → Q 0 σ) : Tri (d + 3) M_X_isVector [vA 0, vJ x] σ Q := by
  refine t_X_isVector (fun _ => ⟨fun z => h0 (Or.inl (cmp3_lt.mp z)), fun z => Wd_vectors_s hW.1 (by rw [hW.2.1, hW.2.2.1]; exact hW.pn) ?_⟩)
  rw [hW.2.1, hW.2.2.1]
  exact ⟨fun y => h0 (Or.inr (cmp3_ge.mp y)), fun y => h1 (cmp3_ge.mp z) (cmp3_lt.mp y)⟩
theorem c_constant {x1 x2 x3 : Int} (hI : IVT σ) : CAL d M_X_constant M_R_constant [vI x1, vI x2, vI x3] σ := by
  obtain ⟨c, hK, hM, hD, hS⟩ := hI.2.2.1
  have hW := WD7 hK hD
  obtain ⟨b1, b2, b3, b4⟩ := hW.pn.b
  have hn := hW.2.2.1
  have ref : ¬ ((0 ≤ x1 ∧ x1 < c 1) ∧ (0 ≤ x2 ∧ x2 < c 1) ∧ 0 ≤ x3 ∧ x3 < c 1) → Tri (d + 29) M_X_fail [vA 0, vI 2] (nrm σ) (fun r u => Tri (d + 30) M_R_constant [vA 161, vI x1, vI x2, vI x3] u (fun r2 u2 => r = r2 ∧ IVT u2)) := fun hno => t_X_fail (fun _ t e => by
    have hx := QXm hI e
    refine t_R_constant (fun _ _ _ t3 e3 t4 e4 => R_now e3 e4 (KM_qx hM hx) hD (fun t5 hR hO h0 hM5 => ?_))
    have rf : Tri (d + 29) M_R_refuse [vA 161, vI 2] t5 (fun r6 σ6 => -1 = r6 ∧ IVT σ6) := R_ref (fun t6 h6 hO6 => ⟨rfl, IVT_q hI hx (Off_trans hO hO6) h6⟩)
    exact R_isBase_s hR (fun y1 y2 => ⟨fun y => by omega, fun _ => R_isBase_s hR (fun y3 y4 => ⟨fun y => by omega, fun _ => R_isBase_s hR (fun y5 y6 => absurd ⟨⟨y1, y2⟩, ⟨y3, y4⟩, y5, y6⟩ hno) (fun _ => ⟨fun _ => rf, fun y => absurd rfl y⟩)⟩) (fun _ => ⟨fun _ => rf, fun y => absurd rfl y⟩)⟩) (fun _ => ⟨fun _ => rf, fun y => absurd rfl y⟩))
  refine Tri_n (t_X_constant (fun _ _ _ => X_isBase_s hn (fun y1 y2 => ⟨fun y => by omega, fun _ => X_isBase_s hn (fun y3 y4 => ⟨fun y => by omega, fun _ => X_isBase_s hn (fun y5 y6 => ⟨fun _ => Wd_cell_s hW.1 (by rw [hn]; omega) (by rw [hn]; exact ⟨y1, y2⟩) (by rw [hn]; exact ⟨y3, y4⟩) (by rw [hn]; exact ⟨y5, y6⟩) (t_X_answer (fun _ t e => ?_)), fun y => by omega⟩) (fun w => ⟨fun y => absurd rfl y, fun _ => ref (by omega)⟩)⟩) (fun w => ⟨fun _ => ref (by omega), fun y => absurd rfl y⟩)⟩) (fun w => ⟨fun _ => ref (by omega), fun y => absurd rfl y⟩)))
  have hx := QXm hI e
  refine t_R_constant (fun _ _ _ t3 e3 t4 e4 => R_now e3 e4 (KM_qx hM hx) hD (fun t5 hR hO h0 hM5 => ?_))
  refine R_isBase_s hR (fun _ _ => ⟨fun y => by omega, fun _ => R_isBase_s hR (fun _ _ => ⟨fun y => by omega, fun _ => R_isBase_s hR (fun _ _ => ⟨fun y => by omega, fun _ => R_table_s hR ⟨y1, by omega⟩ ⟨y3, by omega⟩ ⟨y5, by omega⟩ ⟨?_, IVT_q hI hx hO h0⟩⟩) (fun w => by omega)⟩) (fun w => by omega)⟩) (fun w => by omega)
  rw [show nrm σ (7 + 1) = TBc c 0 from hW.2.2.2.1]
theorem c_lawful (hI : IVT σ) : CAL d M_X_lawful M_R_lawful [] σ := by
  obtain ⟨c, hK, hM, hD, hS⟩ := hI.2.2.1
  have hW := WD7 hK hD
  refine Tri_n (t_X_lawful (Wd_firstBreak_s hW.wc (fun r hr => ?_)))
  rw [hW.2.1, hW.2.2.1, hW.2.2.2.1] at hr
  have hl := FB_lawf hr
  have lw : ∀ {t t2 : SG}, Off (fun b j => (175 ≤ b ∧ b ≤ 178) ∨ b = 186) t t2 → Off DR t t2 := fun h => Off_mono h (fun b j w => by unfold DR; omega)
  refine ⟨fun z => t_X_answer (fun _ t e => ?_), fun z => t_X_answer (fun _ t e => ?_)⟩
  · have hx := QXm hI e
    exact t_R_lawful (fun t3 e3 t4 e4 => R_now e3 e4 (KM_qx hM hx) hD (fun t5 hR hO h0 hM5 => R_isLawful_s hR (fun w => by have := hl.mpr w; omega) (fun w t6 hO6 => ⟨fun _ => ⟨rfl, IVT_q hI hx (Off_trans hO (lw hO6)) ((hO6 161 0 (by omega)).trans h0)⟩, fun y => absurd rfl y⟩)))
  · have hx := QXm hI e
    exact t_R_lawful (fun t3 e3 t4 e4 => R_now e3 e4 (KM_qx hM hx) hD (fun t5 hR hO h0 hM5 => R_isLawful_s hR (fun w t6 hO6 => ⟨fun y => by omega, fun _ => ⟨rfl, IVT_q hI hx (Off_trans hO (lw hO6)) ((hO6 161 0 (by omega)).trans h0)⟩⟩) (fun w => absurd (hl.mp z) w)))
/-- a call that changes the WORLD or a SHELF, both halves -/
theorem IVT_2 {t1 t2 : SG} {c' : Int → Int} (hI : IVT σ) (hO1 : OffN (fun b j => (b = 0 ∧ j = 0) ∨ b = 4 ∨ b = 5 ∨ (7 ≤ b ∧ b ≤ 8) ∨ (13 ≤ b ∧ b ≤ 20) ∨ (39 ≤ b ∧ b ≤ 113)) σ t1) (hO2 : Off (fun b j => DR b j ∨ (b = 166 ∧ 0 ≤ j ∧ j < 635)) t1 t2) (hK : KC t1 6 c') (hM : KM t2 0 c') (hD : DC c') (hS : ST t1) (h0 : t1 0 0 = 0) (h1 : t2 161 0 = 0) : IVT t2 := by
  have e : ∀ b j, ¬ (DR b j ∨ (b = 166 ∧ 0 ≤ j ∧ j < 635)) → ¬ ((b = 0 ∧ j = 0) ∨ b = 4 ∨ b = 5 ∨ (7 ≤ b ∧ b ≤ 8) ∨ (13 ≤ b ∧ b ≤ 20) ∨ (39 ≤ b ∧ b ≤ 113)) → t2 b j = σ b j := fun b j q1 q2 => by rw [hO2 b j q1]; exact hO1 b j q2 (Or.inl (by omega))
  refine IVT_w hI (fun b j q => e b j (by unfold PR0 at q; unfold DR; omega) (by unfold PR0 at q; omega)) (fun j j0 j1 => ⟨e 10 j (by unfold DR; omega) (by omega), e 11 j (by unfold DR; omega) (by omega)⟩) (fun j j0 j1 => e 166 j (by unfold DR; omega) (by omega)) (hK.off (OffN_of hO2) (fun b j q1 q2 => by unfold DR; omega)) hM hD (hS.off hO2 (fun x hx => by have := ech_list hx; unfold DR; omega)) ?_
  rw [hO2 0 0 (by unfold DR; omega), h0, h1]
theorem KM_nx {t : SG} {D : Int → Int → Prop} (hM : KM σ 0 c) (hO : OffN D σ t) (hD : ∀ j, ¬ D 166 j) : KM t 0 c := hM.fr (fun j => hO 166 j (hD j) (by omega))
theorem c_put {x1 x2 x3 x4 : Int} (hI : IVT σ) : CAL d M_X_put M_R_put [vI x1, vI x2, vI x3, vI x4] σ := by
  obtain ⟨c, hK, hM, hD, hS⟩ := hI.2.2.1
  have hW := WD7 hK hD
  obtain ⟨b1, b2, b3, b4⟩ := hW.pn.b
  have hn := hW.2.2.1
  have hT := hW.2.2.2.2
  have r2 : ¬ ((0 ≤ x1 ∧ x1 < c 1) ∧ (0 ≤ x2 ∧ x2 < c 1) ∧ 0 ≤ x3 ∧ x3 < c 1) → Tri (d + 29) M_X_refuse [vA 0, vI 2] (nrm σ) (fun r u => (r = 0 ∨ r = 1) ∧ Tri (d + 30) M_R_put [vA 161, vI x1, vI x2, vI x3, vI x4] u (fun r2 u2 => r = r2 ∧ IVT u2)) := fun hno => X_rf (fun t e => by
    have hx := QXm hI e
    refine t_R_put (fun _ _ _ _ t3 e3 t4 e4 => R_now e3 e4 (KM_qx hM hx) hD (fun t5 hR hO h0 hM5 => ?_))
    have rf : Tri (d + 29) M_R_no [vA 161, vI 2] t5 (fun r6 σ6 => (r6 = 0 ∨ r6 = 1) ∧ 0 = r6 ∧ IVT σ6) := R_nr (fun t6 h6 hO6 => ⟨rfl, IVT_q hI hx (Off_trans hO hO6) h6⟩)
    exact R_isBase_s hR (fun y1 y2 => ⟨fun y => by omega, fun _ => R_isBase_s hR (fun y3 y4 => ⟨fun y => by omega, fun _ => R_isBase_s hR (fun y5 y6 => absurd ⟨⟨y1, y2⟩, ⟨y3, y4⟩, y5, y6⟩ hno) (fun _ => ⟨fun y => absurd rfl y, fun _ => rf⟩)⟩) (fun _ => ⟨fun _ => rf, fun y => absurd rfl y⟩)⟩) (fun _ => ⟨fun _ => rf, fun y => absurd rfl y⟩))
  have r5 : ((0 ≤ x1 ∧ x1 < c 1) ∧ (0 ≤ x2 ∧ x2 < c 1) ∧ 0 ≤ x3 ∧ x3 < c 1) → (x2 ≤ x1 ∨ x4 < 0 ∨ c 0 ≤ x4) → Tri (d + 29) M_X_refuse [vA 0, vI 5] (nrm σ) (fun r u => (r = 0 ∨ r = 1) ∧ Tri (d + 30) M_R_put [vA 161, vI x1, vI x2, vI x3, vI x4] u (fun r2 u2 => r = r2 ∧ IVT u2)) := fun hy hno => X_rf (fun t e => by
    have hx := QXm hI e
    refine t_R_put (fun _ _ _ _ t3 e3 t4 e4 => R_now e3 e4 (KM_qx hM hx) hD (fun t5 hR hO h0 hM5 => ?_))
    have rf : Tri (d + 29) M_R_no [vA 161, vI 5] t5 (fun r6 σ6 => (r6 = 0 ∨ r6 = 1) ∧ 0 = r6 ∧ IVT σ6) := R_nr (fun t6 h6 hO6 => ⟨rfl, IVT_q hI hx (Off_trans hO hO6) h6⟩)
    refine R_isBase_s hR (fun y1 y2 => ⟨fun y => by omega, fun _ => R_isBase_s hR (fun y3 y4 => ⟨fun y => by omega, fun _ => R_isBase_s hR (fun y5 y6 => ⟨fun _ => ⟨fun _ => rf, fun w => ?_⟩, fun y => by omega⟩) (fun w => by omega)⟩) (fun w => by omega)⟩) (fun w => by omega)
    rw [hR.2.1, w32_id (x := c 0 - 1) (by omega) (by omega)]
    exact R_isIn_s (fun u1 u2 => by omega) (fun _ => ⟨fun y => absurd rfl y, fun _ => rf⟩))
  refine Tri_n (t_X_put (fun _ _ _ _ => X_isBase_s hn (fun y1 y2 => ⟨fun y => by omega, fun _ => X_isBase_s hn (fun y3 y4 => ⟨fun y => by omega, fun _ => X_isBase_s hn (fun y5 y6 => ⟨fun _ => ⟨fun w => r5 ⟨⟨y1, y2⟩, ⟨y3, y4⟩, y5, y6⟩ (Or.inl w), fun w => ⟨fun w2 => r5 ⟨⟨y1, y2⟩, ⟨y3, y4⟩, y5, y6⟩ (Or.inr (Or.inl w2)), fun w2 => ?_⟩⟩, fun y => by omega⟩) (fun w => ⟨fun y => absurd rfl y, fun _ => r2 (by omega)⟩)⟩) (fun w => ⟨fun _ => r2 (by omega), fun y => absurd rfl y⟩)⟩) (fun w => ⟨fun _ => r2 (by omega), fun y => absurd rfl y⟩)))
  rw [hW.2.1]
  refine ⟨fun w9 => ?_, fun w9 => r5 ⟨⟨y1, y2⟩, ⟨y3, y4⟩, y5, y6⟩ (Or.inr (Or.inr w9))⟩
  have hself : ∀ t, 0 ≤ t → t < 125 → nrm σ (7 + 1) t = MK (c 0) (c 1) (fun i j k => TBc c 0 (25 * i + 5 * j + k)) t := fun t t0 t1 => by rw [MK_self hT (Int.le_refl _) t0 t1]; exact congrFun hW.2.2.2.1 t
  refine Wd_setMK hW.1 hW.2.1 hW.2.2.1 hW.pn hself y1 w y4 y5 y6 (by omega) (fun t1 hT1 hO1 => t_X_agree (fun t2 e2 => ⟨Or.inr rfl, ?_⟩))
  have hOa : OffN (fun b j => (b = 0 ∧ j = 0) ∨ b = 4 ∨ b = 5 ∨ (7 ≤ b ∧ b ≤ 8) ∨ (13 ≤ b ∧ b ≤ 20) ∨ (39 ≤ b ∧ b ≤ 113)) σ t2 := OffN_trans (OffN_n (Off_mono hO1 (fun b j q => by omega))) (OffN_of (by rw [e2]; exact Off_up (by omega)))
  have hO12 : Off (fun b j => b = 7 + 1 ∨ (b = 0 ∧ j = 0)) (nrm σ) t2 := Off_trans (Off_mono hO1 (fun b j q => Or.inl q)) (by rw [e2]; exact Off_up (Or.inr ⟨rfl, rfl⟩))
  have hK2 : KC t2 6 (ptW c 0 (c 0) (c 1) (MK (c 0) (c 1) (w3 (fun i j k => TBc c 0 (25 * i + 5 * j + k)) x1 x2 x3 x4))) := by
    have hKa : KC t2 6 (ptW c 0 (c 0) (c 1) (MK (c 0) (c 1) (w3 (fun i j k => TBc c 0 (25 * i + 5 * j + k)) x1 x2 x3 x4))) := by
      refine ⟨KW_pt ?_ ?_ (fun u u0 u1 => ?_), fun i i0 i1 => ?_⟩
      · rw [hO12 _ _ (by omega)]; exact hW.2.1
      · rw [hO12 _ _ (by omega)]; exact hW.2.2.1
      · rw [e2, up_ne (by omega)]; exact hT1 u u0 u1
      · have hi := (KC_n hK rfl).2 i i0 i1
        rw [ptW_ne (by omega), hO12 _ _ (by omega)]
        exact ⟨hi.1, fun hc => KW_ne (hi.2 hc) (by omega) (fun j _ _ => hO12 _ _ (by omega)) (fun j => hO12 _ _ (by omega))⟩
    exact hKa
  have hM2 := KM_nx hM hOa (fun j => by omega)
  refine t_R_put (fun _ _ _ _ t3 e3 t4 e4 => R_now e3 e4 hM2 hD (fun t5 hR hO h0 hM5 => ?_))
  refine R_isBase_s hR (fun _ _ => ⟨fun y => by omega, fun _ => R_isBase_s hR (fun _ _ => ⟨fun y => by omega, fun _ => R_isBase_s hR (fun _ _ => ⟨fun _ => ⟨fun w => by omega, fun _ => ?_⟩, fun y => by omega⟩) (fun w => by omega)⟩) (fun w => by omega)⟩) (fun w => by omega)
  rw [hR.2.1, w32_id (x := c 0 - 1) (by omega) (by omega)]
  have hW5 := KM_W0 hM5 hD
  refine R_isIn_s (fun u1 u2 => ⟨fun _ => R_setMK (f := 0) (p := c 0) (w := fun i j k => TBc c 0 (25 * i + 5 * j + k)) (by omega) kd_166 (by omega) (by omega) (by omega) hW5.1 hW.pn (fun u u0 u1 => by rw [MK_self hT (Int.le_refl _) u0 u1]; exact hW5.2.2.1 u u0 u1) y1 w y4 y5 y6 (by omega) (fun t6 h6 hO6 => ⟨rfl, ?_⟩), fun y => by omega⟩) (fun y => by omega)
  refine IVT_2 hI hOa (Off_trans (Off_mono hO (fun b j q => Or.inl q)) (Off_mono hO6 (fun b j q => Or.inr ⟨q.1, by omega, by omega⟩))) hK2 (KM_pt0 hM5 ⟨by rw [hO6 _ _ (by omega)]; exact hW5.1, by rw [hO6 _ _ (by omega)]; exact hW5.2.1, h6, TW_MK hW.pn⟩ (fun j jj => hO6 166 j (by omega))) (DC_pt hD (TW_MK hW.pn) (by omega) (by omega)) ((ST_n hI.2.2.2).off hO12 (fun x hx => by have := ech_list hx; omega)) (by rw [e2, up_same]) ((hO6 161 0 (by omega)).trans h0)
end CTB
