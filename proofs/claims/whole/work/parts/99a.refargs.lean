/-! ===== SCRIPTS: what stands behind a STEP's WORD, the model ===== -/
def NW (σ : SG) (M : Int → Int → Int) : Prop := ∀ q k, 0 ≤ q → q < 30 → 0 ≤ k → k < 7 → σ 169 (7 * q + k) = M q k
theorem NW.fr {σ σ' : SG} {M : Int → Int → Int} (h : NW σ M) (h1 : ∀ k, σ' 169 k = σ 169 k) : NW σ' M := fun l k l0 l1 k0 k1 => (h1 _).trans (h l k l0 l1 k0 k1)
theorem w7_i {m k : Int} (m0 : 0 ≤ m) (m1 : m < 30) (k0 : 0 ≤ k) (k1 : k < 7) : 0 ≤ w32 (7 * m + k) ∧ w32 (7 * m + k) < 300 := by
  rw [w32_id (x := 7 * m + k) (by omega) (by omega)]; omega
theorem NW.up {σ t : SG} {M : Int → Int → Int} {m k v : Int} (h : NW σ M) (m0 : 0 ≤ m) (m1 : m < 30) (k0 : 0 ≤ k) (k1 : k < 7) (e : t = up σ 169 (w32 (7 * m + k)) v) : NW t (c2u M m k v) := by
  rw [w32_id (x := 7 * m + k) (by omega) (by omega)] at e
  intro a b a0 a1 b0 b1
  unfold c2u
  by_cases g : a = m ∧ b = k
  · rw [if_pos g, g.1, g.2, e]; exact up_same
  · rw [if_neg g, e, up_ne (by omega)]; exact h a b a0 a1 b0 b1
/-- the sign that stands, 0 where none stands -/
noncomputable def sgZ (f : Int → Int) (N e : Int) : Int := if tK f N e = 3 then f (tS f N e) else 0
theorem waL_nn {f : Int → Int} {s t : Int} {kw : Bool} : ∀ (u : List Int) (w a : Int) (al : Bool), 0 ≤ w → 0 ≤ waL f s t kw u w a al := by
  intro u
  induction u with
  | nil => intro w a al hw; unfold waL; exact Int.le_refl _
  | cons c u ih =>
    intro w a al hw
    unfold waL
    split
    · split
      · exact hw
      · exact ih _ _ _ (by omega)
    · exact ih _ _ _ hw
theorem waR_nn {f : Int → Int} {N e : Int} {u : List Int} : 0 ≤ waR f N e u := waL_nn _ _ _ _ (by omega)
noncomputable def tsM (f : Int → Int) (N : Int) (s : PS) (M : Int → Int → Int) (m : Int) : Int → Int → Int := if waR f N s.2.2 (strI 8) = 5 then c2u (c2u (c2u (c2u M m 1 (waR f N s.2.2 (strI 8) - 1)) m 2 (cnv f N 0 5 (ts0 f N s))) m 4 (sgZ f N (cns f N 0 5 (ts0 f N s)).2.2)) m 5 (cnv f N 0 5 (agc f N (cns f N 0 5 (ts0 f N s)))) else if waR f N s.2.2 (strI 8) = 6 then c2u (c2u (c2u M m 1 (waR f N s.2.2 (strI 8) - 1)) m 4 (sgZ f N (ts0 f N s).2.2)) m 5 (cnv f N 0 5 (agc f N (ts0 f N s))) else if waR f N s.2.2 (strI 8) = 7 then c2u (c2u M m 1 (waR f N s.2.2 (strI 8) - 1)) m 2 (cnv f N 0 3 (ts0 f N s)) else c2u M m 1 (waR f N s.2.2 (strI 8) - 1)
noncomputable def agM (f : Int → Int) (N w : Int) (s : PS) (M : Int → Int → Int) (m : Int) : Int → Int → Int := if w = 1 then c2u (c2u M m 1 (cnv f N 0 4 s)) m 2 (cnv f N 0 4 (cns f N 0 4 s)) else if w = 2 then c2u (c2u M m 1 (cnv f N 0 4 s)) m 2 (cnv f N 1 6 (agw f N 9 (cns f N 0 4 s))) else if w = 3 then c2u (c2u (c2u M m 3 (cnv f N 0 6 s)) m 1 (cnv f N 0 4 (agw f N 5 (cns f N 0 6 s)))) m 2 (cnv f N 0 4 (agw f N 10 (cns f N 0 4 (agw f N 5 (cns f N 0 6 s))))) else if w = 7 then tsM f N s M m else if w = 8 then c2u M m 1 (cnv f N 1 99 s) else if w = 4 ∨ w = 5 ∨ w = 6 then c2u M m 1 (cnv f N 0 3 s) else M
section RSA
variable {d : Nat} {σ : SG} {Q : Int → SG → Prop} {f : Int → Int} {N m : Int} {M : Int → Int → Int} {s : PS}
theorem mu1 {P : Prop} (hB : BYT f) (hR : RB σ f N s) (hk : ∀ t, RB t f N (mst f N (zb P) s) → Off (fun b j => b = 161 ∧ 12 ≤ j ∧ j ≤ 18) σ t → Q 0 t) (y : P) : Tri (d + 3) M_R_must [vA 161, vI 1] σ Q :=
  R_must_s hB (t := zb P) (by rw [if_pos (zb_t y)]) hR hk
theorem mu0 {P : Prop} (hB : BYT f) (hR : RB σ f N s) (hk : ∀ t, RB t f N (mst f N (zb P) s) → Off (fun b j => b = 161 ∧ 12 ≤ j ∧ j ≤ 18) σ t → Q 0 t) (y : ¬ P) : Tri (d + 3) M_R_must [vA 161, vI 0] σ Q :=
  R_must_s hB (t := zb P) (by rw [if_neg (by rw [zb_f y]; exact Bool.false_ne_true)]) hR hk
theorem RB.u9 {t : SG} {i v : Int} (h : RB σ f N s) (e : t = up σ 169 i v) : RB t f N s := RB.fr h (fun q => by rw [e, up_ne (by omega)]) (fun q _ _ => by rw [e, up_ne (by omega)])
theorem off9 {t t1 t2 : SG} {i v : Int} (h : Off (fun b j => (b = 161 ∧ 12 ≤ j ∧ j ≤ 18) ∨ b = 169) σ t) (h1 : Off (fun b j => b = 161 ∧ 12 ≤ j ∧ j ≤ 18) t t1) (e : t2 = up t1 169 i v) : Off (fun b j => (b = 161 ∧ 12 ≤ j ∧ j ≤ 18) ∨ b = 169) σ t2 := by
  rw [e]
  exact Off_trans h (Off_trans (Off_mono h1 (fun b j q => Or.inl q)) (Off_up (Or.inr rfl)))
theorem off8 {t t1 : SG} (h : Off (fun b j => (b = 161 ∧ 12 ≤ j ∧ j ≤ 18) ∨ b = 169) σ t) (h1 : Off (fun b j => b = 161 ∧ 12 ≤ j ∧ j ≤ 18) t t1) : Off (fun b j => (b = 161 ∧ 12 ≤ j ∧ j ≤ 18) ∨ b = 169) σ t1 := Off_trans h (Off_mono h1 (fun b j q => Or.inl q))
theorem NW.o8 {t : SG} (h : NW σ M) (h1 : Off (fun b j => b = 161 ∧ 12 ≤ j ∧ j ≤ 18) σ t) : NW t M := h.fr (fun q => h1 169 q (by omega))
theorem R_readSign_s (hB : BYT f) (m0 : 0 ≤ m) (m1 : m < 30) (hR : RB σ f N s) (hM : NW σ M)
    (h : ∀ t, RB t f N (cns f N 0 5 (agc f N s)) → NW t (c2u (c2u M m 4 (sgZ f N s.2.2)) m 5 (cnv f N 0 5 (agc f N s))) → Off (fun b j => (b = 161 ∧ 12 ≤ j ∧ j ≤ 18) ∨ b = 169) σ t → Q 0 t) : Tri (d + 4) M_R_readSign [vA 161, vI (7 * m)] σ Q := by
  have at50 : ∀ b y, b = (if zb (isC f N s.2.2) = true then 1 else 0) → y = sgZ f N s.2.2 → L (d + 4) M_R_readSign 50 [vA 161, vI (7 * m), vI y] [vI b, vA 161] σ Q := by
    intro b y hb hy
    refine s_R_readSign_50 (R_must_s hB hb hR (fun t1 hR1 hO1 => ⟨w7_i m0 m1 (by omega) (by omega), fun t2 e2 => ?_⟩))
    have hM2 := (hM.o8 hO1).up m0 m1 (by omega) (by omega) e2
    have hR2 : RB t2 f N (agc f N s) := hR1.u9 e2
    have hO2 := off9 (σ := σ) Off_rfl hO1 e2
    refine R_count_s hB hR2 (fun t3 hR3 hO3 => ⟨w7_i m0 m1 (by omega) (by omega), fun t4 e4 => ?_⟩)
    have hM4 := (hM2.o8 hO3).up m0 m1 (by omega) (by omega) e4
    rw [hy] at hM4
    exact h t4 (hR3.u9 e4) hM4 (off9 hO2 hO3 e4)
  have cc : isC f N s.2.2 → (1 : Int) = if zb (isC f N s.2.2) = true then 1 else 0 := fun z => by rw [if_pos (zb_t z)]
  have at16 : ∀ y, y = sgZ f N s.2.2 → L (d + 4) M_R_readSign 16 [vA 161, vI (7 * m), vU] [vI y] σ Q := by
    intro y hy
    refine s_R_readSign_16 (R_isSign_s hR.2.2.2 (fun a => ⟨fun _ => at50 1 y (cc (Or.inl a)) hy, fun z => by omega⟩) (fun a => ⟨fun z => absurd rfl z, fun _ => R_isSign_s hR.2.2.2 (fun b => ⟨fun _ => at50 1 y (cc (Or.inr (Or.inl b))) hy, fun z => by omega⟩) (fun b => ⟨fun z => absurd rfl z, fun _ => R_isSign_s hR.2.2.2 (fun c => ⟨fun z => by omega, fun _ => at50 1 y (cc (Or.inr (Or.inr c))) hy⟩) (fun c => ⟨fun _ => at50 0 y ?_ hy, fun z => absurd rfl z⟩)⟩)⟩))
    rw [if_neg (by rw [zb_f (fun w => by rcases w with w | w | w; exact a w; exact b w; exact c w)]; exact Bool.false_ne_true)]
  have e14 := hR.2.2.2.2.2.2.2.2.2.1
  have e17 := hR.2.2.2.2.2.2.2.2.2.2.2.1
  refine t_R_readSign (fun _ => ⟨fun z => at16 _ ?_, fun z => at16 _ ?_⟩)
  · unfold sgZ; rw [if_neg (by omega)]
  · unfold sgZ; rw [if_pos (by omega)]; exact e17 (by omega)
theorem R_readTest_s (hB : BYT f) (m0 : 0 ≤ m) (m1 : m < 30) (hR : RB σ f N s) (hM : NW σ M)
    (h : ∀ t, RB t f N (tsS f N s) → NW t (tsM f N s M m) → Off (fun b j => (b = 161 ∧ 12 ≤ j ∧ j ≤ 18) ∨ b = 169) σ t → Q 0 t) : Tri (d + 5) M_R_readTest [vA 161, vI (7 * m)] σ Q := by
  refine t_R_readTest (fun _ => R_testWord_s hR.2.2.2 ?_)
  have w0 := waR_nn (f := f) (N := N) (e := s.2.2) (u := strI 8)
  have at15 : ∀ b, b = (if zb (waR f N s.2.2 (strI 8) ≠ 0) = true then 1 else 0) → L (d + 5) M_R_readTest 15 [vA 161, vI (7 * m), vI (waR f N s.2.2 (strI 8) - 1)] [vI b, vA 161] σ Q := by
    intro b hb
    have hb2 : ∀ t1, RB t1 f N (mst f N (zb (waR f N s.2.2 (strI 8) ≠ 0)) s) → RB t1 f N (ts0 f N s) := fun _ h => h
    unfold tsS tsM at h
    generalize hw : waR f N s.2.2 (strI 8) = w at *
    refine s_R_readTest_15 (R_must_s hB hb hR (fun t1 hR1' hO1 => ⟨w7_i m0 m1 (by omega) (by omega), fun t2 e2 => ?_⟩))
    have hM2 := (hM.o8 hO1).up m0 m1 (by omega) (by omega) e2
    have hR2 : RB t2 f N (ts0 f N s) := (hb2 _ hR1').u9 e2
    have hO2 := off9 (σ := σ) Off_rfl hO1 e2
    refine ⟨fun z => s_R_readTest_46 ⟨fun y => by omega, fun _ => ⟨fun y5 => ⟨fun y6 => ?_, fun y6 => ?_⟩, fun y5 => ?_⟩⟩, fun z => R_count_s hB hR2 (fun t3 hR3 hO3 => ⟨w7_i m0 m1 (by omega) (by omega), fun t4 e4 => s_R_readTest_46 ⟨fun _ => ?_, fun y => absurd z y⟩⟩)⟩
    · rw [if_neg (by omega), if_neg (by omega), if_neg (by omega), if_neg (by omega), if_neg (by omega), if_neg (by omega)] at h
      exact h t2 hR2 hM2 hO2
    · rw [if_neg (by omega), if_neg (by omega), if_pos (by omega), if_neg (by omega), if_neg (by omega), if_pos (by omega)] at h
      refine R_count_s hB hR2 (fun t3 hR3 hO3 => ⟨w7_i m0 m1 (by omega) (by omega), fun t4 e4 => ?_⟩)
      exact h t4 (hR3.u9 e4) ((hM2.o8 hO3).up m0 m1 (by omega) (by omega) e4) (off9 hO2 hO3 e4)
    · rw [if_neg (by omega), if_pos (by omega), if_neg (by omega), if_pos (by omega)] at h
      exact R_readSign_s hB m0 m1 hR2 hM2 (fun t5 hR5 hM5 hO5 => h t5 hR5 hM5 (Off_trans hO2 hO5))
    · rw [if_pos (by omega), if_pos (by omega)] at h
      exact R_readSign_s hB m0 m1 (hR3.u9 e4) ((hM2.o8 hO3).up m0 m1 (by omega) (by omega) e4) (fun t5 hR5 hM5 hO5 => h t5 hR5 hM5 (Off_trans (off9 hO2 hO3 e4) hO5))
  exact ⟨fun z => at15 0 (by rw [if_neg (by rw [zb_f (fun y => y (by omega))]; exact Bool.false_ne_true)]), fun z => at15 1 (by rw [if_pos (zb_t (by omega))])⟩
theorem R_readRest_s {w : Int} (w0 : 1 ≤ w) (w1 : w ≤ 9) (hB : BYT f) (m0 : 0 ≤ m) (m1 : m < 30) (hR : RB σ f N s) (hM : NW σ M) (hw : M m 0 = w - 1)
    (h : ∀ t, RB t f N (agS f N w s) → NW t (agM f N w s M m) → Off (fun b j => (b = 161 ∧ 12 ≤ j ∧ j ≤ 18) ∨ b = 169) σ t → Q 0 t) : Tri (d + 6) M_R_readRest [vA 161, vI (7 * m)] σ Q := by
  have e0 : σ 169 (7 * m) = w - 1 := by
    have := hM m 0 m0 m1 (by omega) (by omega)
    rw [Int.add_zero] at this
    exact this.trans hw
  have E : Off (fun b j => (b = 161 ∧ 12 ≤ j ∧ j ≤ 18) ∨ b = 169) σ σ := Off_rfl
  unfold agS agM at h
  refine t_R_readRest (fun _ => ⟨by omega, ?_⟩)
  rw [e0]
  refine ⟨fun z0 => ⟨fun z1 => ⟨fun z2 => ⟨fun z6 => ⟨fun y6 => ⟨fun y7 => ?_, fun y7 => ?_⟩, fun y6 => ?_⟩, fun z6 => ?_⟩, fun z2 => ?_⟩, fun z1 => ?_⟩, fun z0 => ?_⟩
  · rw [if_neg (by omega), if_neg (by omega), if_neg (by omega), if_neg (by omega), if_neg (by omega), if_neg (by omega), if_neg (by omega), if_neg (by omega), if_neg (by omega), if_neg (by omega), if_neg (by omega), if_neg (by omega)] at h
    exact h σ hR hM E
  · rw [if_neg (by omega), if_neg (by omega), if_neg (by omega), if_neg (by omega), if_pos (by omega), if_neg (by omega), if_neg (by omega), if_neg (by omega), if_neg (by omega), if_pos (by omega)] at h
    refine R_count_s hB hR (fun t1 hR1 hO1 => ⟨w7_i m0 m1 (by omega) (by omega), fun t2 e2 => ?_⟩)
    exact h t2 (hR1.u9 e2) ((hM.o8 hO1).up m0 m1 (by omega) (by omega) e2) (off9 E hO1 e2)
  · rw [if_neg (by omega), if_neg (by omega), if_neg (by omega), if_pos (by omega), if_neg (by omega), if_neg (by omega), if_neg (by omega), if_pos (by omega)] at h
    exact R_readTest_s hB m0 m1 hR hM h
  · rw [if_neg (by omega), if_neg (by omega), if_neg (by omega), if_neg (by omega), if_neg (by omega), if_pos (by omega), if_neg (by omega), if_neg (by omega), if_neg (by omega), if_neg (by omega), if_neg (by omega), if_pos (by omega)] at h
    refine R_count_s hB hR (fun t1 hR1 hO1 => ⟨w7_i m0 m1 (by omega) (by omega), fun t2 e2 => ?_⟩)
    exact h t2 (hR1.u9 e2) ((hM.o8 hO1).up m0 m1 (by omega) (by omega) e2) (off9 E hO1 e2)
  · rw [if_neg (by omega), if_neg (by omega), if_pos (by omega), if_neg (by omega), if_neg (by omega), if_pos (by omega)] at h
    refine R_count_s hB hR (fun t1 hR1 hO1 => ⟨w7_i m0 m1 (by omega) (by omega), fun t2 e2 => ?_⟩)
    have hR2 := hR1.u9 e2
    have hM2 := (hM.o8 hO1).up m0 m1 (by omega) (by omega) e2
    have hO2 := off9 E hO1 e2
    have c3 : ∀ t3, RB t3 f N (agw f N 5 (cns f N 0 6 s)) → Off (fun b j => b = 161 ∧ 12 ≤ j ∧ j ≤ 18) t2 t3 → Tri (d + 5) M_R_count [vA 161, vI 0, vI 4] t3 (fun r16 σ16 => (0 ≤ w32 (7 * m + 1) ∧ w32 (7 * m + 1) < 300) ∧ (∀ σ17, σ17 = up σ16 169 (w32 (7 * m + 1)) r16 → Tri (d + 5) M_R_isTo [vA 161] σ17 (fun r18 σ18 => Tri (d + 5) M_R_must [vA 161, vI r18] σ18 (fun r19 σ19 => Tri (d + 5) M_R_count [vA 161, vI 0, vI 4] σ19 (fun r20 σ20 => (0 ≤ w32 (7 * m + 2) ∧ w32 (7 * m + 2) < 300) ∧ (∀ σ21, σ21 = up σ20 169 (w32 (7 * m + 2)) r20 → Q 0 σ21)))))) := by
      intro t3 hR3 hO3
      refine R_count_s hB hR3 (fun t4 hR4 hO4 => ⟨w7_i m0 m1 (by omega) (by omega), fun t5 e5 => ?_⟩)
      have hR5 := hR4.u9 e5
      have hM5 := ((hM2.o8 hO3).o8 hO4).up m0 m1 (by omega) (by omega) e5
      have hO5 := off9 (off8 hO2 hO3) hO4 e5
      have c6 : ∀ t6, RB t6 f N (agw f N 10 (cns f N 0 4 (agw f N 5 (cns f N 0 6 s)))) → Off (fun b j => b = 161 ∧ 12 ≤ j ∧ j ≤ 18) t5 t6 → Tri (d + 5) M_R_count [vA 161, vI 0, vI 4] t6 (fun r20 σ20 => (0 ≤ w32 (7 * m + 2) ∧ w32 (7 * m + 2) < 300) ∧ (∀ σ21, σ21 = up σ20 169 (w32 (7 * m + 2)) r20 → Q 0 σ21)) := by
        intro t6 hR6 hO6
        refine R_count_s hB hR6 (fun t7 hR7 hO7 => ⟨w7_i m0 m1 (by omega) (by omega), fun t8 e8 => ?_⟩)
        exact h t8 (hR7.u9 e8) (((hM5.o8 hO6).o8 hO7).up m0 m1 (by omega) (by omega) e8) (off9 (off8 hO5 hO6) hO7 e8)
      exact R_isTo_s hR5.2.2.2 (fun y => mu1 hB hR5 c6 y) (fun y => mu0 hB hR5 c6 y)
    exact R_isOf_s hR2.2.2.2 (fun y => mu1 hB hR2 c3 y) (fun y => mu0 hB hR2 c3 y)
  · rw [if_neg (by omega), if_pos (by omega), if_neg (by omega), if_pos (by omega)] at h
    refine R_count_s hB hR (fun t1 hR1 hO1 => ⟨w7_i m0 m1 (by omega) (by omega), fun t2 e2 => ?_⟩)
    have hR2 := hR1.u9 e2
    have hM2 := (hM.o8 hO1).up m0 m1 (by omega) (by omega) e2
    have hO2 := off9 E hO1 e2
    have c6 : ∀ t6, RB t6 f N (agw f N 9 (cns f N 0 4 s)) → Off (fun b j => b = 161 ∧ 12 ≤ j ∧ j ≤ 18) t2 t6 → Tri (d + 5) M_R_count [vA 161, vI 1, vI 6] t6 (fun r20 σ20 => (0 ≤ w32 (7 * m + 2) ∧ w32 (7 * m + 2) < 300) ∧ (∀ σ21, σ21 = up σ20 169 (w32 (7 * m + 2)) r20 → Q 0 σ21)) := by
      intro t6 hR6 hO6
      refine R_count_s hB hR6 (fun t7 hR7 hO7 => ⟨w7_i m0 m1 (by omega) (by omega), fun t8 e8 => ?_⟩)
      exact h t8 (hR7.u9 e8) (((hM2.o8 hO6).o8 hO7).up m0 m1 (by omega) (by omega) e8) (off9 (off8 hO2 hO6) hO7 e8)
    exact R_isBy_s hR2.2.2.2 (fun y => mu1 hB hR2 c6 y) (fun y => mu0 hB hR2 c6 y)
  · rw [if_pos (by omega), if_pos (by omega)] at h
    refine R_count_s hB hR (fun t1 hR1 hO1 => ⟨w7_i m0 m1 (by omega) (by omega), fun t2 e2 => ?_⟩)
    have hR2 := hR1.u9 e2
    have hM2 := (hM.o8 hO1).up m0 m1 (by omega) (by omega) e2
    have hO2 := off9 E hO1 e2
    refine R_count_s hB hR2 (fun t3 hR3 hO3 => ⟨w7_i m0 m1 (by omega) (by omega), fun t4 e4 => ?_⟩)
    exact h t4 (hR3.u9 e4) ((hM2.o8 hO3).up m0 m1 (by omega) (by omega) e4) (off9 hO2 hO3 e4)
end RSA
