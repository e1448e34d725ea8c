/-! ===== the model reads a couple, whole ===== -/
theorem cnv_b {f : Int → Int} {N lo hi : Int} {s : PS} (h0 : 0 ≤ lo) (h1 : 0 ≤ hi) : 0 ≤ cnv f N lo hi s ∧ cnv f N lo hi s ≤ hi := by
  unfold cnv
  split
  · omega
  · split
    · split
      · omega
      · omega
    · omega
theorem FZ_flag {σ s3 : SG} {p n i j told : Int} {v : VV} (hF : FZ σ p n v told) (htold : 0 ≤ told ∧ told < 33554432) (hn : n ≤ 5) (i0 : 0 ≤ i) (ij : i < j) (jn : j < n) (e3 : s3 = up σ 167 (2 + 25 * j + 5 * j + i) 1) : FZ s3 p n v (or32 told (shl32 1 (5 * i + j))) := by
  obtain ⟨a1, a2, a3, a4⟩ := hF
  obtain ⟨_, _, o3⟩ := or_bit (m := told) (l := 5 * i + j) (w := 25) (by omega) htold.1 (by have := htold.2; omega) (by omega) (by omega)
  refine ⟨by rw [e3, up_ne (by omega)]; exact a1, by rw [e3, up_ne (by omega)]; exact a2, fun a b c x0 x1 y0 y1 z0 z1 xy => ?_, fun a b x0 xy yn => ?_⟩
  · rw [e3, up_ne (Or.inr (Ne.symm (dia_ne z0 z1 i0 (by omega) y0 y1 (by omega) (by omega) xy)))]
    exact a3 a b c x0 x1 y0 y1 z0 z1 xy
  · rw [o3 (5 * a + b) (by omega)]
    by_cases g : a = i ∧ b = j
    · rw [g.1, g.2, e3, up_same, decide_eq_true rfl]
      simp
    · rw [e3, up_ne (by omega), decide_eq_false (by omega), Bool.or_false]
      exact a4 a b x0 xy yn
section RBK
variable {d : Nat} {σ : SG} {Q : Int → SG → Prop} {f : Int → Int} {N p n : Int}
theorem R_readBracket_s {s : PS} {told : Int} {v : VV} (hB : BYT f) (hpn : PN p n) (g0 : s.1 = 0) (hw : isU f N s.2.2 (strI 2)) (htold : 0 ≤ told ∧ told < 33554432) (hR : RB σ f N s) (hF : FZ σ p n v told)
    (h : ∀ t, RB t f N (cp6 f N p n told s v).1 → ((cp6 f N p n told s v).1.1 = 0 → FZ t p n (cp6 f N p n told s v).2 (or32 told (shl32 1 (5 * cpi f N n s + cpj f N n s))) ∧ 0 ≤ cpi f N n s ∧ cpi f N n s < cpj f N n s ∧ cpj f N n s < n) → Off (fun b j => (b = 161 ∧ 12 ≤ j ∧ j ≤ 18) ∨ (b = 167 ∧ 2 ≤ j ∧ j < 127)) σ t → Q 0 t) : Tri (d + 4) M_R_readBracket [vA 161] σ Q := by
  obtain ⟨b1, b2, b3, b4⟩ := hpn.b
  have of : ∀ {t t2 : SG}, Off (fun b j => (b = 161 ∧ 12 ≤ j ∧ j ≤ 18) ∨ (b = 167 ∧ 2 ≤ j ∧ j < 127)) σ t → Off (fun b j => b = 161 ∧ 12 ≤ j ∧ j ≤ 18) t t2 → Off (fun b j => (b = 161 ∧ 12 ≤ j ∧ j ≤ 18) ∨ (b = 167 ∧ 2 ≤ j ∧ j < 127)) σ t2 := fun h1 h2 => Off_trans h1 (Off_mono h2 (fun b j q => by omega))
  have e1 : cp1 f N s = adv f N s := mst_go g0 (zb_t hw)
  have hib := cnv_b (f := f) (N := N) (lo := 0) (hi := n - 1) (s := cp1 f N s) (by omega) (by omega)
  have hi : 0 ≤ cpi f N n s ∧ cpi f N n s ≤ n - 1 := hib
  have bad : ∀ t, 0 < (cp5 f N n told s).1 → RB t f N (cp5 f N n told s) → Off (fun b j => (b = 161 ∧ 12 ≤ j ∧ j ≤ 18) ∨ (b = 167 ∧ 2 ≤ j ∧ j < 127)) σ t → Q 0 t := fun t hb hR2 hO2 => by
    have e6 : cp6 f N p n told s v = (cp5 f N n told s, v) := by unfold cp6; rw [if_pos hb]
    rw [e6] at h
    exact h t hR2 (fun z => by have z' : (cp5 f N n told s).1 = 0 := z; omega) hO2
  have at67 : ∀ t, RB t f N (cp4 f N n told s) → FZ t p n v told → Off (fun b j => (b = 161 ∧ 12 ≤ j ∧ j ≤ 18) ∨ (b = 167 ∧ 2 ≤ j ∧ j < 127)) σ t → L (d + 4) M_R_readBracket 67 [vA 161, vI n, vI (cpi f N n s), vU, vI (cpj f N n s), vU, vU, vU, vU, vU, vU] [] t Q := by
    intro t hR4 hF4 hO4
    have h12 := hR4.1
    have hnn := hR4.2.1
    refine s_R_readBracket_67 ⟨fun z => ?_, fun z => bad t (by rw [cp5_4 (by omega)]; omega) (by rw [cp5_4 (by omega)]; exact hR4) hO4⟩
    have g4 : (cp4 f N n told s).1 = 0 := by omega
    have g3 : (cp3 f N n s).1 = 0 := by
      unfold cp4 at g4
      by_cases q : 0 < (cp3 f N n s).1
      · rw [if_pos q] at g4; omega
      · rw [if_neg q] at g4
        by_cases q2 : tb told (5 * cpi f N n s + cpj f N n s) = true
        · rw [if_pos q2] at g4; have : (5 : Int) = 0 := g4; omega
        · rw [if_neg q2] at g4; exact g4
    have pbs := hR.pb
    have p1 : PL N s (cp1 f N s) := mst_pl pbs
    have p2 : PL N s (cp2 f N n s) := p1.trans (cns_pl p1.1)
    obtain ⟨g2, hk3, m1, m2⟩ := cns_ok p2.1.1 g3
    have ej : cpj f N n s = tV f N (cp2 f N n s).2.2 := cnv_go g2 hk3 m1 m2
    have ij : cpi f N n s < cpj f N n s := by omega
    have jn : cpj f N n s < n := by omega
    refine R_cell_s ⟨by omega, by omega⟩ ⟨by omega, by omega⟩ ⟨by omega, by omega⟩ ⟨by omega, fun t3 e3 => ?_⟩
    have hF3 := FZ_flag hF4 htold b4 hi.1 ij jn e3
    have hR3 : RB t3 f N (cp4 f N n told s) := hR4.fr (fun q => by rw [e3, up_ne (by omega)]) (fun q _ _ => by rw [e3, up_ne (by omega)])
    have hO3 : Off (fun b j => (b = 161 ∧ 12 ≤ j ∧ j ≤ 18) ∨ (b = 167 ∧ 2 ≤ j ∧ j < 127)) σ t3 := Off_trans hO4 (by rw [e3]; exact Off_up (Or.inr ⟨rfl, by omega, by omega⟩))
    have must : ∀ b, b = (if zb (isU f N (cp4 f N n told s).2.2 (strI 3)) = true then 1 else 0) → Tri (d + 3) M_R_must [vA 161, vI b] t3 (fun r5 σ5 => L (d + 4) M_R_readBracket 103 [vA 161, vI n, vI (cpi f N n s), vU, vI (cpj f N n s), vI 0, vI 1, vU, vU, vU, vU] [] σ5 Q) := by
      intro b hb
      refine R_must_s hB hb hR3 (fun t5 hR5 hO5 => ?_)
      have hR5' : RB t5 f N (cp5 f N n told s) := hR5
      have h12' := hR5'.1
      have hnn' := hR5'.2.1
      have hO5' := of hO3 hO5
      by_cases g5 : 0 < (cp5 f N n told s).1
      · exact s_R_readBracket_103 ⟨fun y => by omega, fun _ => ⟨fun _ => bad t5 g5 hR5' hO5', fun y => by omega⟩⟩
      · have e6 : cp6 f N p n told s v = trm f N p n (cpi f N n s) (cpj f N n s) 601 (cp5 f N n told s) 0 v := by unfold cp6; rw [if_neg g5]
        rw [e6] at h
        have hb5 := hR5'.pb
        have hN := hR5'.2.2.2.2.2.1
        exact R_terms hB hpn hi.1 ij jn 600 (cp5 f N n told s) 0 v t5 (by omega) (by have := hb5.2.1; omega) ⟨by omega, by omega⟩ hR5' (hF3.fr (fun q => hO5 167 q (by omega))) Off_rfl (fun t6 hR6 hF6 hO6 => h t6 hR6 (fun z => ⟨hF6 z, hi.1, ij, jn⟩) (Off_trans hO5' hO6))
    exact R_isGives_s hR3.2.2.2 (fun y => must 1 (by rw [if_pos (zb_t y)])) (fun y => must 0 (by rw [if_neg (by rw [zb_f y]; exact Bool.false_ne_true)]))
  refine t_R_readBracket (R_go_s hB hR.2.2.2 (fun t1 hT1 hO1 => ?_))
  have hR1 : RB t1 f N (cp1 f N s) := by rw [e1]; exact hR.adv g0 hT1 hO1
  have hO1' : Off (fun b j => (b = 161 ∧ 12 ≤ j ∧ j ≤ 18) ∨ (b = 167 ∧ 2 ≤ j ∧ j < 127)) σ t1 := Off_mono hO1 (fun b j q => by omega)
  have hF1 : FZ t1 p n v told := hF.fr (fun q => hO1 167 q (by omega))
  rw [hF1.2.1, w32_id (x := n - 1) (by omega) (by omega)]
  refine R_count_s hB hR1 (fun t2 hR2 hO2 => ?_)
  have hR2' : RB t2 f N (cp2 f N n s) := hR2
  have ei : cnv f N 0 (n - 1) (cp1 f N s) = cpi f N n s := rfl
  have e15 : t2 161 15 = tS f N (cp2 f N n s).2.2 := hR2'.2.2.2.2.2.2.2.1
  rw [ei, e15, w32_id (x := cpi f N n s + 1) (by omega) (by omega)]
  refine R_count_s hB hR2' (fun t3 hR3 hO3 => ?_)
  have hR3' : RB t3 f N (cp3 f N n s) := hR3
  have h12 := hR3'.1
  have hnn := hR3'.2.1
  have hO3' := of (of hO1' hO2) hO3
  have hF3 : FZ t3 p n v told := (hF1.fr (fun q => hO2 167 q (by omega))).fr (fun q => hO3 167 q (by omega))
  have ej : cnv f N (cpi f N n s + 1) (n - 1) (cp2 f N n s) = cpj f N n s := rfl
  rw [ej]
  refine ⟨fun z => at67 t3 (by unfold cp4; rw [if_pos (by omega)]; exact hR3') hF3 hO3', fun z => ?_⟩
  have g3 : (cp3 f N n s).1 = 0 := by omega
  obtain ⟨g2, hk3, m1, m2⟩ := cns_ok (s := cp2 f N n s) hR2'.2.1 g3
  have ejv : cpj f N n s = tV f N (cp2 f N n s).2.2 := cnv_go g2 hk3 m1 m2
  refine R_cell_s ⟨by omega, by omega⟩ ⟨by omega, by omega⟩ ⟨by omega, by omega⟩ ⟨by omega, ?_⟩
  have hbit := hF3.2.2.2 (cpi f N n s) (cpj f N n s) hi.1 (by omega) (by omega)
  refine ⟨fun y => at67 t3 (by unfold cp4; rw [if_neg (by omega), if_neg (fun w => y (hbit.mpr w))]; exact hR3') hF3 hO3', fun y => R_fail_s (e9 := 0) (by omega) g3 hR3' (fun t4 hR4 hO4 => at67 t4 (by unfold cp4; rw [if_neg (by omega), if_pos (hbit.mp y)]; exact hR4) (hF3.fr (fun q => hO4 167 q (by omega))) (Off_trans hO3' (Off_mono hO4 (fun b j q => by omega))))⟩
end RBK
