/-! ===== the model reads a couple ===== -/
def FZ (σ : SG) (p n : Int) (v : VV) (told : Int) : Prop := σ 167 0 = p ∧ σ 167 1 = n ∧ (∀ i j k, 0 ≤ i → i < 5 → 0 ≤ j → j < 5 → 0 ≤ k → k < 5 → i ≠ j → σ 167 (2 + 25 * i + 5 * j + k) = MK p n v (25 * i + 5 * j + k)) ∧ (∀ i j, 0 ≤ i → i < j → j < n → (σ 167 (2 + 25 * j + 5 * j + i) = 1 ↔ tb told (5 * i + j) = true))
theorem FZ.fr {σ σ' : SG} {p n : Int} {v : VV} {told : Int} (h : FZ σ p n v told) (h1 : ∀ k, σ' 167 k = σ 167 k) : FZ σ' p n v told := by
  obtain ⟨a1, a2, a3, a4⟩ := h
  exact ⟨(h1 _).trans a1, (h1 _).trans a2, fun i j k i0 i1 j0 j1 k0 k1 ij => (h1 _).trans (a3 i j k i0 i1 j0 j1 k0 k1 ij), fun i j i0 ij jn => by rw [h1]; exact a4 i j i0 ij jn⟩
theorem tr5_lt {f : Int → Int} {N p n had : Int} {s : PS} (h : PB N s) (g : (tr5 f N p n had s).1 = 0) : s.2.2 < (tr5 f N p n had s).2.2 ∧ tr5 f N p n had s = tr4 f N p n s ∧ (tr4 f N p n s).1 = 0 ∧ (tr3 f N p s).1 = 0 ∧ (tr2 f N p s).1 = 0 := by
  have h1 : PL N s (tr1 f N s) := by
    unfold tr1
    split
    · exact adv_pl h
    · exact ⟨h, Int.le_refl _⟩
  have h2 : PL N s (tr2 f N p s) := h1.trans (cns_pl h1.1)
  have h3 : PL N s (tr3 f N p s) := h2.trans (mst_pl h2.1)
  have e5 : tr5 f N p n had s = tr4 f N p n s := by
    unfold tr5 at g ⊢
    by_cases g4 : 0 < (tr4 f N p n s).1
    · rw [if_pos g4]
    · rw [if_neg g4] at g ⊢
      by_cases gt : tb had (trk f N p n s) = true
      · rw [if_pos gt] at g; have : (5 : Int) = 0 := g; omega
      · rw [if_neg gt]
  rw [e5] at g
  obtain ⟨g3, hk, l1, l2⟩ := cns_ok h3.1.1 g
  have e4 : tr4 f N p n s = adv f N (tr3 f N p s) := cns_go g3 hk l1 l2
  have g2 : (tr2 f N p s).1 = 0 := (mst_ok h2.1.1 g3).1
  refine ⟨?_, e5, g, g3, g2⟩
  rw [e5, e4]
  have := tE_lt (f := f) h3.1.2.2 (by omega : tK f N (tr3 f N p s).2.2 ≠ 0)
  exact Int.lt_of_le_of_lt h3.2 this
theorem dia_ne {i j k a b : Int} (k0 : 0 ≤ k) (k1 : k < 5) (a0 : 0 ≤ a) (a1 : a < 5) (j0 : 0 ≤ j) (j1 : j < 5) (b0 : 0 ≤ b) (b1 : b < 5) (ij : i ≠ j) : 2 + 25 * b + 5 * b + a ≠ 2 + 25 * i + 5 * j + k := by
  intro h
  have h5 : 5 * i + j = 6 * b := by omega
  have h6 : i = b := by omega
  omega
section RRB
variable {d : Nat} {σ : SG} {Q : Int → SG → Prop} {f : Int → Int} {N p n i j : Int}
theorem R_setFZ {k v told : Int} {w : VV} (hpn : PN p n) (hF : FZ σ p n w told) (i0 : 0 ≤ i) (ij : i < j) (jn : j < n) (k0 : 0 ≤ k) (kn : k < n) (hv : -1000 ≤ v ∧ v ≤ 1000) (h : ∀ σ', FZ σ' p n (w3 w i j k v) told → Off (fun b j => b = 167 ∧ 2 ≤ j ∧ j < 127) σ σ' → Q 0 σ') : Tri (d + 2) M_R_set [vA 167, vI 0, vI i, vI j, vI k, vI v] σ Q := by
  obtain ⟨b1, b2, b3, b4⟩ := hpn.b
  obtain ⟨a1, a2, a3, a4⟩ := hF
  refine t_R_set (fun _ _ _ _ _ => ⟨rd_of kd_167 (by omega) (by omega), R_cell_s ⟨i0, by omega⟩ ⟨by omega, by omega⟩ ⟨k0, by omega⟩ ?_⟩)
  rw [a1, w32_id (x := -v) (by omega) (by omega)]
  refine R_left_s ⟨b1, b2⟩ ?_
  rw [w32_id (x := 0 + (2 + 25 * i + 5 * j + k)) (by omega) (by omega), Int.zero_add]
  refine ⟨wr_of (by omega) kd_167 (by omega) (by omega), fun s3 e3 => R_cell_s ⟨by omega, by omega⟩ ⟨i0, by omega⟩ ⟨k0, by omega⟩ (R_left_s ⟨b1, b2⟩ ?_)⟩
  rw [w32_id (x := 0 + (2 + 25 * j + 5 * i + k)) (by omega) (by omega), Int.zero_add]
  refine ⟨wr_of (by omega) kd_167 (by omega) (by omega), fun s6 e6 => h s6 ⟨by rw [e6, up_ne (by omega), e3, up_ne (by omega)]; exact a1, by rw [e6, up_ne (by omega), e3, up_ne (by omega)]; exact a2, fun a b c x0 x1 y0 y1 z0 z1 xy => ?_, fun a b x0 xy yn => ?_⟩ (fun b q hb => by rw [e6, up_ne (by omega), e3, up_ne (by omega)])⟩
  · rw [MK_w3 i0 ij jn k0 kn b4 (by omega) (by omega)]
    by_cases g : 25 * a + 5 * b + c = 25 * j + 5 * i + k
    · rw [if_pos g, e6, show 2 + 25 * a + 5 * b + c = 2 + 25 * j + 5 * i + k by omega, up_same]
    · rw [if_neg g, e6, up_ne (by omega)]
      by_cases g2 : 25 * a + 5 * b + c = 25 * i + 5 * j + k
      · rw [if_pos g2, e3, show 2 + 25 * a + 5 * b + c = 2 + 25 * i + 5 * j + k by omega, up_same]
      · rw [if_neg g2, e3, up_ne (by omega)]; exact a3 a b c x0 x1 y0 y1 z0 z1 xy
  · rw [e6, up_ne (Or.inr (dia_ne k0 (by omega) x0 (by omega) i0 (by omega) (by omega) (by omega) (by omega))), e3, up_ne (Or.inr (dia_ne k0 (by omega) x0 (by omega) (by omega) (by omega) (by omega) (by omega) (by omega)))]; exact a4 a b x0 xy yn
theorem R_terms_one (hB : BYT f) (hpn : PN p n) (i0 : 0 ≤ i) (ij : i < j) (jn : j < n) {told : Int} (k : Nat) (s : PS) (had : Int) (v : VV) (t : SG) (g0 : s.1 = 0) (hhad : 0 ≤ had ∧ had < 32) (hR : RB t f N s) (hF : FZ t p n v told) (hO : Off (fun b j => (b = 161 ∧ 12 ≤ j ∧ j ≤ 18) ∨ (b = 167 ∧ 2 ≤ j ∧ j < 127)) σ t)
    (h : ∀ t2, RB t2 f N (trm f N p n i j (k + 1) s had v).1 → ((trm f N p n i j (k + 1) s had v).1.1 = 0 → FZ t2 p n (trm f N p n i j (k + 1) s had v).2 told) → Off (fun b j => (b = 161 ∧ 12 ≤ j ∧ j ≤ 18) ∨ (b = 167 ∧ 2 ≤ j ∧ j < 127)) σ t2 → Q 0 t2)
    (next : ∀ t2, (tr5 f N p n had s).1 = 0 → mor f N (tr5 f N p n had s).2.2 = true → 0 ≤ or32 had (shl32 1 (trk f N p n s)) ∧ or32 had (shl32 1 (trk f N p n s)) < 32 → RB t2 f N (tr5 f N p n had s) → FZ t2 p n (w3 v i j (trk f N p n s) (trv f N p s)) told → Off (fun b j => (b = 161 ∧ 12 ≤ j ∧ j ≤ 18) ∨ (b = 167 ∧ 2 ≤ j ∧ j < 127)) σ t2 → L (d + 4) M_R_readBracket 103 [vA 161, vI n, vI i, vU, vI j, vI (or32 had (shl32 1 (trk f N p n s))), vI 1, vU, vU, vU, vU] [] t2 Q) :
    L (d + 4) M_R_readBracket 103 [vA 161, vI n, vI i, vU, vI j, vI had, vI 1, vU, vU, vU, vU] [] t Q := by
  obtain ⟨b1, b2, b3, b4⟩ := hpn.b
  have fz : ∀ {t t2 : SG}, FZ t p n v told → Off (fun b j => b = 161 ∧ 12 ≤ j ∧ j ≤ 18) t t2 → FZ t2 p n v told := fun h1 h2 => h1.fr (fun q => h2 167 q (by omega))
  have of : ∀ {t t2 : SG}, Off (fun b j => (b = 161 ∧ 12 ≤ j ∧ j ≤ 18) ∨ (b = 167 ∧ 2 ≤ j ∧ j < 127)) σ t → Off (fun b j => b = 161 ∧ 12 ≤ j ∧ j ≤ 18) t t2 → Off (fun b j => (b = 161 ∧ 12 ≤ j ∧ j ≤ 18) ∨ (b = 167 ∧ 2 ≤ j ∧ j < 127)) σ t2 := fun h1 h2 => Off_trans h1 (Off_mono h2 (fun b j q => by omega))
  have bad : ∀ t2, 0 < (tr5 f N p n had s).1 → RB t2 f N (tr5 f N p n had s) → Off (fun b j => (b = 161 ∧ 12 ≤ j ∧ j ≤ 18) ∨ (b = 167 ∧ 2 ≤ j ∧ j < 127)) σ t2 → Q 0 t2 := fun t2 hb hR2 hO2 => by
    rw [trm_bad hb] at h
    exact h t2 hR2 (fun z => by have z' : (tr5 f N p n had s).1 = 0 := z; omega) hO2
  have at194 : ∀ t2 (x7 : Int), x7 = (if zb (isU f N s.2.2 (strI 4)) = true then 1 else 0) → RB t2 f N (tr5 f N p n had s) → FZ t2 p n v told → Off (fun b j => (b = 161 ∧ 12 ≤ j ∧ j ≤ 18) ∨ (b = 167 ∧ 2 ≤ j ∧ j < 127)) σ t2 → L (d + 4) M_R_readBracket 194 [vA 161, vI n, vI i, vU, vI j, vI had, vU, vI x7, vI (cnv f N 1 (p - 1) (tr1 f N s)), vU, vI (trk f N p n s)] [] t2 Q := by
    intro t2 x7 hx7 hR2 hF2 hO2
    have h12 := hR2.1
    have hnn := hR2.2.1
    refine s_R_readBracket_194 ⟨fun z => ?_, fun z => bad t2 (by omega) hR2 hO2⟩
    have g5 : (tr5 f N p n had s).1 = 0 := by omega
    obtain ⟨lt5, e5, g4, g3, g2⟩ := tr5_lt hR.pb g5
    have pbs := hR.pb
    have h1 : PL N s (tr1 f N s) := by
      unfold tr1
      split
      · exact adv_pl pbs
      · exact ⟨pbs, Int.le_refl _⟩
    have h2 : PL N s (tr2 f N p s) := h1.trans (cns_pl h1.1)
    have h3 : PL N s (tr3 f N p s) := h2.trans (mst_pl h2.1)
    obtain ⟨_, hk4, m1, m2⟩ := cns_ok h3.1.1 g4
    have ek : trk f N p n s = tV f N (tr3 f N p s).2.2 := cnv_go g3 hk4 m1 m2
    obtain ⟨q1, hk1, l1, l2⟩ := cns_ok h1.1.1 g2
    have ev : cnv f N 1 (p - 1) (tr1 f N s) = tV f N (tr1 f N s).2.2 := cnv_go q1 hk1 l1 l2
    obtain ⟨o1, o2, _⟩ := or_bit (m := had) (l := trk f N p n s) (w := 5) (by omega) hhad.1 (by omega) (by omega) (by omega)
    have at234 : ∀ val, val = trv f N p s → -1000 ≤ val ∧ val ≤ 1000 → L (d + 4) M_R_readBracket 234 [vA 161, vI n, vI i, vU, vI j, vI (or32 had (shl32 1 (trk f N p n s))), vU, vU, vU, vU, vU] [vI val, vI (trk f N p n s), vI j, vI i, vI 0, vA 167] t2 Q := by
      intro val hval hvb
      refine s_R_readBracket_234 (R_setFZ hpn hF2 i0 ij jn (by omega) (by omega) hvb (fun t3 hF3 hO3 => ?_))
      rw [hval] at hF3
      have hR3 : RB t3 f N (tr5 f N p n had s) := hR2.fr (fun q => hO3 165 q (by omega)) (fun q _ _ => hO3 161 q (by omega))
      have hO3' : Off (fun b j => (b = 161 ∧ 12 ≤ j ∧ j ≤ 18) ∨ (b = 167 ∧ 2 ≤ j ∧ j < 127)) σ t3 := Off_trans hO2 (Off_mono hO3 (fun b j q => by omega))
      have go : mor f N (tr5 f N p n had s).2.2 = true → L (d + 4) M_R_readBracket 103 [vA 161, vI n, vI i, vU, vI j, vI (or32 had (shl32 1 (trk f N p n s))), vI 1, vU, vU, vU, vU] [] t3 Q := fun hm => next t3 g5 hm ⟨o1, by simpa using o2⟩ hR3 hF3 hO3'
      refine R_isLess_s hR3.2.2.2 (fun y => ⟨fun _ => go (by unfold mor; rw [zb_t y]; rfl), fun y2 => by omega⟩) (fun y => ⟨fun y2 => absurd rfl y2, fun _ => ?_⟩)
      rw [hR3.2.2.2.2.2.2.2.2.2.1]
      refine ⟨fun y2 => ?_, fun y2 => go (by unfold mor; rw [decide_eq_true y2]; exact Bool.or_true _)⟩
      have hm : ¬ mor f N (tr5 f N p n had s).2.2 = true := fun z9 => by
        unfold mor at z9
        rw [zb_f y, decide_eq_false y2] at z9
        cases z9
      rw [trm_s, if_neg (by omega), if_neg hm] at h
      exact s_R_readBracket_103 ⟨fun _ => h t3 hR3 (fun _ => hF3) hO3', fun y3 => absurd rfl y3⟩
    refine ⟨fun z2 => at234 _ ?_ (by omega), fun z2 => ?_⟩
    · have hl : ¬ zb (isU f N s.2.2 (strI 4)) = true := fun y => by rw [if_pos y] at hx7; omega
      unfold trv
      rw [if_neg hl]
    · have hl : zb (isU f N s.2.2 (strI 4)) = true := by
        by_cases y : zb (isU f N s.2.2 (strI 4)) = true
        · exact y
        · rw [if_neg y] at hx7; omega
      rw [w32_id (x := -(cnv f N 1 (p - 1) (tr1 f N s))) (by omega) (by omega)]
      refine at234 _ ?_ (by omega)
      unfold trv
      rw [if_pos hl]
  have at130 : ∀ t2 (x7 : Int), x7 = (if zb (isU f N s.2.2 (strI 4)) = true then 1 else 0) → RB t2 f N (tr1 f N s) → FZ t2 p n v told → Off (fun b j => (b = 161 ∧ 12 ≤ j ∧ j ≤ 18) ∨ (b = 167 ∧ 2 ≤ j ∧ j < 127)) σ t2 → L (d + 4) M_R_readBracket 130 [vA 161, vI n, vI i, vU, vI j, vI had, vU, vI x7, vU, vU, vU] [] t2 Q := by
    intro t2 x7 hx7 hR2 hF2 hO2
    refine s_R_readBracket_130 ?_
    rw [hF2.1, w32_id (x := p - 1) (by omega) (by omega), w32_id (x := n - 1) (by omega) (by omega)]
    refine R_count_s hB hR2 (fun t3 hR3 hO3 => ?_)
    have hR3' : RB t3 f N (tr2 f N p s) := hR3
    have must : ∀ b, b = (if zb (isU f N (tr2 f N p s).2.2 (strI 5)) = true then 1 else 0) → Tri (d + 3) M_R_must [vA 161, vI b] t3 (fun r3 σ3 => Tri (d + 3) M_R_count [vA 161, vI 0, vI (n - 1)] σ3 (fun r4 σ4 => (σ4 161 12 ≠ 0 → L (d + 4) M_R_readBracket 194 [vA 161, vI n, vI i, vU, vI j, vI had, vU, vI x7, vI (cnv f N 1 (p - 1) (tr1 f N s)), vU, vI r4] [] σ4 Q) ∧ (σ4 161 12 = 0 → (and32 (shr32 had r4) 1 ≠ 1 → L (d + 4) M_R_readBracket 194 [vA 161, vI n, vI i, vU, vI j, vI had, vU, vI x7, vI (cnv f N 1 (p - 1) (tr1 f N s)), vU, vI r4] [] σ4 Q) ∧ (and32 (shr32 had r4) 1 = 1 → Tri (d + 3) M_R_fail [vA 161, vI 5, vI (σ3 161 15)] σ4 (fun r7 σ7 => L (d + 4) M_R_readBracket 194 [vA 161, vI n, vI i, vU, vI j, vI had, vU, vI x7, vI (cnv f N 1 (p - 1) (tr1 f N s)), vU, vI r4] [] σ7 Q))))) := by
      intro b hb
      refine R_must_s hB hb hR3' (fun t4 hR4 hO4 => ?_)
      have hR4' : RB t4 f N (tr3 f N p s) := hR4
      have e15 : t4 161 15 = tS f N (tr3 f N p s).2.2 := hR4'.2.2.2.2.2.2.2.1
      rw [e15]
      refine R_count_s hB hR4' (fun t5 hR5 hO5 => ?_)
      have hR5' : RB t5 f N (tr4 f N p n s) := hR5
      have h12 := hR5'.1
      have hnn := hR5'.2.1
      have hF5 := fz (fz (fz hF2 hO3) hO4) hO5
      have hO5' := of (of (of hO2 hO3) hO4) hO5
      have e4k : cnv f N 0 (n - 1) (tr3 f N p s) = trk f N p n s := rfl
      rw [e4k]
      refine ⟨fun z => ?_, fun z => ?_⟩
      · have hb4 : 0 < (tr4 f N p n s).1 := by omega
        exact at194 t5 x7 hx7 (by rw [tr5_4 hb4]; exact hR5') hF5 hO5'
      · have g4 : (tr4 f N p n s).1 = 0 := by omega
        obtain ⟨g3, hk4, m1, m2⟩ := cns_ok (s := tr3 f N p s) hR4'.2.1 g4
        have ek : trk f N p n s = tV f N (tr3 f N p s).2.2 := cnv_go g3 hk4 m1 m2
        rw [bit_t (by omega) (by omega) (by omega) (by omega)]
        refine ⟨fun y => ?_, fun y => ?_⟩
        · have htb : ¬ tb had (trk f N p n s) = true := fun w => by rw [if_pos w] at y; exact y rfl
          exact at194 t5 x7 hx7 (by unfold tr5; rw [if_neg (by omega), if_neg htb]; exact hR5') hF5 hO5'
        · have htb : tb had (trk f N p n s) = true := by
            by_cases w : tb had (trk f N p n s) = true
            · exact w
            · rw [if_neg w] at y; omega
          refine R_fail_s (e9 := 0) (by omega) g4 hR5' (fun t6 hR6 hO6 => at194 t6 x7 hx7 (by unfold tr5; rw [if_neg (by omega), if_pos htb]; exact hR6) (hF5.fr (fun q => hO6 167 q (by omega))) (Off_trans hO5' (Off_mono hO6 (fun b j q => by omega))))
    exact R_isOf_s hR3'.2.2.2 (fun y => must 1 (by rw [if_pos (zb_t y)])) (fun y => must 0 (by rw [if_neg (by rw [zb_f y]; exact Bool.false_ne_true)]))
  have h12 := hR.1
  refine s_R_readBracket_103 ⟨fun z => by omega, fun _ => ⟨fun z => by omega, fun _ => R_isLess_s hR.2.2.2 (fun y => ⟨fun z => by omega, fun _ => R_go_s hB hR.2.2.2 (fun t2 hT2 hO2 => ?_)⟩) (fun y => ⟨fun _ => ?_, fun z => absurd rfl z⟩)⟩⟩
  · have e1 : tr1 f N s = adv f N s := by unfold tr1; rw [if_pos (zb_t y)]
    exact at130 t2 1 (by rw [if_pos (zb_t y)]) (by rw [e1]; exact hR.adv g0 hT2 hO2) (hF.fr (fun q => hO2 167 q (by omega))) (Off_trans hO (Off_mono hO2 (fun b j q => by omega)))
  · have e1 : tr1 f N s = s := by unfold tr1; rw [if_neg (by rw [zb_f y]; exact Bool.false_ne_true)]
    exact at130 t 0 (by rw [if_neg (by rw [zb_f y]; exact Bool.false_ne_true)]) (by rw [e1]; exact hR) hF hO
theorem R_terms (hB : BYT f) (hpn : PN p n) (i0 : 0 ≤ i) (ij : i < j) (jn : j < n) {told : Int} : ∀ (k : Nat) (s : PS) (had : Int) (v : VV) (t : SG), s.1 = 0 → N - s.2.2 < k + 1 → 0 ≤ had ∧ had < 32 → RB t f N s → FZ t p n v told → Off (fun b j => (b = 161 ∧ 12 ≤ j ∧ j ≤ 18) ∨ (b = 167 ∧ 2 ≤ j ∧ j < 127)) σ t →
    (∀ t2, RB t2 f N (trm f N p n i j (k + 1) s had v).1 → ((trm f N p n i j (k + 1) s had v).1.1 = 0 → FZ t2 p n (trm f N p n i j (k + 1) s had v).2 told) → Off (fun b j => (b = 161 ∧ 12 ≤ j ∧ j ≤ 18) ∨ (b = 167 ∧ 2 ≤ j ∧ j < 127)) σ t2 → Q 0 t2) →
    L (d + 4) M_R_readBracket 103 [vA 161, vI n, vI i, vU, vI j, vI had, vI 1, vU, vU, vU, vU] [] t Q := by
  intro k
  induction k with
  | zero =>
    intro s had v t g0 hk hhad hR hF hO h
    exact (R_terms_one hB hpn i0 ij jn 0 s had v t g0 hhad hR hF hO h (fun t2 z _ => by have := (tr5_lt hR.pb z).1; have := (tr5_pl (f := f) (p := p) (n := n) (had := had) hR.pb).1.2.2; omega))
  | succ k ih =>
    intro s had v t g0 hk hhad hR hF hO h
    refine R_terms_one hB hpn i0 ij jn (k + 1) s had v t g0 hhad hR hF hO h (fun t2 z hm hh hR2 hF2 hO2 => ?_)
    rw [trm_s, if_neg (by omega), if_pos hm] at h
    exact ih _ _ _ t2 z (by have := (tr5_lt hR.pb z).1; omega) hh hR2 hF2 hO2 h
end RRB
