/-! ===== the class reads a couple, a WORLD ===== -/
def PL (N : Int) (s s2 : PS) : Prop := PB N s2 ∧ s.2.2 ≤ s2.2.2
theorem PL.trans {N : Int} {s s2 s3 : PS} (h : PL N s s2) (h2 : PL N s2 s3) : PL N s s3 := ⟨h2.1, Int.le_trans h.2 h2.2⟩
section PLS
variable {f : Int → Int} {N : Int} {s : PS}
theorem adv_pl (h : PB N s) : PL N s (adv f N s) := by
  have h1 := tS_b (f := f) h.2.2
  have h2 := tE_b (f := f) h.2.2
  exact ⟨adv_pb h, by show s.2.2 ≤ tE f N s.2.2; omega⟩
theorem mst_pl {t : Bool} (h : PB N s) : PL N s (mst f N t s) := by
  refine ⟨mst_pb h, ?_⟩
  have := h.1
  by_cases g : 0 < s.1
  · rw [mst_bad g]; exact Int.le_refl _
  · cases t
    · rw [mst_no (by omega) rfl]; exact Int.le_refl _
    · rw [mst_go (by omega) rfl]; exact (adv_pl h).2
theorem cns_pl {lo hi : Int} (h : PB N s) : PL N s (cns f N lo hi s) := by
  refine ⟨cns_pb h, ?_⟩
  have := h.1
  by_cases g : 0 < s.1
  · rw [cns_bad g]; exact Int.le_refl _
  · have g0 : s.1 = 0 := by omega
    by_cases g2 : tK f N s.2.2 = 2
    · by_cases g3 : lo ≤ tV f N s.2.2 ∧ tV f N s.2.2 ≤ hi
      · rw [cns_go g0 g2 g3.1 g3.2]; exact (adv_pl h).2
      · rw [cns_4 g0 g2 g3]; exact Int.le_refl _
    · rw [cns_no g0 g2]; exact Int.le_refl _
theorem tr5_pl {p n had : Int} (h : PB N s) : PL N s (tr5 f N p n had s) := by
  have h1 : PL N s (tr1 f N s) := by
    unfold tr1
    split
    · exact adv_pl h
    · exact ⟨h, Int.le_refl _⟩
  have h2 : PL N s (tr2 f N p s) := h1.trans (cns_pl h1.1)
  have h3 : PL N s (tr3 f N p s) := h2.trans (mst_pl h2.1)
  have h4 : PL N s (tr4 f N p n s) := h3.trans (cns_pl h3.1)
  unfold tr5
  split
  · exact h4
  · split
    · exact ⟨⟨by show (0 : Int) ≤ 5; omega, h4.1.2⟩, h4.2⟩
    · exact h4
theorem trm_pl {p n i j : Int} : ∀ (k : Nat) (s : PS) (had : Int) (v : VV), PB N s → PL N s (trm f N p n i j k s had v).1
  | 0, s, _, _, h => ⟨h, Int.le_refl _⟩
  | k + 1, s, had, v, h => by
    have h5 := tr5_pl (f := f) (p := p) (n := n) (had := had) h
    rw [trm_s]
    split
    · exact h5
    · split
      · exact h5.trans (trm_pl k _ _ _ h5.1)
      · exact h5
theorem cp5_1 {n told : Int} (h : 0 < (cp1 f N s).1) : cp5 f N n told s = cp1 f N s := by
  have e2 : cp2 f N n s = cp1 f N s := cns_bad h
  have e3 : cp3 f N n s = cp1 f N s := by unfold cp3; rw [e2]; exact cns_bad h
  have e4 : cp4 f N n told s = cp1 f N s := by unfold cp4; rw [e3, if_pos h]
  unfold cp5; rw [e4]; exact mst_bad h
theorem cp5_2 {n told : Int} (h : 0 < (cp2 f N n s).1) : cp5 f N n told s = cp2 f N n s := by
  have e3 : cp3 f N n s = cp2 f N n s := cns_bad h
  have e4 : cp4 f N n told s = cp2 f N n s := by unfold cp4; rw [e3, if_pos h]
  unfold cp5; rw [e4]; exact mst_bad h
theorem cp5_3 {n told : Int} (h : 0 < (cp3 f N n s).1) : cp5 f N n told s = cp3 f N n s := by
  have e4 : cp4 f N n told s = cp3 f N n s := by unfold cp4; rw [if_pos h]
  unfold cp5; rw [e4]; exact mst_bad h
theorem cp5_4 {n told : Int} (h : 0 < (cp4 f N n told s).1) : cp5 f N n told s = cp4 f N n told s := mst_bad h
theorem cp7_bad {p n told : Int} {v : VV} (h : 0 < (cp5 f N n told s).1) : cp7 f N p n told s v = cp5 f N n told s := by
  have e6 : cp6 f N p n told s v = (cp5 f N n told s, v) := by unfold cp6; rw [if_pos h]
  unfold cp7; rw [e6]; exact mst_bad h
theorem cps_bad {p n told : Int} {k : Nat} {v : VV} (h : 0 < s.1) : cps f N p n k s told v = (s, v) := by
  cases k with
  | zero => rfl
  | succ k => show (if 0 < s.1 then (s, v) else _) = _; rw [if_pos h]
end PLS
section CRF
variable {d : Nat} {σ : SG} {Q : Int → SG → Prop} {f : Int → Int} {N p n : Int}
theorem off6 {t t2 : SG} (hO : Off (fun b j => b = 22 ∧ (j = 1 ∨ j = 2 ∨ j = 3 ∨ j = 6 ∨ j = 7 ∨ j = 8)) σ t) (h : Off (fun b j => b = 22 ∧ (j = 1 ∨ j = 6 ∨ j = 7 ∨ j = 8)) t t2) : Off (fun b j => b = 22 ∧ (j = 1 ∨ j = 2 ∨ j = 3 ∨ j = 6 ∨ j = 7 ∨ j = 8)) σ t2 := Off_trans hO (Off_mono h (fun b j q => by omega))
theorem off2 {t t2 : SG} (hO : Off (fun b j => b = 22 ∧ (j = 1 ∨ j = 2 ∨ j = 3 ∨ j = 6 ∨ j = 7 ∨ j = 8)) σ t) (h : Off (fun b j => b = 22 ∧ (j = 2 ∨ j = 3)) t t2) : Off (fun b j => b = 22 ∧ (j = 1 ∨ j = 2 ∨ j = 3 ∨ j = 6 ∨ j = 7 ∨ j = 8)) σ t2 := Off_trans hO (Off_mono h (fun b j q => by omega))
theorem Wd_readCouple_s {s : PS} {told : Int} (hpn : PN p n) (g0 : s.1 = 0) (hpb : PB N s) (htold : 0 ≤ told ∧ told < 33554432) (hT : TC σ f N s.2.2) (hn : σ 25 2 = n)
    (h1 : (cp5 f N n told s).1 = 0 → 0 ≤ cpi f N n s → cpi f N n s < cpj f N n s → cpj f N n s < n → s.2.2 + 2 ≤ (cp5 f N n told s).2.2 → ∀ σ', TC σ' f N (cp5 f N n told s).2.2 → Off (fun b j => b = 22 ∧ (j = 1 ∨ j = 2 ∨ j = 3 ∨ j = 6 ∨ j = 7 ∨ j = 8)) σ σ' → Q (5 * cpi f N n s + cpj f N n s) σ')
    (h0 : 0 < (cp5 f N n told s).1 → ∀ σ', FT σ' (cp5 f N n told s).1 (cp5 f N n told s).2.1 → Off (fun b j => b = 22 ∧ (j = 1 ∨ j = 2 ∨ j = 3 ∨ j = 6 ∨ j = 7 ∨ j = 8)) σ σ' → Q (-1) σ') : Tri (d + 6) M_Wd_readCouple [vA 25, vA 22, vI told] σ Q := by
  obtain ⟨b1, b2, b3, b4⟩ := hpn.b
  have n2 : ∀ t, Off (fun b j => b = 22 ∧ (j = 1 ∨ j = 2 ∨ j = 3 ∨ j = 6 ∨ j = 7 ∨ j = 8)) σ t → t 25 2 = n := fun t hO => (hO 25 2 (by omega)).trans hn
  refine t_Wd_readCouple (fun _ => ⟨ob_22, To_takeWord_s (k := 2) (by omega) hT (fun w0 t1 hT1 hO1 => ⟨fun y => by omega, fun _ => ⟨ob_25, ob_22, ?_⟩⟩) (fun w0 t1 hF hO1 => ⟨fun _ => ?_, fun y => absurd rfl y⟩)⟩)
  · have e1 : cp1 f N s = adv f N s := mst_go g0 (zb_t w0)
    have pb1 : PB N (adv f N s) := adv_pb hpb
    have lt1 := tE_lt (f := f) hpb.2.2 (by have := w0.1; omega : tK f N s.2.2 ≠ 0)
    have hD1 : Off (fun b j => b = 22 ∧ (j = 1 ∨ j = 2 ∨ j = 3 ∨ j = 6 ∨ j = 7 ∨ j = 8)) σ t1 := off6 Off_rfl hO1
    rw [n2 t1 hD1, w32_id (by omega) (by omega)]
    refine To_seesNumber_s (e := (adv f N s).2.2) hT1 (fun k2 l1 l2 hv1 => ⟨fun _ => ⟨ob_22, ob_22, ?_⟩, fun y => by omega⟩) (fun k2 t2 hF hO2 => ⟨fun y => absurd rfl y, fun _ => ?_⟩) (fun k2 l1 t2 hF hO2 => ⟨fun y => absurd rfl y, fun _ => ?_⟩)
    · have e2 : cp2 f N n s = adv f N (adv f N s) := by unfold cp2; rw [e1]; exact cns_go rfl k2 l1 l2
      have ei : cpi f N n s = tV f N (adv f N s).2.2 := by unfold cpi; rw [e1]; exact cnv_go rfl k2 l1 l2
      have lt2 := tE_lt (f := f) pb1.2.2 (by omega : tK f N (adv f N s).2.2 ≠ 0)
      have pb2 : PB N (adv f N (adv f N s)) := adv_pb pb1
      have hv1' : t1 22 1 = cpi f N n s := by rw [ei]; exact hv1
      refine To_next_s hT1 (fun t3 hT3 hO3 => ⟨ob_25, ob_22, ?_⟩)
      have hD3 : Off (fun b j => b = 22 ∧ (j = 1 ∨ j = 2 ∨ j = 3 ∨ j = 6 ∨ j = 7 ∨ j = 8)) σ t3 := off6 hD1 hO3
      rw [hv1', n2 t3 hD3, w32_id (x := cpi f N n s + 1) (by omega) (by omega), w32_id (x := n - 1) (by omega) (by omega)]
      refine To_seesNumber_s (e := (adv f N (adv f N s)).2.2) hT3 (fun k4 m1 m2 hv4 => ⟨fun _ => ⟨ob_22, ?_⟩, fun y => by omega⟩) (fun k4 t5 hF hO5 => ⟨fun y => absurd rfl y, fun _ => ?_⟩) (fun k4 m1 t5 hF hO5 => ⟨fun y => absurd rfl y, fun _ => ?_⟩)
      · have e3 : cp3 f N n s = adv f N (adv f N (adv f N s)) := by unfold cp3; rw [e2]; exact cns_go rfl k4 m1 m2
        have ej : cpj f N n s = tV f N (adv f N (adv f N s)).2.2 := by unfold cpj; rw [e2]; exact cnv_go rfl k4 m1 m2
        have pb3 : PB N (adv f N (adv f N (adv f N s))) := adv_pb pb2
        have lt3 := tE_lt (f := f) pb2.2.2 (by omega : tK f N (adv f N (adv f N s)).2.2 ≠ 0)
        have hv4' : t3 22 1 = cpj f N n s := by rw [ej]; exact hv4
        have i0 : 0 ≤ cpi f N n s := by omega
        have ij : cpi f N n s < cpj f N n s := by omega
        have jn : cpj f N n s < n := by omega
        rw [hv4', w32_id (x := cpi f N n s * 5) (by omega) (by omega), w32_id (x := cpi f N n s * 5 + cpj f N n s) (by omega) (by omega), show cpi f N n s * 5 + cpj f N n s = 5 * cpi f N n s + cpj f N n s by omega]
        refine ⟨fun z => ⟨ob_22, To_next_s hT3 (fun t5 hT5 hO5 => ⟨ob_22, ?_⟩)⟩, fun z => ⟨ob_22, To_blame_s hT3 (fun t5 q2 q3 _ hO5 => ?_)⟩⟩
        · have htb := (bit_eq (by omega) (by omega) (by omega) (by omega)).mp z
          have e4 : cp4 f N n told s = adv f N (adv f N (adv f N s)) := by
            unfold cp4
            rw [e3, if_neg (by show ¬ (0 : Int) < 0; omega), if_neg (by rw [htb]; exact Bool.false_ne_true)]
          have hD5 : Off (fun b j => b = 22 ∧ (j = 1 ∨ j = 2 ∨ j = 3 ∨ j = 6 ∨ j = 7 ∨ j = 8)) σ t5 := off6 hD3 hO5
          refine To_takeWord_s (k := 3) (e := (adv f N (adv f N (adv f N s))).2.2) (by omega) hT5 (fun w6 t6 hT6 hO6 => ⟨fun y => by omega, fun _ => ?_⟩) (fun w6 t6 hF hO6 => ⟨fun _ => ?_, fun y => absurd rfl y⟩)
          · have e5 : cp5 f N n told s = adv f N (adv f N (adv f N (adv f N s))) := by unfold cp5; rw [e4]; exact mst_go rfl (zb_t w6)
            have le4 := (adv_pl (f := f) pb3).2
            refine h1 (by rw [e5]; rfl) i0 ij jn ?_ t6 (by rw [e5]; exact hT6) (off6 hD5 hO6)
            rw [e5]
            have q1 : s.2.2 < (adv f N s).2.2 := lt1
            have q2 : (adv f N s).2.2 < (adv f N (adv f N s)).2.2 := lt2
            have q3 : (adv f N (adv f N s)).2.2 < (adv f N (adv f N (adv f N s))).2.2 := lt3
            omega
          · have e5 : cp5 f N n told s = (bk f N (adv f N (adv f N (adv f N s))).2.2 2, tS f N (adv f N (adv f N (adv f N s))).2.2, (adv f N (adv f N (adv f N s))).2.2) := by unfold cp5; rw [e4]; exact mst_no rfl (zb_f w6)
            exact h0 (by rw [e5]; exact bk_p (by omega)) t6 (by rw [e5]; exact hF) (off2 hD5 hO6)
        · have htb := (bit_ne (by omega) (by omega) (by omega) (by omega)).mp z
          have e4 : cp4 f N n told s = (5, tS f N (adv f N (adv f N s)).2.2, (adv f N (adv f N (adv f N s))).2.2) := by
            unfold cp4
            rw [e3, if_neg (by show ¬ (0 : Int) < 0; omega), if_pos htb, e2]
          have hb : 0 < (cp4 f N n told s).1 := by rw [e4]; show (0 : Int) < 5; omega
          refine h0 (by rw [cp5_4 hb]; exact hb) t5 ?_ (off2 hD3 hO5)
          rw [cp5_4 hb, e4]
          refine ⟨?_, q3⟩
          rw [q2]
          exact bk_4 (fun y => by have h9 : tK f N (adv f N (adv f N s)).2.2 = 2 := k4; have h8 : tK f N (adv f N (adv f N s)).2.2 = 4 := y; omega)
      · have e3 : cp3 f N n s = (bk f N (adv f N (adv f N s)).2.2 2, tS f N (adv f N (adv f N s)).2.2, (adv f N (adv f N s)).2.2) := by unfold cp3; rw [e2]; exact cns_no rfl k4
        have hb : 0 < (cp3 f N n s).1 := by rw [e3]; exact bk_p (by omega)
        exact h0 (by rw [cp5_3 hb]; exact hb) t5 (by rw [cp5_3 hb, e3]; exact hF) (off2 hD3 hO5)
      · have e3 : cp3 f N n s = (4, tS f N (adv f N (adv f N s)).2.2, (adv f N (adv f N s)).2.2) := by unfold cp3; rw [e2]; exact cns_4 rfl k4 m1
        have hb : 0 < (cp3 f N n s).1 := by rw [e3]; show (0 : Int) < 4; omega
        exact h0 (by rw [cp5_3 hb]; exact hb) t5 (by rw [cp5_3 hb, e3]; exact hF) (off2 hD3 hO5)
    · have e2 : cp2 f N n s = (bk f N (adv f N s).2.2 2, tS f N (adv f N s).2.2, (adv f N s).2.2) := by unfold cp2; rw [e1]; exact cns_no rfl k2
      have hb : 0 < (cp2 f N n s).1 := by rw [e2]; exact bk_p (by omega)
      exact h0 (by rw [cp5_2 hb]; exact hb) t2 (by rw [cp5_2 hb, e2]; exact hF) (off2 hD1 hO2)
    · have e2 : cp2 f N n s = (4, tS f N (adv f N s).2.2, (adv f N s).2.2) := by unfold cp2; rw [e1]; exact cns_4 rfl k2 l1
      have hb : 0 < (cp2 f N n s).1 := by rw [e2]; show (0 : Int) < 4; omega
      exact h0 (by rw [cp5_2 hb]; exact hb) t2 (by rw [cp5_2 hb, e2]; exact hF) (off2 hD1 hO2)
  · have e1 : cp1 f N s = (bk f N s.2.2 2, tS f N s.2.2, s.2.2) := mst_no g0 (zb_f w0)
    have hb : 0 < (cp1 f N s).1 := by rw [e1]; exact bk_p (by omega)
    exact h0 (by rw [cp5_1 hb]; exact hb) t1 (by rw [cp5_1 hb, e1]; exact hF) (off2 Off_rfl hO1)
/-- all couples, to the text's end -/
theorem Wd_couples (hpn : PN p n) : ∀ (k : Nat) (s : PS) (told x4 : Int) (v : VV) (t : SG), s.1 = 0 → PB N s → N - s.2.2 < k → 0 ≤ told ∧ told < 33554432 → 0 ≤ x4 ∧ 2 * x4 ≤ s.2.2 → TC t f N s.2.2 → WN t 25 p n v → Off (fun b j => (b = 22 ∧ (j = 1 ∨ j = 2 ∨ j = 3 ∨ j = 6 ∨ j = 7 ∨ j = 8)) ∨ (b = 25 ∧ (j = 1 ∨ j = 2)) ∨ b = 26) σ t →
    ((cps f N p n k s told v).1.1 = 0 → ∀ t2, WN t2 25 p n (cps f N p n k s told v).2 → FT t2 0 (-1) → Off (fun b j => (b = 22 ∧ (j = 1 ∨ j = 2 ∨ j = 3 ∨ j = 6 ∨ j = 7 ∨ j = 8)) ∨ (b = 25 ∧ (j = 1 ∨ j = 2)) ∨ b = 26) σ t2 → Q 1 t2) → (0 < (cps f N p n k s told v).1.1 → ∀ t2, FT t2 (cps f N p n k s told v).1.1 (cps f N p n k s told v).1.2.1 → Off (fun b j => (b = 22 ∧ (j = 1 ∨ j = 2 ∨ j = 3 ∨ j = 6 ∨ j = 7 ∨ j = 8)) ∨ (b = 25 ∧ (j = 1 ∨ j = 2)) ∨ b = 26) σ t2 → Q 0 t2) →
    L (d + 7) M_Wd_readFrom 104 [vA 25, vA 22, vU, vI told, vI x4, vU] [] t Q := by
  intro k
  induction k with
  | zero => intro s told x4 v t g0 hpb hk; have := hpb.2.2; omega
  | succ k ih =>
    intro s told x4 v t g0 hpb hk htold hx4 hT hW hO h1 h0
    have h600 := hT.2.2.1
    have hpbN := hpb.2.2
    have es : cps f N p n (k + 1) s told v = if 0 < s.1 then (s, v) else if tK f N s.2.2 = 0 then (s, v) else cps f N p n k (cp7 f N p n told s v) (or32 told (shl32 1 (5 * cpi f N n s + cpj f N n s))) (cp6 f N p n told s v).2 := rfl
    refine s_Wd_readFrom_104 ⟨fun z => by omega, fun _ => ⟨ob_22, t_To_atEnd ?_⟩⟩
    rw [hT.2.2.2.2.2.2.1]
    refine ⟨fun z => ⟨fun y => absurd rfl y, fun _ => ⟨ob_25, ?_⟩⟩, fun z => ⟨fun _ => ⟨ob_22, t_To_praise (fun s1 e1 s2 e2 => ⟨Or.inr rfl, ?_⟩)⟩, fun y => by omega⟩⟩
    · rw [es, if_neg (by omega), if_neg z] at h1 h0
      refine Wd_readCouple_s hpn g0 hpb htold hT hW.2.1 (fun c5 i0 ij jn le5 t2 hT2 hO2 => ⟨fun y => by omega, fun _ => ⟨ob_25, ?_⟩⟩) (fun c5 t2 hF hO2 => ⟨fun _ => ?_, fun y => by omega⟩)
      · have hW2 : WN t2 25 p n v := hW.fr (fun q => hO2 25 q (by omega)) (fun q => hO2 (25 + 1) q (by omega))
        have hD2 : Off (fun b j => (b = 22 ∧ (j = 1 ∨ j = 2 ∨ j = 3 ∨ j = 6 ∨ j = 7 ∨ j = 8)) ∨ (b = 25 ∧ (j = 1 ∨ j = 2)) ∨ b = 26) σ t2 := Off_trans hO (Off_mono hO2 (fun b j q => by omega))
        have pb5 : PB N (cp5 f N n told s) := ⟨by omega, hT2.2.2.2.1⟩
        have e6 : cp6 f N p n told s v = trm f N p n (cpi f N n s) (cpj f N n s) 601 (cp5 f N n told s) 0 v := by unfold cp6; rw [if_neg (by omega)]
        have pl6 := trm_pl (f := f) (p := p) (n := n) (i := cpi f N n s) (j := cpj f N n s) 601 (cp5 f N n told s) 0 v pb5
        have e7 : cp7 f N p n told s v = mst f N (zb (isS f N (trm f N p n (cpi f N n s) (cpj f N n s) 601 (cp5 f N n told s) 0 v).1.2.2 59)) (trm f N p n (cpi f N n s) (cpj f N n s) 601 (cp5 f N n told s) 0 v).1 := by unfold cp7; rw [e6]
        have pl7 : PL N (cp5 f N n told s) (cp7 f N p n told s v) := by rw [e7]; exact pl6.trans (mst_pl pl6.1)
        obtain ⟨o1, o2, _⟩ := or_bit (m := told) (l := 5 * cpi f N n s + cpj f N n s) (w := 25) (by omega) htold.1 (by have := htold.2; omega) (by omega) (by have := hpn.b; omega)
        refine Wd_readTerms_s hpn i0 ij jn c5 pb5 hT2 hW2 ⟨fun t3 g7 hT3 hW3 hO3 => ⟨fun _ => ?_, fun y => by omega⟩, fun t3 g7 hF hO3 => ⟨fun y => absurd rfl y, fun _ => ?_⟩⟩
        · rw [w32_id (by omega) (by omega)]
          rw [← e7] at g7 hT3
          rw [← e6] at hW3
          have := pl7.2
          exact ih _ _ (x4 + 1) _ t3 g7 pl7.1 (by omega) ⟨o1, by simpa using o2⟩ ⟨by omega, by omega⟩ hT3 hW3 (Off_trans hD2 hO3) h1 h0
        · rw [← e7] at g7 hF
          rw [cps_bad g7] at h0
          exact h0 g7 t3 hF (Off_trans hD2 hO3)
      · rw [cp7_bad c5, cps_bad c5] at h0
        exact h0 c5 t2 hF (Off_trans hO (Off_mono hO2 (fun b j q => by omega)))
    · rw [es, if_neg (by omega), if_pos z] at h1
      refine h1 g0 s2 ?_ ⟨by rw [e2, up_ne (by omega), e1, up_same], by rw [e2, up_same]⟩ (Off_trans hO (by rw [e2, e1]; exact Off_trans (Off_up (Or.inl ⟨rfl, by omega⟩)) (Off_up (Or.inl ⟨rfl, by omega⟩))))
      exact hW.fr (fun q => by rw [e2, up_ne (by omega), e1, up_ne (by omega)]) (fun q => by rw [e2, up_ne (by omega), e1, up_ne (by omega)])
end CRF
