/-! ===== the class reads a WORLD ===== -/
/-- what is to hold behind the terms of a couple -/
def PO9 (Q : Int → SG → Prop) (σ : SG) (f : Int → Int) (N p n : Int) (R : PS × VV) : Prop := (∀ t, (mst f N (zb (isS f N R.1.2.2 59)) R.1).1 = 0 → TC t f N (mst f N (zb (isS f N R.1.2.2 59)) R.1).2.2 → WN t 25 p n R.2 → Off (fun b j => (b = 22 ∧ (j = 1 ∨ j = 2 ∨ j = 3 ∨ j = 6 ∨ j = 7 ∨ j = 8)) ∨ (b = 25 ∧ (j = 1 ∨ j = 2)) ∨ b = 26) σ t → Q 1 t) ∧ (∀ t, 0 < (mst f N (zb (isS f N R.1.2.2 59)) R.1).1 → FT t (mst f N (zb (isS f N R.1.2.2 59)) R.1).1 (mst f N (zb (isS f N R.1.2.2 59)) R.1).2.1 → Off (fun b j => (b = 22 ∧ (j = 1 ∨ j = 2 ∨ j = 3 ∨ j = 6 ∨ j = 7 ∨ j = 8)) ∨ (b = 25 ∧ (j = 1 ∨ j = 2)) ∨ b = 26) σ t → Q 0 t)
theorem PO9.bad {Q : Int → SG → Prop} {σ t : SG} {f : Int → Int} {N p n : Int} {R : PS × VV} (h : PO9 Q σ f N p n R) (hb : 0 < R.1.1) (hF : FT t R.1.1 R.1.2.1) (hO : Off (fun b j => (b = 22 ∧ (j = 1 ∨ j = 2 ∨ j = 3 ∨ j = 6 ∨ j = 7 ∨ j = 8)) ∨ (b = 25 ∧ (j = 1 ∨ j = 2)) ∨ b = 26) σ t) : Q 0 t := by
  have := h.2 t
  rw [mst_bad hb] at this
  exact this hb hF hO
theorem trm_s {f : Int → Int} {N p n i j : Int} {k : Nat} {s : PS} {had : Int} {v : VV} : trm f N p n i j (k + 1) s had v = if 0 < (tr5 f N p n had s).1 then (tr5 f N p n had s, v) else if mor f N (tr5 f N p n had s).2.2 = true then trm f N p n i j k (tr5 f N p n had s) (or32 had (shl32 1 (trk f N p n s))) (w3 v i j (trk f N p n s) (trv f N p s)) else (tr5 f N p n had s, w3 v i j (trk f N p n s) (trv f N p s)) := rfl
theorem trm_bad {f : Int → Int} {N p n i j : Int} {k : Nat} {s : PS} {had : Int} {v : VV} (h : 0 < (tr5 f N p n had s).1) : trm f N p n i j (k + 1) s had v = (tr5 f N p n had s, v) := by rw [trm_s, if_pos h]
theorem tr5_2 {f : Int → Int} {N p n had : Int} {s : PS} (h : 0 < (tr2 f N p s).1) : tr5 f N p n had s = tr2 f N p s := by
  have e3 : tr3 f N p s = tr2 f N p s := mst_bad h
  have e4 : tr4 f N p n s = tr2 f N p s := by unfold tr4; rw [e3]; exact cns_bad h
  unfold tr5
  rw [e4, if_pos h]
theorem tr5_3 {f : Int → Int} {N p n had : Int} {s : PS} (h : 0 < (tr3 f N p s).1) : tr5 f N p n had s = tr3 f N p s := by
  have e4 : tr4 f N p n s = tr3 f N p s := cns_bad h
  unfold tr5
  rw [e4, if_pos h]
theorem tr5_4 {f : Int → Int} {N p n had : Int} {s : PS} (h : 0 < (tr4 f N p n s).1) : tr5 f N p n had s = tr4 f N p n s := by
  unfold tr5
  rw [if_pos h]
theorem mor_s {f : Int → Int} {N e c : Int} (h : mor f N e = true) : ¬ isS f N e c := fun z => by
  unfold mor at h
  rw [zb_f (fun y => by have := y.1; have := z.1; omega), decide_eq_false (by have := z.1; omega)] at h
  cases h
section CRD
variable {d : Nat} {σ : SG} {Q : Int → SG → Prop} {f : Int → Int} {N p n i j : Int}
theorem offT {t t2 : SG} (hO : Off (fun b j => (b = 22 ∧ (j = 1 ∨ j = 2 ∨ j = 3 ∨ j = 6 ∨ j = 7 ∨ j = 8)) ∨ (b = 25 ∧ (j = 1 ∨ j = 2)) ∨ b = 26) σ t) (h : Off (fun b j => b = 22 ∧ (j = 1 ∨ j = 6 ∨ j = 7 ∨ j = 8)) t t2) : Off (fun b j => (b = 22 ∧ (j = 1 ∨ j = 2 ∨ j = 3 ∨ j = 6 ∨ j = 7 ∨ j = 8)) ∨ (b = 25 ∧ (j = 1 ∨ j = 2)) ∨ b = 26) σ t2 := Off_trans hO (Off_mono h (fun b j q => by omega))
theorem offF {t t2 : SG} (hO : Off (fun b j => (b = 22 ∧ (j = 1 ∨ j = 2 ∨ j = 3 ∨ j = 6 ∨ j = 7 ∨ j = 8)) ∨ (b = 25 ∧ (j = 1 ∨ j = 2)) ∨ b = 26) σ t) (h : Off (fun b j => b = 22 ∧ (j = 2 ∨ j = 3)) t t2) : Off (fun b j => (b = 22 ∧ (j = 1 ∨ j = 2 ∨ j = 3 ∨ j = 6 ∨ j = 7 ∨ j = 8)) ∨ (b = 25 ∧ (j = 1 ∨ j = 2)) ∨ b = 26) σ t2 := Off_trans hO (Off_mono h (fun b j q => by omega))
theorem wnT {t t2 : SG} {v : VV} (hW : WN t 25 p n v) (h : Off (fun b j => b = 22 ∧ (j = 1 ∨ j = 6 ∨ j = 7 ∨ j = 8)) t t2) : WN t2 25 p n v := hW.fr (fun k => h 25 k (by omega)) (fun k => h (25 + 1) k (by omega))
theorem Wd_terms_50 {k : Nat} {s : PS} {had x4 : Int} {v : VV} {t : SG} (hpn : PN p n) (i0 : 0 ≤ i) (ij : i < j) (jn : j < n) (g0 : s.1 = 0) (hpb : PB N s) (hhad : 0 ≤ had ∧ had < 32) (hx4 : 0 ≤ x4 ∧ 3 * x4 ≤ s.2.2) (hT : TC t f N (tr1 f N s).2.2) (hW : WN t 25 p n v) (hO : Off (fun b j => (b = 22 ∧ (j = 1 ∨ j = 2 ∨ j = 3 ∨ j = 6 ∨ j = 7 ∨ j = 8)) ∨ (b = 25 ∧ (j = 1 ∨ j = 2)) ∨ b = 26) σ t) (hP : PO9 Q σ f N p n (trm f N p n i j (k + 1) s had v))
    (next : ∀ t2, (tr5 f N p n had s).1 = 0 → s.2.2 < (tr5 f N p n had s).2.2 → PB N (tr5 f N p n had s) → 3 * (x4 + 1) ≤ (tr5 f N p n had s).2.2 → 0 ≤ or32 had (shl32 1 (trk f N p n s)) ∧ or32 had (shl32 1 (trk f N p n s)) < 32 → TC t2 f N (tr5 f N p n had s).2.2 → WN t2 25 p n (w3 v i j (trk f N p n s) (trv f N p s)) → Off (fun b j => (b = 22 ∧ (j = 1 ∨ j = 2 ∨ j = 3 ∨ j = 6 ∨ j = 7 ∨ j = 8)) ∨ (b = 25 ∧ (j = 1 ∨ j = 2)) ∨ b = 26) σ t2 → L (d + 6) M_Wd_readTerms 5 [vA 25, vA 22, vI (5 * i + j), vI (or32 had (shl32 1 (trk f N p n s))), vI (x4 + 1), vU, vU, vU] [] t2 Q) :
    L (d + 6) M_Wd_readTerms 50 [vA 25, vA 22, vI (5 * i + j), vI had, vI x4, vI (if zb (isU f N s.2.2 (strI 4)) = true then 1 else 0), vU, vU] [] t Q := by
  obtain ⟨b1, b2, b3, b4⟩ := hpn.b
  have h600 := hT.2.2.1
  have hpbN := hpb.2.2
  have g1 : (tr1 f N s).1 = 0 := by unfold tr1; split; exact rfl; exact g0
  have pb1 : PB N (tr1 f N s) := by unfold tr1; split; exact adv_pb hpb; exact hpb
  have le1 : s.2.2 ≤ (tr1 f N s).2.2 := by
    unfold tr1
    split
    · have := tS_b (f := f) hpb.2.2
      have := tE_b (f := f) hpb.2.2
      show _ ≤ tE f N s.2.2
      omega
    · exact Int.le_refl _
  have hmul : ∀ x : Int, (5 * i + j).tdiv 5 = i ∧ (5 * i + j).tmod 5 = j := fun _ => by
    rw [Int.tdiv_eq_ediv_of_nonneg (by omega), Int.tmod_eq_emod_of_nonneg (by omega)]; omega
  have e1p : t 25 1 = p := hW.1
  refine s_Wd_readTerms_50 ⟨ob_25, ob_22, ?_⟩
  rw [e1p, w32_id (by omega) (by omega)]
  refine To_seesNumber_s hT (fun k2 l1 l2 hv1 => ⟨fun _ => ⟨ob_22, ob_22, ?_⟩, fun y => by omega⟩) (fun k2 t2 hF hO2 => ⟨fun y => absurd rfl y, fun _ => ?_⟩) (fun k2 l1 t2 hF hO2 => ⟨fun y => absurd rfl y, fun _ => ?_⟩)
  · have e2 : tr2 f N p s = adv f N (tr1 f N s) := cns_go g1 k2 l1 l2
    have ev : cnv f N 1 (p - 1) (tr1 f N s) = tV f N (tr1 f N s).2.2 := cnv_go g1 k2 l1 l2
    have lt2 := tE_lt (f := f) pb1.2.2 (by omega : tK f N (tr1 f N s).2.2 ≠ 0)
    refine To_next_s hT (fun t3 hT3 hO3 => ⟨ob_22, ?_⟩)
    have pb2 : PB N (adv f N (tr1 f N s)) := adv_pb pb1
    refine To_takeWord_s (k := 5) (by omega) hT3 (fun w5 t4 hT4 hO4 => ⟨fun y => by omega, fun _ => ⟨ob_25, ob_22, ?_⟩⟩) (fun w5 t4 hF hO4 => ⟨fun _ => ?_, fun y => absurd rfl y⟩)
    · have e3 : tr3 f N p s = adv f N (adv f N (tr1 f N s)) := by unfold tr3; rw [e2]; exact mst_go rfl (zb_t w5)
      have pb3 : PB N (adv f N (adv f N (tr1 f N s))) := adv_pb pb2
      have lt3 := tE_lt (f := f) pb2.2.2 (by have := w5.1; show tK f N (tE f N (tr1 f N s).2.2) ≠ 0; omega)
      have hW4 := wnT (wnT hW hO3) hO4
      have e2n : t4 25 2 = n := hW4.2.1
      rw [e2n, w32_id (by omega) (by omega)]
      have e1v : t 22 1 = tV f N (tr1 f N s).2.2 := hv1
      refine To_seesNumber_s (e := (adv f N (adv f N (tr1 f N s))).2.2) hT4 (fun k4 m1 m2 hv4 => ⟨fun _ => ⟨ob_22, ?_, ?_⟩, fun y => by omega⟩) (fun k4 t5 hF hO5 => ⟨fun y => absurd rfl y, fun _ => ?_⟩) (fun k4 m1 t5 hF hO5 => ⟨fun y => absurd rfl y, fun _ => ?_⟩)
      · have e4 : tr4 f N p n s = adv f N (adv f N (adv f N (tr1 f N s))) := by unfold tr4; rw [e3]; exact cns_go rfl k4 m1 m2
        have ek : trk f N p n s = tV f N (adv f N (adv f N (tr1 f N s))).2.2 := by unfold trk; rw [e3]; exact cnv_go rfl k4 m1 m2
        have lt4 := tE_lt (f := f) pb3.2.2 (by omega : tK f N (adv f N (adv f N (tr1 f N s))).2.2 ≠ 0)
        have e5v : t4 22 1 = trk f N p n s := by rw [ek]; exact hv4
        have hk0 : 0 ≤ trk f N p n s ∧ trk f N p n s < n := by rw [ek]; omega
        rw [e5v]
        intro hb0
        have htb := (bit_eq (by omega) (by omega) (by omega) (by omega)).mp hb0
        have e5 : tr5 f N p n had s = adv f N (adv f N (adv f N (tr1 f N s))) := by
          unfold tr5
          rw [e4, if_neg (by show ¬ (0 : Int) < 0; omega), if_neg (by rw [htb]; exact Bool.false_ne_true)]
        obtain ⟨o1, o2, _⟩ := or_bit (m := had) (l := trk f N p n s) (w := 5) (by omega) hhad.1 (by omega) hk0.1 (by omega)
        have go : ∀ val, val = trv f N p s → -10 ≤ val ∧ val ≤ 10 → Tri (d + 5) M_Wd_setCell [vA 25, vI (w32 ((5 * i + j).tdiv 5)), vI ((5 * i + j).tmod 5), vI (trk f N p n s), vI val] t4 (fun r10 σ10 => obok 8 22 ∧ Tri (d + 5) M_To_advance [vA 22] σ10 (fun r11 σ11 => L (d + 6) M_Wd_readTerms 5 [vA 25, vA 22, vI (5 * i + j), vI (or32 had (shl32 1 (trk f N p n s))), vI (w32 (x4 + 1)), vU, vU, vU] [] σ11 Q)) := fun val hval hvb => by
          rw [(hmul 0).1, (hmul 0).2, w32_id (x := i) (by omega) (by omega), w32_id (x := x4 + 1) (by omega) (by omega)]
          refine Wd_setMK ob_25 hW4.1 hW4.2.1 hpn hW4.2.2 i0 ij jn hk0.1 hk0.2 (by omega) (fun t6 ht6 hO6 => ⟨ob_22, ?_⟩)
          have hT6 : TC t6 f N (adv f N (adv f N (tr1 f N s))).2.2 := TC.fr hT4 (funext fun q => hO6 23 q (by omega)) (fun q _ _ _ _ => hO6 22 q (by omega))
          have hW6 : WN t6 25 p n (w3 v i j (trk f N p n s) (trv f N p s)) := ⟨(hO6 25 1 (by omega)).trans hW4.1, (hO6 25 2 (by omega)).trans hW4.2.1, fun q q0 q1 => by rw [← hval]; exact ht6 q q0 q1⟩
          refine To_next_s hT6 (fun t7 hT7 hO7 => ?_)
          refine next t7 (by rw [e5]; rfl) (by rw [e5]; exact Int.lt_of_le_of_lt le1 (Int.lt_trans (Int.lt_trans lt2 lt3) lt4)) (by rw [e5]; exact adv_pb pb3) ?_ ⟨o1, by simpa using o2⟩ (by rw [e5]; exact hT7) (wnT hW6 hO7) (offT (Off_trans (offT (offT hO hO3) hO4) (Off_mono hO6 (fun b j q => by omega))) hO7)
          rw [e5]
          have q2 : (tr1 f N s).2.2 < tE f N (tr1 f N s).2.2 := lt2
          have q3 : tE f N (tr1 f N s).2.2 < (adv f N (adv f N (tr1 f N s))).2.2 := lt3
          have q4 : (adv f N (adv f N (tr1 f N s))).2.2 < (adv f N (adv f N (adv f N (tr1 f N s)))).2.2 := lt4
          omega
        have e3v : t 22 1 = tV f N (tr1 f N s).2.2 := hv1
        refine ⟨fun z => ⟨ob_25, ?_⟩, fun z => ⟨ob_25, ?_⟩⟩
        · rw [e3v]
          refine go _ ?_ (by omega)
          have hl : ¬ zb (isU f N s.2.2 (strI 4)) = true := fun y => by rw [if_pos y] at z; omega
          unfold trv
          rw [if_neg hl, ev]
        · rw [e3v, w32_id (x := -tV f N (tr1 f N s).2.2) (by omega) (by omega)]
          refine go _ ?_ (by omega)
          have hl : zb (isU f N s.2.2 (strI 4)) = true := by
            by_cases y : zb (isU f N s.2.2 (strI 4)) = true
            · exact y
            · rw [if_neg y] at z; omega
          unfold trv
          rw [if_pos hl, ev]
      · have e4 : tr4 f N p n s = adv f N (adv f N (adv f N (tr1 f N s))) := by unfold tr4; rw [e3]; exact cns_go rfl k4 m1 m2
        have ek : trk f N p n s = tV f N (adv f N (adv f N (tr1 f N s))).2.2 := by unfold trk; rw [e3]; exact cnv_go rfl k4 m1 m2
        have e5v : t4 22 1 = trk f N p n s := by rw [ek]; exact hv4
        have hk0 : 0 ≤ trk f N p n s ∧ trk f N p n s < n := by rw [ek]; omega
        rw [e5v]
        intro hb0
        have htb := (bit_ne (by omega) (by omega) (by omega) (by omega)).mp hb0
        refine ⟨ob_22, To_blame_s hT4 (fun t6 q2 q3 _ hO6 => ⟨Or.inl rfl, ?_⟩)⟩
        have e5 : tr5 f N p n had s = (5, tS f N (tr3 f N p s).2.2, (tr4 f N p n s).2.2) := by
          unfold tr5
          rw [if_neg (by rw [e4]; show ¬ (0 : Int) < 0; omega), if_pos htb]
        rw [trm_bad (by rw [e5]; show (0 : Int) < 5; omega)] at hP
        refine hP.bad (by rw [e5]; show (0 : Int) < 5; omega) ?_ (offF (offT (offT hO hO3) hO4) hO6)
        rw [e5, e3]
        refine ⟨?_, q3⟩
        rw [q2]
        exact bk_4 (fun y => by have h9 : tK f N (adv f N (adv f N (tr1 f N s))).2.2 = 2 := k4; have h8 : tK f N (adv f N (adv f N (tr1 f N s))).2.2 = 4 := y; omega)
      · have e4 : tr4 f N p n s = (bk f N (adv f N (adv f N (tr1 f N s))).2.2 2, tS f N (adv f N (adv f N (tr1 f N s))).2.2, (adv f N (adv f N (tr1 f N s))).2.2) := by unfold tr4; rw [e3]; exact cns_no rfl k4
        have hb : 0 < (tr4 f N p n s).1 := by rw [e4]; exact bk_p (by omega)
        rw [trm_bad (by rw [tr5_4 hb]; exact hb), tr5_4 hb] at hP
        exact hP.bad hb (by rw [e4]; exact hF) (offF (offT (offT hO hO3) hO4) hO5)
      · have e4 : tr4 f N p n s = (4, tS f N (adv f N (adv f N (tr1 f N s))).2.2, (adv f N (adv f N (tr1 f N s))).2.2) := by unfold tr4; rw [e3]; exact cns_4 rfl k4 m1
        have hb : 0 < (tr4 f N p n s).1 := by rw [e4]; show (0 : Int) < 4; omega
        rw [trm_bad (by rw [tr5_4 hb]; exact hb), tr5_4 hb] at hP
        exact hP.bad hb (by rw [e4]; exact hF) (offF (offT (offT hO hO3) hO4) hO5)
    · have e3 : tr3 f N p s = (bk f N (adv f N (tr1 f N s)).2.2 2, tS f N (adv f N (tr1 f N s)).2.2, (adv f N (tr1 f N s)).2.2) := by unfold tr3; rw [e2]; exact mst_no rfl (zb_f w5)
      have hb : 0 < (tr3 f N p s).1 := by rw [e3]; exact bk_p (by omega)
      rw [trm_bad (by rw [tr5_3 hb]; exact hb), tr5_3 hb] at hP
      exact hP.bad hb (by rw [e3]; exact hF) (offF (offT hO hO3) hO4)
  · have e2 : tr2 f N p s = (bk f N (tr1 f N s).2.2 2, tS f N (tr1 f N s).2.2, (tr1 f N s).2.2) := cns_no g1 k2
    have hb : 0 < (tr2 f N p s).1 := by rw [e2]; exact bk_p (by omega)
    rw [trm_bad (by rw [tr5_2 hb]; exact hb), tr5_2 hb] at hP
    exact hP.bad hb (by rw [e2]; exact hF) (offF hO hO2)
  · have e2 : tr2 f N p s = (4, tS f N (tr1 f N s).2.2, (tr1 f N s).2.2) := cns_4 g1 k2 l1
    have hb : 0 < (tr2 f N p s).1 := by rw [e2]; show (0 : Int) < 4; omega
    rw [trm_bad (by rw [tr5_2 hb]; exact hb), tr5_2 hb] at hP
    exact hP.bad hb (by rw [e2]; exact hF) (offF hO hO2)
/-- the terms, from the head of the loop on -/
theorem Wd_terms_5 (hpn : PN p n) (i0 : 0 ≤ i) (ij : i < j) (jn : j < n) : ∀ (k : Nat) (s : PS) (had x4 : Int) (v : VV) (t : SG), s.1 = 0 → PB N s → N - s.2.2 < k + 1 → 0 ≤ had ∧ had < 32 → 0 ≤ x4 ∧ 3 * x4 ≤ s.2.2 → (x4 = 0 ∨ ¬ isS f N s.2.2 59) → TC t f N s.2.2 → WN t 25 p n v → Off (fun b j => (b = 22 ∧ (j = 1 ∨ j = 2 ∨ j = 3 ∨ j = 6 ∨ j = 7 ∨ j = 8)) ∨ (b = 25 ∧ (j = 1 ∨ j = 2)) ∨ b = 26) σ t → PO9 Q σ f N p n (trm f N p n i j (k + 1) s had v) → L (d + 6) M_Wd_readTerms 5 [vA 25, vA 22, vI (5 * i + j), vI had, vI x4, vU, vU, vU] [] t Q := by
  intro k
  induction k with
  | zero =>
    intro s had x4 v t g0 hpb hk hhad hx4 hsg hT hW hO hP
    have h600 := hT.2.2.1
    have hend : tK f N s.2.2 = 0 := tK_0.mpr (by have := tS_b (f := f) hpb.2.2; omega)
    have no4 : ¬ isU f N s.2.2 (strI 4) := fun y => by have := y.1; omega
    have e1 : tr1 f N s = s := by unfold tr1; rw [if_neg (by rw [zb_f no4]; exact Bool.false_ne_true)]
    have e2 : tr2 f N p s = (bk f N s.2.2 2, tS f N s.2.2, s.2.2) := by unfold tr2; rw [e1]; exact cns_no g0 (by omega)
    have hb : 0 < (tr2 f N p s).1 := by rw [e2]; exact bk_p (by omega)
    have at50 : L (d + 6) M_Wd_readTerms 50 [vA 25, vA 22, vI (5 * i + j), vI had, vI x4, vI 0, vU, vU] [] t Q := by
      have := Wd_terms_50 (d := d) (k := 0) (s := s) hpn i0 ij jn g0 hpb hhad hx4 (by rw [e1]; exact hT) hW hO hP (fun t2 z => by rw [tr5_2 hb] at z; omega)
      rw [zb_f no4, if_neg Bool.false_ne_true] at this
      exact this
    refine s_Wd_readTerms_5 ⟨fun z => by have := hpb.2.2; omega, fun _ => ⟨fun _ => ⟨ob_22, To_isWord_s (k := 4) (by omega) hT (fun y => absurd y no4) (fun _ => ⟨fun _ => at50, fun y => absurd rfl y⟩)⟩, fun z => ⟨ob_22, To_isSign_s hT (fun y => by rcases hsg with h | h; omega; exact absurd y h) (fun _ => ⟨fun _ => ⟨ob_22, To_isWord_s (k := 4) (by omega) hT (fun y => absurd y no4) (fun _ => ⟨fun _ => at50, fun y => absurd rfl y⟩)⟩, fun y => absurd rfl y⟩)⟩⟩⟩
  | succ k ih =>
    intro s had x4 v t g0 hpb hk hhad hx4 hsg hT hW hO hP
    have h600 := hT.2.2.1
    have nxt : ∀ t2, (tr5 f N p n had s).1 = 0 → s.2.2 < (tr5 f N p n had s).2.2 → PB N (tr5 f N p n had s) → 3 * (x4 + 1) ≤ (tr5 f N p n had s).2.2 → 0 ≤ or32 had (shl32 1 (trk f N p n s)) ∧ or32 had (shl32 1 (trk f N p n s)) < 32 → TC t2 f N (tr5 f N p n had s).2.2 → WN t2 25 p n (w3 v i j (trk f N p n s) (trv f N p s)) → Off (fun b j => (b = 22 ∧ (j = 1 ∨ j = 2 ∨ j = 3 ∨ j = 6 ∨ j = 7 ∨ j = 8)) ∨ (b = 25 ∧ (j = 1 ∨ j = 2)) ∨ b = 26) σ t2 → L (d + 6) M_Wd_readTerms 5 [vA 25, vA 22, vI (5 * i + j), vI (or32 had (shl32 1 (trk f N p n s))), vI (x4 + 1), vU, vU, vU] [] t2 Q := by
      intro t2 n0 nlt npb n3 nh nT nW nO
      rw [trm_s, if_neg (by omega)] at hP
      by_cases hm : mor f N (tr5 f N p n had s).2.2 = true
      · rw [if_pos hm] at hP
        exact ih _ _ (x4 + 1) _ t2 n0 npb (by omega) nh ⟨by omega, n3⟩ (Or.inr (mor_s hm)) nT nW nO hP
      · rw [if_neg hm] at hP
        by_cases hs9 : isS f N (tr5 f N p n had s).2.2 59
        · refine s_Wd_readTerms_5 ⟨fun z => by have := npb.2.2; omega, fun _ => ⟨fun z => by omega, fun z => ⟨ob_22, To_isSign_s nT (fun _ => ⟨fun y => by omega, fun _ => ⟨ob_22, To_next_s nT (fun t3 hT3 hO3 => ?_)⟩⟩) (fun y => absurd hs9 y)⟩⟩⟩
          have := hP.1 t3
          rw [mst_go n0 (zb_t hs9)] at this
          exact this rfl hT3 (wnT nW hO3) (offT nO hO3)
        · have no4 : ¬ isU f N (tr5 f N p n had s).2.2 (strI 4) := fun y => hm (by unfold mor; rw [zb_t y]; rfl)
          have no2 : tK f N (tr5 f N p n had s).2.2 ≠ 2 := fun y => hm (by unfold mor; rw [decide_eq_true y]; exact Bool.or_true _)
          have fail : ∀ x5, L (d + 6) M_Wd_readTerms 50 [vA 25, vA 22, vI (5 * i + j), vI (or32 had (shl32 1 (trk f N p n s))), vI (x4 + 1), vI x5, vU, vU] [] t2 Q := fun x5 => by
            refine s_Wd_readTerms_50 ⟨ob_25, ob_22, To_seesNumber_s nT (fun y => absurd y no2) (fun _ t3 hF hO3 => ⟨fun y => absurd rfl y, fun _ => ?_⟩) (fun y => absurd y no2)⟩
            have := hP.2 t3
            rw [mst_no n0 (zb_f hs9)] at this
            exact this (bk_p (by omega)) hF (offF nO hO3)
          exact s_Wd_readTerms_5 ⟨fun z => by have := npb.2.2; omega, fun _ => ⟨fun z => by omega, fun z => ⟨ob_22, To_isSign_s nT (fun y => absurd y hs9) (fun _ => ⟨fun _ => ⟨ob_22, To_isWord_s (k := 4) (by omega) nT (fun y => absurd y no4) (fun _ => ⟨fun _ => fail 0, fun y => absurd rfl y⟩)⟩, fun y => absurd rfl y⟩)⟩⟩⟩
    have at50 : ∀ t2, TC t2 f N (tr1 f N s).2.2 → WN t2 25 p n v → Off (fun b j => (b = 22 ∧ (j = 1 ∨ j = 2 ∨ j = 3 ∨ j = 6 ∨ j = 7 ∨ j = 8)) ∨ (b = 25 ∧ (j = 1 ∨ j = 2)) ∨ b = 26) σ t2 → L (d + 6) M_Wd_readTerms 50 [vA 25, vA 22, vI (5 * i + j), vI had, vI x4, vI (if zb (isU f N s.2.2 (strI 4)) = true then 1 else 0), vU, vU] [] t2 Q := fun t2 hT2 hW2 hO2 =>
      Wd_terms_50 (d := d) (k := k + 1) (s := s) hpn i0 ij jn g0 hpb hhad hx4 hT2 hW2 hO2 hP nxt
    have less : Tri (d + 5) M_To_isWord [vA 22, vA (-10 - (4 : Int))] t (fun r4 σ4 => (r4 = 0 → L (d + 6) M_Wd_readTerms 50 [vA 25, vA 22, vI (5 * i + j), vI had, vI x4, vI r4, vU, vU] [] σ4 Q) ∧ (r4 ≠ 0 → obok 8 22 ∧ Tri (d + 5) M_To_advance [vA 22] σ4 (fun r6 σ6 => L (d + 6) M_Wd_readTerms 50 [vA 25, vA 22, vI (5 * i + j), vI had, vI x4, vI r4, vU, vU] [] σ6 Q))) := by
      refine To_isWord_s (k := 4) (by omega) hT (fun y => ⟨fun z => by omega, fun _ => ⟨ob_22, To_next_s hT (fun t2 hT2 hO2 => ?_)⟩⟩) (fun y => ⟨fun _ => ?_, fun z => absurd rfl z⟩)
      · have e1 : tr1 f N s = adv f N s := by unfold tr1; rw [if_pos (zb_t y)]
        have := at50 t2 (by rw [e1]; exact hT2) (wnT hW hO2) (offT hO hO2)
        rw [if_pos (zb_t y)] at this
        exact this
      · have e1 : tr1 f N s = s := by unfold tr1; rw [if_neg (by rw [zb_f y]; exact Bool.false_ne_true)]
        have := at50 t (by rw [e1]; exact hT) hW hO
        rw [if_neg (by rw [zb_f y]; exact Bool.false_ne_true)] at this
        exact this
    exact s_Wd_readTerms_5 ⟨fun z => by have := hpb.2.2; omega, fun _ => ⟨fun _ => ⟨ob_22, less⟩, fun z => ⟨ob_22, To_isSign_s hT (fun y => by rcases hsg with h | h; omega; exact absurd y h) (fun _ => ⟨fun _ => ⟨ob_22, less⟩, fun y => absurd rfl y⟩)⟩⟩⟩
theorem Wd_readTerms_s {s : PS} {v : VV} (hpn : PN p n) (i0 : 0 ≤ i) (ij : i < j) (jn : j < n) (g0 : s.1 = 0) (hpb : PB N s) (hT : TC σ f N s.2.2) (hW : WN σ 25 p n v) (hP : PO9 Q σ f N p n (trm f N p n i j 601 s 0 v)) : Tri (d + 6) M_Wd_readTerms [vA 25, vA 22, vI (5 * i + j)] σ Q := by
  have h600 := hT.2.2.1
  have := hpb.2.1
  exact t_Wd_readTerms (fun _ => Wd_terms_5 hpn i0 ij jn 600 s 0 0 v σ g0 hpb (by omega) ⟨by omega, by omega⟩ ⟨by omega, by omega⟩ (Or.inl rfl) hT hW Off_rfl hP)
end CRD
