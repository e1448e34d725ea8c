/-! ===== texts of WORLDS, told purely: (FAULT, its place, the place behind which the TOKEN stands) ===== -/
abbrev PS : Type := Int × Int × Int
noncomputable def zb (P : Prop) : Bool := @decide P (Classical.propDecidable P)
theorem zb_t {P : Prop} (h : P) : zb P = true := @decide_eq_true P (Classical.propDecidable P) h
theorem zb_f {P : Prop} (h : ¬ P) : zb P = false := @decide_eq_false P (Classical.propDecidable P) h
theorem zb_i {P : Prop} (h : zb P = true) : P := @of_decide_eq_true P (Classical.propDecidable P) h
theorem zb_n {P : Prop} (h : zb P = false) : ¬ P := fun z => by rw [zb_t z] at h; cases h
def adv (f : Int → Int) (N : Int) (s : PS) : PS := (0, s.2.1, tE f N s.2.2)
def mst (f : Int → Int) (N : Int) (t : Bool) (s : PS) : PS := if 0 < s.1 then s else if t = true then adv f N s else (bk f N s.2.2 2, tS f N s.2.2, s.2.2)
def cns (f : Int → Int) (N lo hi : Int) (s : PS) : PS := if 0 < s.1 then s else if tK f N s.2.2 = 2 then (if lo ≤ tV f N s.2.2 ∧ tV f N s.2.2 ≤ hi then adv f N s else (4, tS f N s.2.2, s.2.2)) else (bk f N s.2.2 2, tS f N s.2.2, s.2.2)
def cnv (f : Int → Int) (N lo hi : Int) (s : PS) : Int := if 0 < s.1 then 0 else if tK f N s.2.2 = 2 then (if lo ≤ tV f N s.2.2 ∧ tV f N s.2.2 ≤ hi then tV f N s.2.2 else 0) else 0
theorem bk_p {f : Int → Int} {N e k : Int} (h : 0 < k) : 0 < bk f N e k := by unfold bk; split <;> omega
theorem bk_4 {f : Int → Int} {N e k : Int} (h : tK f N e ≠ 4) : bk f N e k = k := by unfold bk; rw [if_neg h]
section PUR
variable {f : Int → Int} {N : Int} {s : PS}
theorem mst_bad {t : Bool} (h : 0 < s.1) : mst f N t s = s := by unfold mst; rw [if_pos h]
theorem mst_go {t : Bool} (h : s.1 = 0) (ht : t = true) : mst f N t s = adv f N s := by unfold mst; rw [if_neg (by omega), if_pos ht]
theorem mst_no {t : Bool} (h : s.1 = 0) (ht : t = false) : mst f N t s = (bk f N s.2.2 2, tS f N s.2.2, s.2.2) := by unfold mst; rw [if_neg (by omega), if_neg (by rw [ht]; exact Bool.false_ne_true)]
theorem cns_bad {lo hi : Int} (h : 0 < s.1) : cns f N lo hi s = s := by unfold cns; rw [if_pos h]
theorem cns_go {lo hi : Int} (h : s.1 = 0) (hk : tK f N s.2.2 = 2) (h1 : lo ≤ tV f N s.2.2) (h2 : tV f N s.2.2 ≤ hi) : cns f N lo hi s = adv f N s := by unfold cns; rw [if_neg (by omega), if_pos hk, if_pos ⟨h1, h2⟩]
theorem cns_4 {lo hi : Int} (h : s.1 = 0) (hk : tK f N s.2.2 = 2) (h1 : ¬ (lo ≤ tV f N s.2.2 ∧ tV f N s.2.2 ≤ hi)) : cns f N lo hi s = (4, tS f N s.2.2, s.2.2) := by unfold cns; rw [if_neg (by omega), if_pos hk, if_neg h1]
theorem cns_no {lo hi : Int} (h : s.1 = 0) (hk : tK f N s.2.2 ≠ 2) : cns f N lo hi s = (bk f N s.2.2 2, tS f N s.2.2, s.2.2) := by unfold cns; rw [if_neg (by omega), if_neg hk]
theorem cnv_go {lo hi : Int} (h : s.1 = 0) (hk : tK f N s.2.2 = 2) (h1 : lo ≤ tV f N s.2.2) (h2 : tV f N s.2.2 ≤ hi) : cnv f N lo hi s = tV f N s.2.2 := by unfold cnv; rw [if_neg (by omega), if_pos hk, if_pos ⟨h1, h2⟩]
theorem mst_ok {t : Bool} (h0 : 0 ≤ s.1) (h : (mst f N t s).1 = 0) : s.1 = 0 ∧ t = true := by
  by_cases g : 0 < s.1
  · rw [mst_bad g] at h; omega
  · refine ⟨by omega, ?_⟩
    cases t
    · rw [mst_no (by omega) rfl] at h
      have := bk_p (f := f) (N := N) (e := s.2.2) (k := 2) (by omega)
      simp only at h; omega
    · rfl
theorem cns_ok {lo hi : Int} (h0 : 0 ≤ s.1) (h : (cns f N lo hi s).1 = 0) : s.1 = 0 ∧ tK f N s.2.2 = 2 ∧ lo ≤ tV f N s.2.2 ∧ tV f N s.2.2 ≤ hi := by
  by_cases g : 0 < s.1
  · rw [cns_bad g] at h; omega
  · have g0 : s.1 = 0 := by omega
    by_cases g2 : tK f N s.2.2 = 2
    · by_cases g3 : lo ≤ tV f N s.2.2 ∧ tV f N s.2.2 ≤ hi
      · exact ⟨g0, g2, g3.1, g3.2⟩
      · rw [cns_4 g0 g2 g3] at h; simp only at h; omega
    · rw [cns_no g0 g2] at h
      have := bk_p (f := f) (N := N) (e := s.2.2) (k := 2) (by omega)
      simp only at h; omega
theorem mst_nn {t : Bool} (h0 : 0 ≤ s.1) : 0 ≤ (mst f N t s).1 := by
  by_cases g : 0 < s.1
  · rw [mst_bad g]; omega
  · cases t
    · rw [mst_no (by omega) rfl]
      have := bk_p (f := f) (N := N) (e := s.2.2) (k := 2) (by omega)
      simp only; omega
    · rw [mst_go (by omega) rfl]; exact Int.le_refl _
theorem cns_nn {lo hi : Int} (h0 : 0 ≤ s.1) : 0 ≤ (cns f N lo hi s).1 := by
  by_cases g : 0 < s.1
  · rw [cns_bad g]; omega
  · have g0 : s.1 = 0 := by omega
    by_cases g2 : tK f N s.2.2 = 2
    · by_cases g3 : lo ≤ tV f N s.2.2 ∧ tV f N s.2.2 ≤ hi
      · rw [cns_go g0 g2 g3.1 g3.2]; exact Int.le_refl _
      · rw [cns_4 g0 g2 g3]; simp only; omega
    · rw [cns_no g0 g2]
      have := bk_p (f := f) (N := N) (e := s.2.2) (k := 2) (by omega)
      simp only; omega
/-- places within the text -/
def PB (N : Int) (s : PS) : Prop := 0 ≤ s.1 ∧ 0 ≤ s.2.2 ∧ s.2.2 ≤ N
theorem adv_pb (h : PB N s) : PB N (adv f N s) := by
  have h1 := tS_b (f := f) h.2.2
  have h2 := tE_b (f := f) h.2.2
  have := h.2.1
  exact ⟨Int.le_refl _, by show 0 ≤ tE f N s.2.2; omega, h2.2⟩
theorem mst_pb {t : Bool} (h : PB N s) : PB N (mst f N t s) := by
  refine ⟨mst_nn h.1, ?_⟩
  by_cases g : 0 < s.1
  · rw [mst_bad g]; exact h.2
  · have := h.1
    cases t
    · rw [mst_no (by omega) rfl]; exact h.2
    · rw [mst_go (by omega) rfl]; exact (adv_pb h).2
theorem cns_pb {lo hi : Int} (h : PB N s) : PB N (cns f N lo hi s) := by
  refine ⟨cns_nn h.1, ?_⟩
  by_cases g : 0 < s.1
  · rw [cns_bad g]; exact h.2
  · have := h.1
    have g0 : s.1 = 0 := by omega
    by_cases g2 : tK f N s.2.2 = 2
    · by_cases g3 : lo ≤ tV f N s.2.2 ∧ tV f N s.2.2 ≤ hi
      · rw [cns_go g0 g2 g3.1 g3.2]; exact (adv_pb h).2
      · rw [cns_4 g0 g2 g3]; exact h.2
    · rw [cns_no g0 g2]; exact h.2
end PUR
/-! one term, one couple, all couples, the WORLD -/
noncomputable def tr1 (f : Int → Int) (N : Int) (s : PS) : PS := if zb (isU f N s.2.2 (strI 4)) = true then adv f N s else s
noncomputable def tr2 (f : Int → Int) (N p : Int) (s : PS) : PS := cns f N 1 (p - 1) (tr1 f N s)
noncomputable def trv (f : Int → Int) (N p : Int) (s : PS) : Int := if zb (isU f N s.2.2 (strI 4)) = true then -(cnv f N 1 (p - 1) (tr1 f N s)) else cnv f N 1 (p - 1) (tr1 f N s)
noncomputable def tr3 (f : Int → Int) (N p : Int) (s : PS) : PS := mst f N (zb (isU f N (tr2 f N p s).2.2 (strI 5))) (tr2 f N p s)
noncomputable def tr4 (f : Int → Int) (N p n : Int) (s : PS) : PS := cns f N 0 (n - 1) (tr3 f N p s)
noncomputable def trk (f : Int → Int) (N p n : Int) (s : PS) : Int := cnv f N 0 (n - 1) (tr3 f N p s)
noncomputable def tr5 (f : Int → Int) (N p n : Int) (had : Int) (s : PS) : PS := if 0 < (tr4 f N p n s).1 then tr4 f N p n s else if tb had (trk f N p n s) = true then (5, tS f N (tr3 f N p s).2.2, (tr4 f N p n s).2.2) else tr4 f N p n s
noncomputable def mor (f : Int → Int) (N e : Int) : Bool := zb (isU f N e (strI 4)) || decide (tK f N e = 2)
abbrev VV : Type := Int → Int → Int → Int
noncomputable def trm (f : Int → Int) (N p n i j : Int) : Nat → PS → Int → VV → PS × VV
  | 0, s, _, v => (s, v)
  | k + 1, s, had, v => if 0 < (tr5 f N p n had s).1 then (tr5 f N p n had s, v) else if mor f N (tr5 f N p n had s).2.2 = true then trm f N p n i j k (tr5 f N p n had s) (or32 had (shl32 1 (trk f N p n s))) (w3 v i j (trk f N p n s) (trv f N p s)) else (tr5 f N p n had s, w3 v i j (trk f N p n s) (trv f N p s))
noncomputable def cp1 (f : Int → Int) (N : Int) (s : PS) : PS := mst f N (zb (isU f N s.2.2 (strI 2))) s
noncomputable def cp2 (f : Int → Int) (N n : Int) (s : PS) : PS := cns f N 0 (n - 1) (cp1 f N s)
noncomputable def cpi (f : Int → Int) (N n : Int) (s : PS) : Int := cnv f N 0 (n - 1) (cp1 f N s)
noncomputable def cp3 (f : Int → Int) (N n : Int) (s : PS) : PS := cns f N (cpi f N n s + 1) (n - 1) (cp2 f N n s)
noncomputable def cpj (f : Int → Int) (N n : Int) (s : PS) : Int := cnv f N (cpi f N n s + 1) (n - 1) (cp2 f N n s)
noncomputable def cp4 (f : Int → Int) (N n told : Int) (s : PS) : PS := if 0 < (cp3 f N n s).1 then cp3 f N n s else if tb told (5 * cpi f N n s + cpj f N n s) = true then (5, tS f N (cp2 f N n s).2.2, (cp3 f N n s).2.2) else cp3 f N n s
noncomputable def cp5 (f : Int → Int) (N n told : Int) (s : PS) : PS := mst f N (zb (isU f N (cp4 f N n told s).2.2 (strI 3))) (cp4 f N n told s)
noncomputable def cp6 (f : Int → Int) (N p n told : Int) (s : PS) (v : VV) : PS × VV := if 0 < (cp5 f N n told s).1 then (cp5 f N n told s, v) else trm f N p n (cpi f N n s) (cpj f N n s) 601 (cp5 f N n told s) 0 v
noncomputable def cp7 (f : Int → Int) (N p n told : Int) (s : PS) (v : VV) : PS := mst f N (zb (isS f N (cp6 f N p n told s v).1.2.2 59)) (cp6 f N p n told s v).1
noncomputable def cps (f : Int → Int) (N p n : Int) : Nat → PS → Int → VV → PS × VV
  | 0, s, _, v => (s, v)
  | k + 1, s, told, v => if 0 < s.1 then (s, v) else if tK f N s.2.2 = 0 then (s, v) else cps f N p n k (cp7 f N p n told s v) (or32 told (shl32 1 (5 * cpi f N n s + cpj f N n s))) (cp6 f N p n told s v).2
def isPr (p : Int) : Prop := p = 2 ∨ p = 3 ∨ p = 5 ∨ p = 7
def grt (p : Int) : Int := if p = 5 then 4 else if p = 7 then 3 else 5
noncomputable def wd1 (f : Int → Int) (N : Int) : PS := mst f N (zb (isU f N 0 (strI 0))) (0, 0, 0)
noncomputable def wd2 (f : Int → Int) (N : Int) : PS := if 0 < (wd1 f N).1 then wd1 f N else if zb (tK f N (wd1 f N).2.2 = 2 ∧ ¬ isPr (tV f N (wd1 f N).2.2)) = true then (4, tS f N (wd1 f N).2.2, (wd1 f N).2.2) else wd1 f N
noncomputable def wd3 (f : Int → Int) (N : Int) : PS := cns f N 2 7 (wd2 f N)
noncomputable def wdp (f : Int → Int) (N : Int) : Int := cnv f N 2 7 (wd2 f N)
noncomputable def wd4 (f : Int → Int) (N : Int) : PS := mst f N (zb (isS f N (wd3 f N).2.2 59)) (wd3 f N)
noncomputable def wd5 (f : Int → Int) (N : Int) : PS := mst f N (zb (isU f N (wd4 f N).2.2 (strI 1))) (wd4 f N)
noncomputable def wd6 (f : Int → Int) (N : Int) : PS := cns f N 1 (grt (wdp f N)) (wd5 f N)
noncomputable def wdn (f : Int → Int) (N : Int) : Int := cnv f N 1 (grt (wdp f N)) (wd5 f N)
noncomputable def wd7 (f : Int → Int) (N : Int) : PS := mst f N (zb (isS f N (wd6 f N).2.2 59)) (wd6 f N)
noncomputable def wdR (f : Int → Int) (N : Int) : PS × VV := cps f N (wdp f N) (wdn f N) 601 (wd7 f N) 0 (fun _ _ _ => 0)
section RPS
variable {d : Nat} {σ : SG} {Q : Int → SG → Prop} {f : Int → Int} {N : Int} {s : PS}
/-- the model's reading at s -/
def RB (σ : SG) (f : Int → Int) (N : Int) (s : PS) : Prop := σ 161 12 = s.1 ∧ 0 ≤ s.1 ∧ (0 < s.1 → σ 161 13 = s.2.1) ∧ TR σ f N s.2.2
theorem RB.pb (h : RB σ f N s) : PB N s := ⟨h.2.1, h.2.2.2.2.2.2.1.1, h.2.2.2.2.2.2.1.2⟩
theorem RB.fr {σ' : SG} (h : RB σ f N s) (h1 : ∀ k, σ' 165 k = σ 165 k) (h2 : ∀ k, 9 ≤ k → k ≤ 18 → σ' 161 k = σ 161 k) : RB σ' f N s :=
  ⟨(h2 12 (by omega) (by omega)).trans h.1, h.2.1, fun z => (h2 13 (by omega) (by omega)).trans (h.2.2.1 z), h.2.2.2.fr h1 (fun k _ _ _ _ _ _ => h2 k (by omega) (by omega))⟩
theorem RB.adv {σ' : SG} (h : RB σ f N s) (h0 : s.1 = 0) (hT : TR σ' f N (tE f N s.2.2)) (hO : Off (fun b j => b = 161 ∧ 14 ≤ j ∧ j ≤ 18) σ σ') : RB σ' f N (adv f N s) :=
  ⟨(hO 161 12 (by omega)).trans (h.1.trans h0), Int.le_refl _, fun z => absurd z (Int.lt_irrefl _), hT⟩
theorem R_fail_s {k q e9 : Int} (hk : 0 < k) (h0 : s.1 = 0) (hR : RB σ f N s) (h : ∀ σ', RB σ' f N (k, q, s.2.2) → Off (fun b j => b = 161 ∧ 12 ≤ j ∧ j ≤ 13) σ σ' → Q 0 σ') : Tri (d + 1) M_R_fail [vA 161, vI k, vI q] σ Q := by
  refine t_R_fail (fun _ _ => ⟨fun _ s2 e2 s3 e3 => ?_, fun z => by have := hR.1; omega⟩)
  have hO : Off (fun b j => b = 161 ∧ 12 ≤ j ∧ j ≤ 13) σ s3 := by rw [e3, e2]; exact Off_trans (Off_up ⟨rfl, by omega, by omega⟩) (Off_up ⟨rfl, by omega, by omega⟩)
  refine h s3 ⟨by rw [e3, up_ne (by omega), e2, up_same], by simp only; omega, fun _ => by rw [e3, up_same], hR.2.2.2.fr (fun j => hO 165 j (by omega)) (fun j _ _ _ _ _ _ => hO 161 j (by omega))⟩ hO
theorem R_wrong_s (h0 : s.1 = 0) (hR : RB σ f N s) (h : ∀ σ', RB σ' f N (bk f N s.2.2 2, tS f N s.2.2, s.2.2) → Off (fun b j => b = 161 ∧ 12 ≤ j ∧ j ≤ 13) σ σ' → Q 0 σ') : Tri (d + 2) M_R_wrong [vA 161] σ Q := by
  obtain ⟨b1, b2, b3, a1, a2, a3, a4, a5, a6, a7, a8⟩ := id hR
  refine t_R_wrong ?_
  rw [a7, a5]
  refine ⟨fun z => R_fail_s (e9 := 0) (by omega) h0 hR (fun s2 hR2 hO => h s2 ?_ hO), fun z => R_fail_s (e9 := 0) (by omega) h0 hR (fun s2 hR2 hO => h s2 ?_ hO)⟩
  · rw [bk_4 z]; exact hR2
  · unfold bk; rw [if_pos z]; exact hR2
theorem R_must_s {b : Int} {t : Bool} (hB : BYT f) (hb : b = if t = true then 1 else 0) (hR : RB σ f N s) (h : ∀ σ', RB σ' f N (mst f N t s) → Off (fun b j => b = 161 ∧ 12 ≤ j ∧ j ≤ 18) σ σ' → Q 0 σ') : Tri (d + 3) M_R_must [vA 161, vI b] σ Q := by
  have h12 := hR.1
  have hnn := hR.2.1
  refine t_R_must (fun _ => ⟨fun z => ⟨fun z2 => ?_, fun z2 => ?_⟩, fun z => h σ (by rw [mst_bad (by omega)]; exact hR) Off_rfl⟩)
  · have ht : t = false := by
      cases t
      · rfl
      · rw [if_pos rfl] at hb; omega
    refine R_wrong_s (by omega) hR (fun s2 hR2 hO => h s2 ?_ (Off_mono hO (fun b j q => by omega)))
    rw [mst_no (by omega) ht]; exact hR2
  · have ht : t = true := by
      cases t
      · rw [if_neg Bool.false_ne_true] at hb; omega
      · rfl
    refine R_go_s hB hR.2.2.2 (fun s2 hT2 hO => h s2 ?_ (Off_mono hO (fun b j q => by omega)))
    rw [mst_go (by omega) ht]; exact hR.adv (by omega) hT2 hO
theorem tV_b {e : Int} (he : e ≤ N) (hk : tK f N e = 2) : 0 ≤ tV f N e ∧ tV f N e < 10000 := by
  have hE := tE_b (f := f) he
  have h2 : ¬ N ≤ tS f N e := fun z => by rw [tK_0.mpr z] at hk; omega
  have hd : zLt (f (tS f N e)) = false ∧ zDg (f (tS f N e)) = true := by
    unfold tK at hk
    rw [if_neg h2] at hk
    by_cases g2 : zLt (f (tS f N e)) = true
    · rw [if_pos g2] at hk; omega
    · rw [if_neg g2] at hk
      by_cases g3 : zDg (f (tS f N e)) = true
      · exact ⟨by simpa using g2, g3⟩
      · rw [if_neg g3] at hk; exfalso; split at hk <;> omega
  have hEE : tE f N e = rnn (fun q => zDg (f q)) N (tS f N e) := by unfold tE; rw [if_neg h2, if_neg (by rw [hd.1]; exact Bool.false_ne_true), if_pos hd.2]
  have hb := nvN_b (f := f) (s := tS f N e) (min (tE f N e - tS f N e) 4).toNat (fun i hi => by
    rw [hEE] at hi
    exact rnn_in (P := fun q => zDg (f q)) (N := N) (q := tS f N e) (tS f N e + i) (by omega) (by omega))
  have hp := pow_le (p := 10) (k := (min (tE f N e - tS f N e) 4).toNat) (n := 4) (by omega) (by omega)
  unfold tV
  omega
theorem R_count_s {lo hi : Int} (hB : BYT f) (hR : RB σ f N s) (h : ∀ σ', RB σ' f N (cns f N lo hi s) → Off (fun b j => b = 161 ∧ 12 ≤ j ∧ j ≤ 18) σ σ' → Q (cnv f N lo hi s) σ') : Tri (d + 3) M_R_count [vA 161, vI lo, vI hi] σ Q := by
  have h12 := hR.1
  have hnn := hR.2.1
  have h14 := hR.2.2.2.2.2.2.2.2.2.1
  have bad : ∀ (s2 : SG) (r : PS), 0 < r.1 → r = cns f N lo hi s → cnv f N lo hi s = 0 → RB s2 f N r → Off (fun b j => b = 161 ∧ 12 ≤ j ∧ j ≤ 18) σ s2 → L (d + 3) M_R_count 19 [vA 161, vI lo, vI hi, vU] [] s2 Q := fun s2 r hr he hv hR2 hO => by
    have g := hR2.1
    refine s_R_count_19 ⟨fun _ => ⟨fun z => by omega, fun _ => ?_⟩, fun z => by omega⟩
    have := h s2 (by rw [← he]; exact hR2) hO
    rw [hv] at this; exact this
  refine t_R_count (fun _ _ => ⟨fun z => bad σ s (by omega) (cns_bad (by omega)).symm (by unfold cnv; rw [if_pos (by omega)]) hR Off_rfl, fun z => ⟨fun z2 => ?_, fun z2 => ?_⟩⟩)
  · have hk : tK f N s.2.2 = 2 := by rw [← h14]; exact z2
    have h17 := hR.2.2.2.2.2.2.2.2.2.2.1 hk
    have g0 : s.1 = 0 := by omega
    refine s_R_count_19 ⟨fun y => by omega, fun _ => ?_⟩
    rw [h17]
    refine R_isIn_s (fun g1 g2 => ⟨fun _ => ⟨fun _ => ?_, fun y => by omega⟩, fun y => by omega⟩) (fun g => ⟨fun y => absurd rfl y, fun _ => ?_⟩)
    · refine R_go_s hB hR.2.2.2 (fun s2 hT2 hO => ?_)
      have := h s2 (by rw [cns_go g0 hk g1 g2]; exact hR.adv g0 hT2 hO) (Off_mono hO (fun b j q => by omega))
      rw [cnv_go g0 hk g1 g2] at this
      rw [h17]; exact this
    · rw [hR.2.2.2.2.2.2.2.1]
      refine R_fail_s (e9 := 0) (by omega) g0 hR (fun s2 hR2 hO => ⟨fun y => by have := hR2.1; simp only at this; omega, fun _ => ?_⟩)
      have hng : ¬ (lo ≤ tV f N s.2.2 ∧ tV f N s.2.2 ≤ hi) := by omega
      have := h s2 (by rw [cns_4 g0 hk hng]; exact hR2) (Off_mono hO (fun b j q => by omega))
      have hv : cnv f N lo hi s = 0 := by unfold cnv; rw [if_neg (by omega), if_pos hk, if_neg hng]
      rw [hv] at this; exact this
  · have hk : tK f N s.2.2 ≠ 2 := by rw [← h14]; exact z2
    have g0 : s.1 = 0 := by omega
    refine R_wrong_s g0 hR (fun s2 hR2 hO => bad s2 _ (bk_p (by omega)) (cns_no g0 hk).symm (by unfold cnv; rw [if_neg (by omega), if_neg hk]) hR2 (Off_mono hO (fun b j q => by omega)))
end RPS
