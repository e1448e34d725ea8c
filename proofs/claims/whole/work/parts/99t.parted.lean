/-! ===== calls: parted, barred, sum, ran, tables ===== -/
section CPA
variable {d : Nat} {σ : SG} {Q : Int → SG → Prop} {c : Int → Int}
noncomputable def tel (p n : Int) (T : Int → Int) (w : Int) : Int := if w = 1 then cd (ser p n T ((0 : Int) ≠ 0) EU (1 : Int).toNat).1 n else if w = 2 then cd (ser p n T ((0 : Int) ≠ 0) EU (2 : Int).toNat).1 n else if w = 3 then cd (ser p n T ((1 : Int) ≠ 0) EU (2 : Int).toNat).1 n else if w = 4 then n - cd (mvr p n T EU E0).1 n else if w = 5 then n * n - cd (DRV p n T).1 (n * n) else if w = 6 then cd (FRM p n T).1 n else if w = 7 then nst 2 (2 ^ n.toNat) - rkD p n T 2 - rkD p n T (2 - 1) else p ^ n.toNat + TT p n 1 (fun m x => (p - 1) * p ^ (n - cd (mvr p n T (spn p n (tb m) x) E0).1 n).toNat)
theorem X_tell_s {a p n w : Int} {T : Int → Int} (hW : WD σ a p n T) (ha : a ≤ 20) (hST : ST σ) (hw : 1 ≤ w ∧ w ≤ 8) (h : ∀ t, ST t → Off (fun b j => 43 ≤ b ∧ b ≤ 77) σ t → Q (tel p n T w) t) : Tri (d + 8) M_X_tellingNumber [vA 0, vA a, vI w] σ Q := by
  unfold tel at h
  refine t_X_tellingNumber (fun _ => ⟨fun q => ?_, fun q => ?_, fun q => ?_, fun q => ?_, fun q => ?_, fun q => ?_, fun q => ?_, fun q => ?_⟩)
  · rw [if_neg (by omega), if_neg (by omega), if_neg (by omega), if_neg (by omega), if_neg (by omega), if_neg (by omega), if_neg (by omega)] at h
    exact An_countCommuting_s hW ha hST (fun t hS hO => h t hS (Off_mono hO (fun b j q => by omega)))
  · rw [if_pos q] at h
    exact An_wholeSeries_s hW ha hST (by omega) (fun t hS hO => h t hS (Off_mono hO (fun b j q => by omega)))
  · rw [if_neg (by omega), if_pos q] at h
    exact An_wholeSeries_s hW ha hST (by omega) (fun t hS hO => h t hS (Off_mono hO (fun b j q => by omega)))
  · rw [if_neg (by omega), if_neg (by omega), if_pos q] at h
    exact An_wholeSeries_s hW ha hST (by omega) (fun t hS hO => h t hS (Off_mono hO (fun b j q => by omega)))
  · rw [if_neg (by omega), if_neg (by omega), if_neg (by omega), if_pos q] at h
    exact An_centreSize_s hW ha hST (fun t hS hO => h t hS (Off_mono hO (fun b j q => by omega)))
  · rw [if_neg (by omega), if_neg (by omega), if_neg (by omega), if_neg (by omega), if_pos q] at h
    exact Me_derivationSize_s hW ha hST (fun t hS hO => h t hS (Off_mono hO (fun b j q => by omega)))
  · rw [if_neg (by omega), if_neg (by omega), if_neg (by omega), if_neg (by omega), if_neg (by omega), if_pos q] at h
    exact Me_formRank_s hW ha hST (fun t hS hO => h t hS (Off_mono hO (fun b j q => by omega)))
  · rw [if_neg (by omega), if_neg (by omega), if_neg (by omega), if_neg (by omega), if_neg (by omega), if_neg (by omega), if_pos q] at h
    exact Me_classSize_s hW ha hST (by omega) (fun t hS hO => h t hS (Off_mono hO (fun b j q => by omega)))
theorem R_markBy_s {p n w : Int} {T : Int → Int} (hR : RW σ p n T) (hw : 1 ≤ w ∧ w ≤ 8) (h : ∀ t, Off DM σ t → Q (tel p n T w) t) : Tri (d + 8) M_R_markBy [vA 161, vI w] σ Q := by
  unfold tel at h
  refine t_R_markBy (fun _ => ⟨fun q => ?_, fun q => ?_, fun q => ?_, fun q => ?_, fun q => ?_, fun q => ?_, fun q => ?_, fun q => ?_⟩)
  · rw [if_neg (by omega), if_neg (by omega), if_neg (by omega), if_neg (by omega), if_neg (by omega), if_neg (by omega), if_neg (by omega), ← commute_eq hR.1] at h
    exact R_commutingMany_s hR h
  · rw [if_pos q] at h
    exact R_seriesOf_s hR (by omega) h
  · rw [if_neg (by omega), if_pos q] at h
    exact R_seriesOf_s hR (by omega) h
  · rw [if_neg (by omega), if_neg (by omega), if_pos q] at h
    exact R_seriesOf_s hR (by omega) h
  · rw [if_neg (by omega), if_neg (by omega), if_neg (by omega), if_pos q] at h
    exact R_centreSize_s hR h
  · rw [if_neg (by omega), if_neg (by omega), if_neg (by omega), if_neg (by omega), if_pos q] at h
    exact R_derivationSize_s hR h
  · rw [if_neg (by omega), if_neg (by omega), if_neg (by omega), if_neg (by omega), if_neg (by omega), if_pos q] at h
    exact R_formRank_s hR h
  · rw [if_neg (by omega), if_neg (by omega), if_neg (by omega), if_neg (by omega), if_neg (by omega), if_neg (by omega), if_pos q] at h
    exact R_classSize_s hR (by omega) h
/-- both WORLDS are asked one number -/
theorem R_two {x w : Int} (hM : KM σ 0 c) (hD : DC c) (x0 : 0 ≤ x) (x1 : x < 4) (hc : c (127 * (x + 1)) ≠ 0) (hw : 1 ≤ w ∧ w ≤ 8) (h : ∀ t, KM t 0 c → Off DR σ t → t 161 0 = σ 161 0 → Q (tel (c 0) (c 1) (TBc c 0) w) t → Q (tel (c 0) (c 1) (TBc c 0) w) t) {F : Int → Int → SG → Prop}
    (hF : ∀ t, KM t 0 c → Off DR σ t → t 161 0 = σ 161 0 → F (tel (c 0) (c 1) (TBc c 0) w) (tel (c (127 * (x + 1))) (c (127 * (x + 1) + 1)) (TBc c (x + 1)) w) t) : Tri (d + 9) M_R_askNow [vA 161] σ (fun r3 σ3 => Tri (d + 9) M_R_markBy [vA 161, vI w] σ3 (fun r4 σ4 => Tri (d + 9) M_R_ask [vA 161, vA 166, vI (127 * (x + 1))] σ4 (fun r5 σ5 => Tri (d + 9) M_R_markBy [vA 161, vI w] σ5 (fun r6 σ6 => F r4 r6 σ6)))) := by
  refine R_askNow_s (KM_W0 hM hD) (fun t1 hR1 hO1 => R_markBy_s hR1 hw (fun t2 hO2 => ?_))
  have hM2 : KM t2 0 c := KM_dr (KM_dr hM (Off_ask hO1)) (Off_dm hO2)
  refine R_ask_s (KM_Ws hM2 hD x0 x1 hc) (by omega) (by omega) (fun t3 hR3 hO3 => R_markBy_s hR3 hw (fun t4 hO4 => hF t4 (KM_dr (KM_dr hM2 (Off_ask hO3)) (Off_dm hO4)) (Off_trans (Off_trans (Off_ask hO1) (Off_dm hO2)) (Off_trans (Off_ask hO3) (Off_dm hO4))) ?_))
  rw [hO4 161 0 (by unfold DM; omega), hO3 161 0 (by omega), hO2 161 0 (by unfold DM; omega), hO1 161 0 (by omega)]
theorem c_parted {x : Int} (hI : IVT σ) : CAL d M_X_parted M_R_parted [vI x] σ := by
  obtain ⟨c, hK, hM, hD, hS⟩ := hI.2.2.1
  have hW := WD7 hK hD
  have hK' := KC_n hK rfl
  have hS0 := ST_n hI.2.2.2
  have ref : ∀ s, ((s = 2 ∧ ¬ (0 ≤ x ∧ x < 4)) ∨ (s = 8 ∧ (0 ≤ x ∧ x < 4) ∧ c (127 * (x + 1)) = 0)) → Tri (d + 29) M_X_fail [vA 0, vI s] (nrm σ) (fun r u => Tri (d + 30) M_R_parted [vA 161, vI x] u (fun r2 u2 => r = r2 ∧ IVT u2)) := fun s hs => t_X_fail (fun _ t e => by
    have hx := QXm hI e
    refine t_R_parted (fun _ t3 e3 t4 e4 => R_isShelf_s (fun y1 y2 => ⟨fun _ => ?_, fun y => by omega⟩) (fun y => ⟨fun q => absurd rfl q, fun _ => ?_⟩))
    · have h8 : s = 8 ∧ c (127 * (x + 1)) = 0 := by rcases hs with h | h; exact absurd ⟨y1, y2⟩ h.2; exact ⟨h.1, h.2.2⟩
      refine R_isEmpty_s (KM_dr (KM_qx hM hx) (RM0 e3 e4).1) y1 y2 (fun _ => ⟨fun q => by omega, fun _ => R_ref (fun t6 h6 hO6 => ⟨rfl, no_no hI hx e3 e4 (by rw [h6, h8.1]) hO6⟩)⟩) (fun q => absurd h8.2 q)
    · have h2 : s = 2 := by rcases hs with h | h; exact h.1; exact absurd h.2.1 y
      exact R_ref (fun t6 h6 hO6 => ⟨rfl, no_no hI hx e3 e4 (by rw [h6, h2]) hO6⟩))
  refine Tri_n (t_X_parted (fun _ => X_shelfTrouble_s hK' (fun hn => ⟨fun y => by omega, fun _ => ref 2 (Or.inl ⟨rfl, hn⟩)⟩) (fun y1 y2 hc => ⟨fun y => by omega, fun _ => ref 8 (Or.inr ⟨rfl, ⟨y1, y2⟩, hc⟩)⟩) (fun y1 y2 hc => ⟨fun _ => ⟨rd_of kd_9 y1 (by omega), ?_⟩, fun y => absurd rfl y⟩)))
  have hB := WDs hK hD y1 y2 hc
  rw [sh_13]
  -- the model, up to its loop
  have mod : ∀ (v s : Int) t, QX σ t s → (¬ (c 0 = c (127 * (x + 1)) ∧ c 1 = c (127 * (x + 1) + 1)) → v = 0 ∧ s = 0) → (c 0 = c (127 * (x + 1)) → c 1 = c (127 * (x + 1) + 1) → ∀ t4, KM t4 0 c → Off DR t t4 → t4 161 0 = 0 → L (d + 30) M_R_parted 59 [vA 161, vI x, vI 1, vU] [] t4 (fun r2 u2 => v = r2 ∧ IVT u2)) → Tri (d + 30) M_R_parted [vA 161, vI x] t (fun r2 u2 => v = r2 ∧ IVT u2) := fun v s t hx hu hl => by
    refine t_R_parted (fun _ t3 e3 t4 e4 => R_isShelf_s (fun _ _ => ⟨fun _ => ?_, fun y => by omega⟩) (fun y => absurd ⟨y1, y2⟩ y))
    obtain ⟨o1, o2⟩ := RM0 e3 e4
    have hM4 := KM_dr (KM_qx hM hx) o1
    refine R_isEmpty_s hM4 y1 y2 (fun q => absurd q hc) (fun _ => ⟨fun _ => ?_, fun q => absurd rfl q⟩)
    rw [w32_id (x := x + 1) (by omega) (by omega), w32_id (x := 127 * (x + 1)) (by omega) (by omega)]
    refine t_R_isUnlike (fun _ => ⟨rd_of kd_166 (by omega) (by omega), ?_⟩)
    rw [w32_id (x := 127 * (x + 1) + 1) (by omega) (by omega), KM_at hM4 (j := 127 * (x + 1)) (by omega) (by omega), KM_at hM4 (j := 127 * (x + 1) + 1) (by omega) (by omega), KM_at hM4 (j := 0) (by omega) (by omega), KM_at hM4 (j := 1) (by omega) (by omega)]
    have no : ¬ (c 0 = c (127 * (x + 1)) ∧ c 1 = c (127 * (x + 1) + 1)) → ∀ X : Prop, ((1 : Int) = 0 → X) ∧ ((1 : Int) ≠ 0 → v = 0 ∧ IVT t4) := fun z X => ⟨fun y => by omega, fun _ => ⟨(hu z).1, IVT_q hI hx o1 (by rw [(hu z).2]; exact o2)⟩⟩
    exact ⟨fun z => no (by omega) _, fun z => ⟨rd_of kd_166 (by omega) (by omega), fun z2 => ⟨fun _ => hl z.symm z2.symm t4 hM4 o1 o2, fun y => absurd rfl y⟩, fun z2 => no (by omega) _⟩⟩
  refine Wd_isLike_s ob_7 (ob_sh (by omega) (by omega)) (fun l1 l2 => ⟨fun _ => ?_, fun y => by omega⟩) (fun hne => ⟨fun y => absurd rfl y, fun _ => t_X_answer (fun _ t e => mod 0 0 t (QXm hI e) (fun _ => ⟨rfl, rfl⟩) (fun u1 u2 => absurd ⟨hW.2.1.trans (u1.trans hB.2.1.symm), hW.2.2.1.trans (u2.trans hB.2.2.1.symm)⟩ hne))⟩)
  have el1 : c 0 = c (127 * (x + 1)) := hW.2.1.symm.trans (l1.trans hB.2.1)
  have el2 : c 1 = c (127 * (x + 1) + 1) := hW.2.2.1.symm.trans (l2.trans hB.2.2.1)
  have nu : ∀ (v s : Int), ¬ (c 0 = c (127 * (x + 1)) ∧ c 1 = c (127 * (x + 1) + 1)) → v = 0 ∧ s = 0 := fun v s z => absurd ⟨el1, el2⟩ z
  -- the class's loop, then the model's from its beginning
  have tw : ∀ w, tel (c 0) (c 1) (TBc c 0) w = tel (c 0) (c 1) (TBc c 0) w := fun _ => rfl
  have ml : ∀ (v s : Int) t, QX σ t s → ∀ (n : Nat) (k : Int) (t4 : SG), (n : Int) = 9 - k → 1 ≤ k → KM t4 0 c → Off DR t t4 → t4 161 0 = 0 → ((s = 0 ∧ k ≤ v ∧ v ≤ 8 ∧ tel (c 0) (c 1) (TBc c 0) v ≠ tel (c (127 * (x + 1))) (c (127 * (x + 1) + 1)) (TBc c (x + 1)) v ∧ ∀ w, k ≤ w → w < v → tel (c 0) (c 1) (TBc c 0) w = tel (c (127 * (x + 1))) (c (127 * (x + 1) + 1)) (TBc c (x + 1)) w) ∨ (s = 8 ∧ v = -1 ∧ ∀ w, k ≤ w → w ≤ 8 → tel (c 0) (c 1) (TBc c 0) w = tel (c (127 * (x + 1))) (c (127 * (x + 1) + 1)) (TBc c (x + 1)) w)) → L (d + 30) M_R_parted 59 [vA 161, vI x, vI k, vU] [] t4 (fun r2 u2 => v = r2 ∧ IVT u2) := by
    intro v s t hx n
    induction n with
    | zero =>
      intro k t4 hn k1 hM4 hO h0 hv
      refine s_R_parted_59 ⟨fun _ => R_ref (fun t5 h5 hO5 => ?_), fun y => by omega⟩
      rcases hv with hv | hv
      · omega
      · exact ⟨hv.2.1, IVT_q hI hx (Off_trans hO hO5) (by rw [h5, hv.1])⟩
    | succ n ih =>
      intro k t4 hn k1 hM4 hO h0 hv
      refine s_R_parted_59 ⟨fun y => by omega, fun _ => ?_⟩
      rw [w32_id (x := x + 1) (by omega) (by omega), w32_id (x := 127 * (x + 1)) (by omega) (by omega), w32_id (x := k + 1) (by omega) (by omega)]
      refine R_two (F := fun r4 r6 σ6 => (r6 = r4 → L (d + 30) M_R_parted 59 [vA 161, vI x, vI (k + 1), vU] [] σ6 (fun r2 u2 => v = r2 ∧ IVT u2)) ∧ (r6 ≠ r4 → v = k ∧ IVT σ6)) (Q := fun _ _ => True) hM4 hD y1 y2 hc (by omega) (fun _ _ _ _ h => h) (fun t5 hM5 hO5 h5 => ⟨fun q => ?_, fun q => ?_⟩)
      · refine ih (k + 1) t5 (by omega) (by omega) hM5 (Off_trans hO hO5) (h5.trans h0) ?_
        rcases hv with hv | hv
        · left
          have : k ≠ v := fun z => hv.2.2.2.1 (by rw [← z]; exact q.symm)
          exact ⟨hv.1, by omega, hv.2.2.1, hv.2.2.2.1, fun w w0 w1 => hv.2.2.2.2 w (by omega) w1⟩
        · right
          exact ⟨hv.1, hv.2.1, fun w w0 w1 => hv.2.2 w (by omega) w1⟩
      · rcases hv with hv | hv
        · have : v = k := by
            by_cases z : v = k
            · exact z
            · exact absurd (hv.2.2.2.2 k (by omega) (by omega)).symm q
          exact ⟨this, IVT_q hI hx (Off_trans hO hO5) (by rw [h5, h0, hv.1])⟩
        · exact absurd (hv.2.2 k (by omega) (by omega)).symm q
  have xl : ∀ (n : Nat) (k : Int) (t1 : SG), (n : Int) = 9 - k → 1 ≤ k → ST t1 → Off (fun b j => 43 ≤ b ∧ b ≤ 77) (nrm σ) t1 → (∀ w, 1 ≤ w → w < k → tel (c 0) (c 1) (TBc c 0) w = tel (c (127 * (x + 1))) (c (127 * (x + 1) + 1)) (TBc c (x + 1)) w) → L (d + 30) M_X_parted 53 [vA 0, vU, vU, vA 7, vA (6 + 5 + 2 * (x + 1)), vI k] [] t1 (fun r u => Tri (d + 30) M_R_parted [vA 161, vI x] u (fun r2 u2 => r = r2 ∧ IVT u2)) := by
    intro n
    induction n with
    | zero =>
      intro k t1 hn k1 hS1 hO1 hw
      refine s_X_parted_53 ⟨fun _ => t_X_fail (fun _ t e => ?_), fun y => by omega⟩
      have hx : QX σ t 8 := QXn hS1 hO1 (fun b j q => by unfold DX; omega) e
      exact mod (-1) 8 t hx (nu _ _) (fun _ _ t4 hM4 hO h0 => ml (-1) 8 t hx 8 1 t4 (by omega) (by omega) hM4 hO h0 (Or.inr ⟨rfl, rfl, fun w w0 w1 => hw w w0 (by omega)⟩))
    | succ n ih =>
      intro k t1 hn k1 hS1 hO1 hw
      have hW1 : WD t1 7 (c 0) (c 1) (TBc c 0) := hW.cg (fun k => hO1 7 k (by omega)) (fun k => hO1 (7 + 1) k (by omega))
      refine s_X_parted_53 ⟨fun y => by omega, fun _ => X_tell_s hW1 (by omega) hS1 (by omega) (fun t2 hS2 hO2 => ?_)⟩
      have hO12 := Off_trans hO1 hO2
      have hB2 : WD t2 (6 + 5 + 2 * (x + 1)) (c (127 * (x + 1))) (c (127 * (x + 1) + 1)) (TBc c (x + 1)) := hB.cg (fun k => hO12 _ k (by omega)) (fun k => hO12 _ k (by omega))
      refine X_tell_s hB2 (by omega) hS2 (by omega) (fun t3 hS3 hO3 => ?_)
      have hO13 := Off_trans hO12 hO3
      rw [w32_id (x := k + 1) (by omega) (by omega)]
      refine ⟨fun q => ih (k + 1) t3 (by omega) (by omega) hS3 hO13 (fun w w0 w1 => ?_), fun q => t_X_answer (fun _ t e => ?_)⟩
      · by_cases z : w = k
        · rw [z]; exact q
        · exact hw w w0 (by omega)
      · have hx : QX σ t 0 := QXn hS3 hO13 (fun b j q => by unfold DX; omega) e
        exact mod k 0 t hx (nu _ _) (fun _ _ t4 hM4 hO h0 => ml k 0 t hx 8 1 t4 (by omega) (by omega) hM4 hO h0 (Or.inl ⟨rfl, k1, by omega, q, fun w w0 w1 => hw w w0 w1⟩))
  exact xl 8 1 (nrm σ) (by omega) (by omega) hS0 Off_rfl (fun w w0 w1 => by omega)
theorem c_ran {x : Int} (hI : IVT σ) : CAL d M_X_ran M_R_ran [vI x] σ := by
  obtain ⟨j1, j2, j3⟩ := hI.2.1.2.2.2.2.2.2.2.2.1
  have mod : ∀ (v s : Int) t, t = up σ 0 0 s → ((¬ (0 ≤ x ∧ x ≤ 1) ∧ v = -1 ∧ s = 5) ∨ ((0 ≤ x ∧ x ≤ 1) ∧ σ 114 0 = 0 ∧ v = -1 ∧ s = 8) ∨ ((0 ≤ x ∧ x ≤ 1) ∧ σ 114 0 ≠ 0 ∧ v = σ 184 x ∧ s = 0)) → Tri (d + 30) M_R_ran [vA 161, vI x] t (fun r2 u2 => v = r2 ∧ IVT u2) := fun v s t e hv => by
    have hx := QX0 hI e
    refine t_R_ran (fun _ t3 e3 t4 e4 => ?_)
    obtain ⟨o1, o2⟩ := RM0 e3 e4
    have h49 : t4 161 49 = σ 114 0 := by rw [o1 161 49 (by unfold DR; omega), e, up_ne (by omega)]; exact j1.symm
    have h184 : t4 184 x = σ 184 x := by rw [o1 184 x (by unfold DR; omega), e, up_ne (by omega)]
    refine R_isIn_s (fun y1 y2 => ⟨fun _ => ?_, fun y => by omega⟩) (fun y => ⟨fun q => absurd rfl q, fun _ => R_ref (fun t6 h6 hO6 => ?_)⟩)
    · rw [h49, h184]
      refine ⟨fun q => R_ref (fun t6 h6 hO6 => ?_), fun q => ⟨⟨y1, by omega⟩, ?_⟩⟩
      · rcases hv with h | h | h
        · omega
        · exact ⟨h.2.2.1, IVT_q hI hx (Off_trans o1 hO6) (by rw [h6, h.2.2.2])⟩
        · omega
      · rcases hv with h | h | h
        · omega
        · omega
        · exact ⟨h.2.2.1, IVT_q hI hx o1 (by rw [o2, h.2.2.2])⟩
    · rcases hv with h | h | h
      · exact ⟨h.2.1, IVT_q hI hx (Off_trans o1 hO6) (by rw [h6, h.2.2])⟩
      · omega
      · omega
  refine t_X_ran (fun _ => ⟨fun z => t_X_fail (fun _ t e => mod _ 5 t e (Or.inl ⟨by omega, rfl, rfl⟩)), fun z => ⟨fun z2 => ⟨fun q => ⟨fun z3 => t_X_answer (fun _ t e => mod _ 0 t e (Or.inr (Or.inr ⟨⟨z, z2⟩, q, ?_, rfl⟩))), fun z3 => t_X_answer (fun _ t e => mod _ 0 t e (Or.inr (Or.inr ⟨⟨z, z2⟩, q, ?_, rfl⟩)))⟩, fun q => t_X_fail (fun _ t e => mod _ 8 t e (Or.inr (Or.inl ⟨⟨z, z2⟩, q, rfl, rfl⟩)))⟩, fun z2 => t_X_fail (fun _ t e => mod _ 5 t e (Or.inl ⟨by omega, rfl, rfl⟩))⟩⟩)
  · rw [show x = 1 by omega]; exact (j2 q).2
  · rw [z3]; exact (j2 q).1
end CPA
