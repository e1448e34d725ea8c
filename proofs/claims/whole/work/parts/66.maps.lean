/-! ===== the search for MAPS: of both ===== -/
noncomputable def FND (p n : Int) (T1 T2 : Int → Int) (first : Bool) : MS := gmF (FIT p n T1 T2) first n (p ^ n.toNat).toNat n.toNat (fun _ => 0) (0, 0, false)
theorem trx0 {xs : Int → Int} (h : ∀ i, xs i = 0) (l : Int) : trx xs l = fun _ => 0 := by
  funext i
  unfold trx
  rw [h i]; split <;> rfl
section LK
variable {d : Nat} {σ : SG} {Q : Int → SG → Prop}
theorem Ma_look_s {a b p n p2 n2 fi : Int} {T1 T2 : Int → Int} (hA : WD σ a p n T1) (hB : WD σ b p2 n2 T2) (ha : wad a) (hb : wad b) (hST : ST σ)
    (h1 : p = p2 → n = n2 → ∀ σ', σ' 78 0 = (FND p n T1 T2 (decide (fi ≠ 0))).1 → σ' 78 1 = (FND p n T1 T2 (decide (fi ≠ 0))).2.1 → σ' 78 2 = (if (FND p n T1 T2 (decide (fi ≠ 0))).2.2 = true then 1 else 0) → (0 ≤ (FND p n T1 T2 (decide (fi ≠ 0))).2.1 ∧ (FND p n T1 T2 (decide (fi ≠ 0))).2.1 ≤ (FND p n T1 T2 (decide (fi ≠ 0))).1 ∧ (FND p n T1 T2 (decide (fi ≠ 0))).1 ≤ 200000) → ST σ' → Off DL σ σ' → Q (if 0 < (FND p n T1 T2 (decide (fi ≠ 0))).2.1 then 1 else 0) σ')
    (h0 : ¬ (p = p2 ∧ n = n2) → ∀ σ', σ' 78 0 = 0 → σ' 78 1 = 0 → σ' 78 2 = 0 → ST σ' → Off DL σ σ' → Q 0 σ') : Tri (d + 5) M_Ma_look [vA 78, vA a, vA b, vI fi] σ Q := by
  obtain ⟨b1, b2, b3, b4⟩ := hA.pn.b
  refine t_Ma_look (fun _ s1 e1 s2 e2 s3 e3 => ⟨hA.1, ?_⟩)
  have hO3 : Off DL σ s3 := fun c j hc => by rw [e3, up_ne (by unfold DL at hc; omega), e2, up_ne (by unfold DL at hc; omega), e1, up_ne (by unfold DL at hc; omega)]
  have f0 : s3 78 0 = 0 := by rw [e3, up_ne (by omega), e2, up_ne (by omega), e1, up_same]
  have f1 : s3 78 1 = 0 := by rw [e3, up_ne (by omega), e2, up_same]
  have f2 : s3 78 2 = 0 := by rw [e3, up_same]
  have hA3 := hA.dl ha hO3
  have hB3 := hB.dl hb hO3
  refine Wd_isLike_s hA3.1 hB3.1 (fun q1 q2 => ⟨fun _ => ?_, fun z => by omega⟩) (fun q => ⟨fun z => by omega, fun _ => h0 (fun z => q (by rw [hA3.2.1, hB3.2.1, hA3.2.2.1, hB3.2.2.1]; exact z)) s3 f0 f1 f2 (hST.dl hO3) hO3⟩)
  have hpp : p = p2 := by rw [hA3.2.1, hB3.2.1] at q1; exact q1
  have hnn : n = n2 := by rw [hA3.2.2.1, hB3.2.2.1] at q2; exact q2
  have h1x := h1 hpp hnn
  clear h1 h0
  subst hpp
  subst hnn
  have hpw := hA.pn.pow
  have hpw0 := ppos b1 n.toNat
  refine Ma_noteDue_s hA3 ha (fun s4 hdue hO4 => ⟨hB.1, ?_⟩)
  have hO4' : Off DL σ s4 := Off_trans hO3 (Off_mono hO4 (fun b j q => by unfold DL; omega))
  have hB4 := hB.dl hb hO4'
  refine Wd_vectors_s hB.1 (by rw [hB4.2.1, hB4.2.2.1]; exact hB.pn) ⟨rd_of kd_83 (by omega) (by omega), hB.1, hB.1, ?_⟩
  rw [hB4.2.1, hB4.2.2.1]
  have hST4 := hST.dl hO4'
  refine Ec_begin_s ob_89 (hST4 89 ob_89) hB.pn.pr (by omega) (by rw [stl5 (by omega) (by omega)]; omega) (fun s5 hE5 hO5 => Ma_startLevel_s (by omega) (by omega) (fun s6 h82 h79 hO6 => ?_))
  have hO6' : Off DL σ s6 := Off_trans hO4' (Off_trans (Off_mono hO5 (fun b j q => by unfold DL; omega)) (Off_mono hO6 (fun b j q => by unfold DL; omega)))
  rw [w32_id (by omega) (by omega)]
  generalize hN : (p ^ n.toNat).toNat = N at *
  have hNN : (N : Int) = p ^ n.toNat := by omega
  generalize hfirst : decide (fi ≠ 0) = first at *
  have hFdef : FND p n T1 T2 first = gmF (FIT p n T1 T2) first n N n.toNat (fun _ => 0) (0, 0, false) := by unfold FND; rw [hN]
  generalize hFIN : FND p n T1 T2 first = FIN at *
  -- how it ends
  have endq : ∀ t, t 78 0 = FIN.1 → t 78 1 = FIN.2.1 → t 78 2 = (if FIN.2.2 = true then 1 else 0) → (0 ≤ FIN.2.1 ∧ FIN.2.1 ≤ FIN.1 ∧ FIN.1 ≤ 200000) → Off DL σ t → (t 78 1 ≤ 0 → Q 0 t) ∧ (0 < t 78 1 → Q 1 t) := fun t g0 g1 g2 g3 g4 => by
    have := h1x t g0 g1 g2 g3 (hST.dl g4) g4
    rw [g1]
    refine ⟨fun z => ?_, fun z => ?_⟩
    · rw [if_neg (by omega)] at this; exact this
    · rw [if_pos z] at this; exact this
  refine loop_wf (S := Int × Int × (Int → Int) × SG) (P := fun s => L (d + 5) M_Ma_look 66 [vA 78, vA a, vA b, vI fi, vI (p ^ n.toNat - 1), vI s.1, vI s.2.1] [] s.2.2.2 Q)
    (fun s => (-1 ≤ s.1 ∧ s.1 < n) ∧ (0 ≤ s.2.1 ∧ s.2.1 + s.1 ≤ 2 * s.2.2.2 78 0) ∧ (0 ≤ s.2.2.2 78 1 ∧ s.2.2.2 78 1 ≤ s.2.2.2 78 0 ∧ s.2.2.2 78 0 ≤ 200000) ∧ s.2.2.2 78 2 = 0 ∧ stp first (s.2.2.2 78 0, s.2.2.2 78 1, false) = false ∧ (∀ i, 0 ≤ i → i ≤ s.1 → s.2.2.2 82 i = s.2.2.1 i ∧ 0 ≤ s.2.2.1 i ∧ s.2.2.1 i ≤ p ^ n.toNat - 1) ∧ (∀ i k, 0 ≤ i → i ≤ s.1 → 0 ≤ k → k < n → s.2.2.2 79 (5 * i + k) = dg p (s.2.2.1 i) k) ∧ (∀ i, 0 ≤ i → i ≤ s.1 → EC s.2.2.2 (89 + 3 * i) p n (SPN p n s.2.2.1 i)) ∧ (∀ i b k, 0 ≤ i → i < s.1 → 0 ≤ b → b < n → 0 ≤ k → k < n → s.2.2.2 80 (25 * i + 5 * b + k) = mtr p n T2 (dg p (s.2.2.1 i)) b k) ∧ (∀ i j, 0 ≤ i → i < j → j < n → due n T1 i j (s.2.2.2 81 (5 * i + j))) ∧ (∀ k, 0 ≤ k → k < s.1 → FIT p n T1 T2 k s.2.2.1) ∧ unw (FIT p n T1 T2) first n N s.2.2.1 (s.1 + 1).toNat (s.2.2.2 78 0, s.2.2.2 78 1, false) = FIN ∧ Off DL σ s.2.2.2) (fun s => (1000000 - s.2.1).toNat) ?_ (0, 0, fun _ => 0, s6) ?_
  · rintro ⟨lev, t, xs, u⟩ ⟨hlev, ht, hb3, hsp, hst, hset, him, hE, hmt, hdu, hpre, hunw, hO⟩ ih
    simp only at hlev ht hb3 hsp hst hset him hE hmt hdu hpre hunw hO ⊢
    have ht2 : t < 1000000 := by omega
    refine s_Ma_look_66 ⟨fun q => by omega, fun _ => ⟨fun q => ?_, fun q => ?_⟩⟩
    · rw [show (lev + 1).toNat = 0 by omega] at hunw
      have hunw' : (u 78 0, u 78 1, false) = FIN := hunw
      refine endq u (by rw [← hunw']) (by rw [← hunw']) (by rw [← hunw', hsp]; rfl) (by rw [← hunw']; exact hb3) hO
    · obtain ⟨l, rfl⟩ := nat_of q
      have hAu := hA.dl ha hO
      have hBu := hB.dl hb hO
      obtain ⟨g82, gx0, gx1⟩ := hset l (by omega) (Int.le_refl _)
      have hdefs : unw (FIT p n T1 T2) first n N xs l (lcF (FIT p n T1 T2) first (gmF (FIT p n T1 T2) first n N (n.toNat - (l + 1))) (l : Int) (trx xs l) (N - 1 - (xs l).toNat) (xs l + 1) (u 78 0, u 78 1, false)) = FIN := by
        rw [show ((l : Int) + 1).toNat = l + 1 by omega] at hunw
        exact hunw
      refine ⟨⟨by omega, by omega⟩, fun q2 => ?_, fun q2 => ?_⟩
      · rw [g82] at q2
        obtain ⟨c, hc⟩ : ∃ c, N - 1 - (xs l).toNat = c + 1 := ⟨N - 1 - (xs l).toNat - 1, by omega⟩
        rw [hc] at hdefs
        refine ⟨fun q3 => ?_, fun q3 => ?_⟩
        · intro v1 ev1
          rw [w32_id (by omega) (by omega)] at ev1
          refine ⟨⟨by omega, by omega⟩, ⟨by omega, by omega⟩, fun v2 ev2 => ?_⟩
          have e82 : v1 82 l = xs l := by rw [ev1, up_ne (by omega)]; exact g82
          rw [e82, w32_id (by omega) (by omega)] at ev2
          have fv : ∀ b j, ¬ ((b = 78 ∧ j = 0) ∨ (b = 82 ∧ j = (l : Int))) → v2 b j = u b j := fun b j hbj => by rw [ev2, up_ne (by omega), ev1, up_ne (by omega)]
          have hO2 : Off DL σ v2 := fun b j hbj => by rw [fv b j (by unfold DL at hbj; omega)]; exact hO b j hbj
          have g0 : v2 78 0 = u 78 0 + 1 := by rw [ev2, up_ne (by omega), ev1, up_same]
          have gl : v2 82 l = xs l + 1 := by rw [ev2, up_same]
          refine Ma_turnImage_s (x := xs l) (hB.dl hb hO2) hb (by omega) (by omega) gx0 (by omega) (fun k k0 k1 => by rw [fv 79 _ (by omega)]; exact him l k (by omega) (Int.le_refl _) k0 k1) (fun v3 him3 hO3 => ?_)
          have hO3' : Off DL σ v3 := Off_trans hO2 (Off_mono hO3 (fun b j q => by unfold DL; omega))
          have hF : FIT p n T1 T2 l (upx (trx xs l) l (xs l + 1)) ↔ FIT p n T1 T2 l (upx xs l (xs l + 1)) := FIT_cg (fun i i0 i1 => by
            show (if i = (l : Int) then xs l + 1 else if i < (l : Int) then xs i else 0) = (if i = (l : Int) then xs l + 1 else xs i)
            by_cases g : i = (l : Int)
            · rw [if_pos g, if_pos g]
            · rw [if_neg g, if_neg g, if_pos (by omega)]) (by omega)
          have ux : ∀ i, i ≠ (l : Int) → upx xs l (xs l + 1) i = xs i := fun i hi => by unfold upx; rw [if_neg hi]
          have ul : upx xs l (xs l + 1) l = xs l + 1 := by unfold upx; rw [if_pos rfl]
          have hEl : EC v3 (89 + 3 * l) p n (SPN p n (upx xs l (xs l + 1)) l) := by
            rw [SPN_cg (ys := xs) (fun i i0 i1 => ux i (by omega))]
            exact (hE l (by omega) (Int.le_refl _)).cg (fun k => by rw [hO3 _ k (by omega), fv _ k (by omega)]) (fun k => by rw [hO3 _ k (by omega), fv _ k (by omega)])
          have him' : ∀ i k, 0 ≤ i → i ≤ (l : Int) → 0 ≤ k → k < n → v3 79 (5 * i + k) = dg p (upx xs l (xs l + 1) i) k := fun i k i0 i1 k0 k1 => by
            by_cases g : i = (l : Int)
            · rw [g, ul]; exact him3 k k0 k1
            · rw [ux i g, hO3 79 _ (by omega), fv 79 _ (by omega)]; exact him i k i0 i1 k0 k1
          have hpre' : ∀ k, 0 ≤ k → k < (l : Int) → FIT p n T1 T2 k (upx xs l (xs l + 1)) := fun k k0 k1 => (FIT_cg (fun i i0 i1 => ux i (by omega)) k0).mpr (hpre k k0 k1)
          have hmt' : ∀ i b k, 0 ≤ i → i < (l : Int) → 0 ≤ b → b < n → 0 ≤ k → k < n → v3 80 (25 * i + 5 * b + k) = mtr p n T2 (dg p (upx xs l (xs l + 1) i)) b k := fun i b k i0 i1 b0 b1' k0 k1 => by
            rw [ux i (by omega), hO3 80 _ (by omega), fv 80 _ (by omega)]; exact hmt i b k i0 i1 b0 b1' k0 k1
          have hdu' : ∀ i j, 0 ≤ i → i < j → j < n → due n T1 i j (v3 81 (5 * i + j)) := fun i j i0 ij jn => by rw [hO3 81 _ (by omega), fv 81 _ (by omega)]; exact hdu i j i0 ij jn
          refine Ma_fits_s (hA.dl ha hO3') (hB.dl hb hO3') ha hb (by omega) (by omega) hdu' him' hmt' hEl hpre' (fun v4 hfit hO4 => ⟨fun _ => ⟨hB.1, ?_⟩, fun z => by omega⟩) (fun v4 hfit hO4 => ⟨fun z => by omega, fun _ => ?_⟩)
          · -- it fits
            rw [lcF_yes hst (show u 78 0 ≠ 200000 by omega) (hF.mpr hfit)] at hdefs
            have hO4' : Off DL σ v4 := Off_trans hO3' (Off_mono hO4 (fun b j q => by unfold DL; omega))
            have gv : ∀ j, v4 78 j = v2 78 j := fun j => by rw [hO4 78 j (by omega), hO3 78 j (by omega)]
            have gset : ∀ i, 0 ≤ i → i ≤ (l : Int) → v4 82 i = upx xs l (xs l + 1) i ∧ 0 ≤ upx xs l (xs l + 1) i ∧ upx xs l (xs l + 1) i ≤ p ^ n.toNat - 1 := fun i i0 i1 => by
              rw [hO4 82 _ (by omega), hO3 82 _ (by omega)]
              by_cases g : i = (l : Int)
              · rw [g, ul, gl]; omega
              · rw [ux i g, fv 82 _ (by omega)]; exact hset i i0 i1
            rw [(hB.dl hb hO4').2.2.1, w32_id (x := (l : Int) + 1) (by omega) (by omega)]
            refine ⟨fun q4 => ?_, fun q4 => ?_⟩
            · intro v5 e5
              have hk0 : n.toNat - (l + 1) = 0 := by omega
              rw [hk0] at hdefs
              rw [gv 1, fv 78 1 (by omega), w32_id (by omega) (by omega)] at e5
              have k0 : v5 78 0 = u 78 0 + 1 := by rw [e5, up_ne (by omega), gv 0, g0]
              have k1 : v5 78 1 = u 78 1 + 1 := by rw [e5, up_same]
              have k2 : v5 78 2 = 0 := by rw [e5, up_ne (by omega), gv 2, fv 78 2 (by omega)]; exact hsp
              have hO5 : Off DL σ v5 := fun b j hbj => by rw [e5, up_ne (by unfold DL at hbj; omega)]; exact hO4' b j hbj
              have hd2 : unw (FIT p n T1 T2) first n N xs l (lcF (FIT p n T1 T2) first (gmF (FIT p n T1 T2) first n N 0) (l : Int) (trx xs l) c (xs l + 1 + 1) (u 78 0 + 1, u 78 1 + 1, false)) = FIN := hdefs
              refine ⟨fun q5 => ?_, fun q5 => ?_⟩
              · -- go on
                have hfs : first = false := by rw [← hfirst]; simp [q5]
                rw [w32_id (by omega) (by omega)]
                refine ih ((l : Int), t + 1, upx xs l (xs l + 1), v5) ⟨by simp only; omega, by simp only; omega, by simp only; omega, k2, by simp only; unfold stp; rw [hfs]; rfl, fun i i0 i1 => by simp only at i1 ⊢; rw [e5, up_ne (by omega)]; exact gset i i0 i1, fun i k i0 i1 q0 q1 => by simp only at i1 ⊢; rw [e5, up_ne (by omega), hO4 79 _ (by omega)]; exact him' i k i0 i1 q0 q1, fun i i0 i1 => ?_, fun i b k i0 i1 q0 q1 q2 q3 => by simp only at i1 ⊢; rw [e5, up_ne (by omega), hO4 80 _ (by omega)]; exact hmt' i b k i0 i1 q0 q1 q2 q3, fun i j i0 ij jn => by simp only; rw [e5, up_ne (by omega), hO4 81 _ (by omega)]; exact hdu' i j i0 ij jn, hpre', ?_, hO5⟩ (by simp only; omega)
                · simp only at i1 ⊢
                  rw [SPN_cg (ys := xs) (fun j j0 j1 => ux j (by omega))]
                  exact (hE i i0 i1).cg (fun k => by rw [e5, up_ne (by omega), hO4 _ k (by omega), hO3 _ k (by omega), fv _ k (by omega)]) (fun k => by rw [e5, up_ne (by omega), hO4 _ k (by omega), hO3 _ k (by omega), fv _ k (by omega)])
                · simp only
                  rw [show ((l : Int) + 1).toNat = l + 1 by omega, k0, k1]
                  show unw (FIT p n T1 T2) first n N (upx xs l (xs l + 1)) l (lcF _ _ _ _ (trx (upx xs l (xs l + 1)) l) (N - 1 - (upx xs l (xs l + 1) l).toNat) (upx xs l (xs l + 1) l + 1) _) = FIN
                  rw [unw_lo l (Nat.le_refl _), trx_lo (Int.le_refl _), ul, show N - 1 - (xs l + 1).toNat = c by omega, hk0]
                  exact hd2
              · -- the first is found
                have hfs : first = true := by rw [← hfirst]; simp [q5]
                have hstop : stp first ((u 78 0 + 1, u 78 1 + 1, false) : MS) = true := by unfold stp; rw [hfs]; simp; omega
                rw [lcF_stop hstop, unw_stop hstop] at hd2
                exact endq v5 (by rw [← hd2]; exact k0) (by rw [← hd2]; exact k1) (by rw [← hd2]; exact k2) (by rw [← hd2]; simp only; omega) hO5
            · -- deeper
              refine Ma_goDeeper_s (xs := upx xs l (xs l + 1)) (hB.dl hb hO4') hb (hST.dl hO4') (by omega) (by omega) (fun k k0 k1 => by rw [hO4 79 _ (by omega)]; exact him' l k (by omega) (Int.le_refl _) k0 k1) (hEl.cg (fun k => hO4 _ k (by omega)) (fun k => hO4 _ k (by omega))) (fun v5 hm5 hE5' h82' h79' hO5 => ?_)
              have hO5' : Off DL σ v5 := Off_trans hO4' (Off_mono hO5 (fun b j q => by unfold DL; omega))
              have gv5 : ∀ j, v5 78 j = v2 78 j := fun j => by rw [hO5 78 j (by omega)]; exact gv j
              rw [w32_id (by omega) (by omega)]
              have yx : ∀ i, i ≠ (l : Int) + 1 → upx (upx xs l (xs l + 1)) ((l : Int) + 1) 0 i = upx xs l (xs l + 1) i := fun i hi => by show (if i = (l : Int) + 1 then 0 else _) = _; rw [if_neg hi]
              have yl : upx (upx xs l (xs l + 1)) ((l : Int) + 1) 0 ((l : Int) + 1) = 0 := by show (if (l : Int) + 1 = (l : Int) + 1 then (0 : Int) else _) = 0; rw [if_pos rfl]
              have gst : stp first ((u 78 0 + 1, u 78 1, false) : MS) = false := by unfold stp at hst ⊢; simpa using hst
              refine ih ((l : Int) + 1, t + 1, upx (upx xs l (xs l + 1)) ((l : Int) + 1) 0, v5) ⟨by simp only; omega, by simp only; rw [gv5 0, g0]; omega, by simp only; rw [gv5 0, gv5 1, g0, fv 78 1 (by omega)]; omega, by simp only; rw [gv5 2, fv 78 2 (by omega)]; exact hsp, by simp only; rw [gv5 0, gv5 1, g0, fv 78 1 (by omega)]; exact gst, fun i i0 i1 => ?_, fun i k i0 i1 q0 q1 => ?_, fun i i0 i1 => ?_, fun i b k i0 i1 q0 q1 q2 q3 => ?_, fun i j i0 ij jn => by simp only; rw [hO5 81 _ (by omega), hO4 81 _ (by omega)]; exact hdu' i j i0 ij jn, fun k k0 k1 => ?_, ?_, hO5'⟩ (by simp only; omega)
              · simp only at i1 ⊢
                by_cases g : i = (l : Int) + 1
                · rw [g, yl]; exact ⟨h82', by omega, by omega⟩
                · rw [yx i g, hO5 82 _ (by omega)]; exact gset i i0 (by omega)
              · simp only at i1 ⊢
                by_cases g : i = (l : Int) + 1
                · rw [g, yl, dg_z]; exact h79' k q0 (by omega)
                · rw [yx i g, hO5 79 _ (by omega), hO4 79 _ (by omega)]; exact him' i k i0 (by omega) q0 q1
              · simp only at i1 ⊢
                rw [SPN_cg (ys := upx xs l (xs l + 1)) (fun j j0 j1 => yx j (by omega))]
                by_cases g : i = (l : Int) + 1
                · rw [g]; exact hE5'
                · have e6 : SPN p n (upx xs l (xs l + 1)) i = SPN p n xs i := SPN_cg (fun j j0 j1 => ux j (by omega))
                  rw [e6]
                  exact (hE i i0 (by omega)).cg (fun k => by rw [hO5 _ k (by omega), hO4 _ k (by omega), hO3 _ k (by omega), fv _ k (by omega)]) (fun k => by rw [hO5 _ k (by omega), hO4 _ k (by omega), hO3 _ k (by omega), fv _ k (by omega)])
              · simp only at i1 ⊢
                rw [yx i (by omega)]
                by_cases g : i = (l : Int)
                · rw [g]; exact hm5 b k q0 q1 q2 q3
                · rw [hO5 80 _ (by omega), hO4 80 _ (by omega)]; exact hmt' i b k i0 (by omega) q0 q1 q2 q3
              · simp only at k1 ⊢
                rw [FIT_cg (ys := upx xs l (xs l + 1)) (fun i i0 i1 => yx i (by omega)) k0]
                by_cases g : k = (l : Int)
                · rw [g]; exact hfit
                · exact hpre' k k0 (by omega)
              · simp only
                rw [gv5 0, gv5 1, g0, fv 78 1 (by omega), show ((l : Int) + 1 + 1).toNat = (l + 1) + 1 by omega]
                show unw (FIT p n T1 T2) first n N (upx (upx xs l (xs l + 1)) ((l : Int) + 1) 0) (l + 1) (lcF _ _ (gmF _ _ _ _ (n.toNat - (l + 1 + 1))) ((l + 1 : Nat) : Int) (trx (upx (upx xs l (xs l + 1)) ((l : Int) + 1) 0) ((l + 1 : Nat) : Int)) (N - 1 - (upx (upx xs l (xs l + 1)) ((l : Int) + 1) 0 ((l + 1 : Nat) : Int)).toNat) (upx (upx xs l (xs l + 1)) ((l : Int) + 1) 0 ((l + 1 : Nat) : Int) + 1) _) = FIN
                rw [show ((l + 1 : Nat) : Int) = (l : Int) + 1 by omega, yl, trx_lo (Int.le_refl _), trx_upx]
                have e7 : ∀ s, unw (FIT p n T1 T2) first n N (upx (upx xs l (xs l + 1)) ((l : Int) + 1) 0) (l + 1) s = unw (FIT p n T1 T2) first n N (upx xs l (xs l + 1)) (l + 1) s := fun s => by
                  have := unw_lo (F := FIT p n T1 T2) (first := first) (n := n) (N := N) (xs := upx xs l (xs l + 1)) (x := 0) (l := l + 1) (l + 1) (Nat.le_refl _) s
                  rw [show ((l + 1 : Nat) : Int) = (l : Int) + 1 by omega] at this
                  exact this
                rw [e7]
                show unw (FIT p n T1 T2) first n N (upx xs l (xs l + 1)) l (lcF _ _ _ _ (trx (upx xs l (xs l + 1)) l) (N - 1 - (upx xs l (xs l + 1) l).toNat) (upx xs l (xs l + 1) l + 1) _) = FIN
                rw [unw_lo l (Nat.le_refl _), trx_lo (Int.le_refl _), ul, show N - 1 - (xs l + 1).toNat = c by omega]
                have e8 : gmF (FIT p n T1 T2) first n N (n.toNat - (l + 1)) (upx (trx xs l) l (xs l + 1)) (u 78 0 + 1, u 78 1, false) = lcF (FIT p n T1 T2) first (gmF (FIT p n T1 T2) first n N (n.toNat - (l + 1 + 1))) ((l : Int) + 1) (upx (trx xs l) l (xs l + 1)) (N - 1) 1 (u 78 0 + 1, u 78 1, false) := by
                  rw [show n.toNat - (l + 1) = (n.toNat - (l + 1 + 1)) + 1 by omega]
                  show lcF _ _ _ (n - (((n.toNat - (l + 1 + 1) : Nat) : Int) + 1)) _ _ _ _ = _
                  rw [show n - (((n.toNat - (l + 1 + 1) : Nat) : Int) + 1) = (l : Int) + 1 by omega]
                have hd3 : unw (FIT p n T1 T2) first n N xs l (lcF (FIT p n T1 T2) first (gmF (FIT p n T1 T2) first n N (n.toNat - (l + 1))) (l : Int) (trx xs l) c (xs l + 1 + 1) (gmF (FIT p n T1 T2) first n N (n.toNat - (l + 1)) (upx (trx xs l) l (xs l + 1)) (u 78 0 + 1, u 78 1, false))) = FIN := hdefs
                rw [e8] at hd3
                exact hd3
          · -- it doesn't
            rw [lcF_no hst (show u 78 0 ≠ 200000 by omega) (fun z => hfit (hF.mp z))] at hdefs
            have hO4' : Off DL σ v4 := Off_trans hO3' (Off_mono hO4 (fun b j q => by unfold DL; omega))
            have gv : ∀ j, v4 78 j = v2 78 j := fun j => by rw [hO4 78 j (by omega), hO3 78 j (by omega)]
            rw [w32_id (by omega) (by omega)]
            have gst : stp first ((u 78 0 + 1, u 78 1, false) : MS) = false := by unfold stp at hst ⊢; simpa using hst
            refine ih ((l : Int), t + 1, upx xs l (xs l + 1), v4) ⟨by simp only; omega, by simp only; rw [gv 0, g0]; omega, by simp only; rw [gv 0, gv 1, g0, fv 78 1 (by omega)]; omega, by simp only; rw [gv 2, fv 78 2 (by omega)]; exact hsp, by simp only; rw [gv 0, gv 1, g0, fv 78 1 (by omega)]; exact gst, fun i i0 i1 => ?_, fun i k i0 i1 q0 q1 => by simp only at i1 ⊢; rw [hO4 79 _ (by omega)]; exact him' i k i0 i1 q0 q1, fun i i0 i1 => ?_, fun i b k i0 i1 q0 q1 q2 q3 => by simp only at i1 ⊢; rw [hO4 80 _ (by omega)]; exact hmt' i b k i0 i1 q0 q1 q2 q3, fun i j i0 ij jn => by simp only; rw [hO4 81 _ (by omega)]; exact hdu' i j i0 ij jn, hpre', ?_, hO4'⟩ (by simp only; omega)
            · simp only at i1 ⊢
              rw [hO4 82 _ (by omega), hO3 82 _ (by omega)]
              by_cases g : i = (l : Int)
              · rw [g, ul, gl]; omega
              · rw [ux i g, fv 82 _ (by omega)]; exact hset i i0 i1
            · simp only at i1 ⊢
              rw [SPN_cg (ys := xs) (fun j j0 j1 => ux j (by omega))]
              exact (hE i i0 i1).cg (fun k => by rw [hO4 _ k (by omega), hO3 _ k (by omega), fv _ k (by omega)]) (fun k => by rw [hO4 _ k (by omega), hO3 _ k (by omega), fv _ k (by omega)])
            · simp only
              rw [gv 0, gv 1, g0, fv 78 1 (by omega), show ((l : Int) + 1).toNat = l + 1 by omega]
              show unw (FIT p n T1 T2) first n N (upx xs l (xs l + 1)) l (lcF _ _ _ _ (trx (upx xs l (xs l + 1)) l) (N - 1 - (upx xs l (xs l + 1) l).toNat) (upx xs l (xs l + 1) l + 1) _) = FIN
              rw [unw_lo l (Nat.le_refl _), trx_lo (Int.le_refl _), ul, show N - 1 - (xs l + 1).toNat = c by omega]
              exact hdefs
        · -- spent
          intro v1 ev1
          rw [lcF_spent hst (show u 78 0 = 200000 by omega)] at hdefs
          have hstop : stp first ((u 78 0, u 78 1, true) : MS) = true := by unfold stp; rfl
          have hd2 : unw (FIT p n T1 T2) first n N xs l (u 78 0, u 78 1, true) = FIN := hdefs
          rw [unw_stop hstop] at hd2
          exact endq v1 (by rw [← hd2, ev1, up_ne (by omega)]) (by rw [← hd2, ev1, up_ne (by omega)]) (by rw [← hd2, ev1, up_same]; rfl) (by rw [← hd2]; exact hb3) (fun b j hbj => by rw [ev1, up_ne (by unfold DL at hbj; omega)]; exact hO b j hbj)
      · rw [g82] at q2
        rw [show N - 1 - (xs l).toNat = 0 by omega] at hdefs
        rw [w32_id (by omega) (by omega), w32_id (by omega) (by omega)]
        refine ih ((l : Int) + -1, t + 1, xs, u) ⟨by simp only; omega, by simp only; omega, hb3, hsp, hst, fun i i0 i1 => hset i i0 (by simp only at i1; omega), fun i k i0 i1 => him i k i0 (by simp only at i1; omega), fun i i0 i1 => hE i i0 (by simp only at i1; omega), fun i b k i0 i1 => hmt i b k i0 (by simp only at i1; omega), hdu, fun k k0 k1 => hpre k k0 (by simp only at k1; omega), ?_, hO⟩ (by simp only; omega)
        simp only
        rw [show ((l : Int) + -1 + 1).toNat = l by omega]
        exact hdefs
  · have g : ∀ j, s6 78 j = s3 78 j := fun j => by rw [hO6 78 j (by omega), hO5 78 j (by omega), hO4 78 j (by omega)]
    refine ⟨by simp only; omega, by simp only; rw [g 0, f0]; omega, by simp only; rw [g 0, g 1, f0, f1]; omega, by simp only; rw [g 2, f2], by simp only; rw [g 0, g 1, f0, f1]; unfold stp; simp, fun i i0 i1 => ?_, fun i k i0 i1 k0 k1 => ?_, fun i i0 i1 => ?_, fun i b k i0 i1 => by simp only at i1; omega, fun i j i0 ij jn => by simp only; rw [hO6 81 _ (by omega), hO5 81 _ (by omega)]; exact hdue i j i0 ij jn, fun k k0 k1 => by simp only at k1; omega, ?_, hO6'⟩
    · simp only at i1 ⊢
      rw [show i = 0 by omega]
      exact ⟨h82, by omega, by omega⟩
    · simp only at i1 ⊢
      rw [show i = 0 by omega, dg_z]
      exact h79 k k0 (by omega)
    · simp only at i1 ⊢
      rw [show i = 0 by omega]
      have e : SPN p n (fun _ => 0) 0 = E0 := by unfold SPN; rw [lp_nil (by omega)]
      rw [e]
      exact hE5.cg (fun k => hO6 89 k (by omega)) (fun k => hO6 90 k (by omega))
    · simp only
      rw [g 0, g 1, f0, f1, show ((0 : Int) + 1).toNat = 1 from rfl, hFdef]
      show lcF _ _ (gmF _ _ _ _ (n.toNat - (0 + 1))) ((0 : Nat) : Int) (trx (fun _ => 0) ((0 : Nat) : Int)) (N - 1 - (0 : Int).toNat) (0 + 1) _ = _
      rw [trx0 (fun _ => rfl)]
      obtain ⟨k, hk⟩ : ∃ k, n.toNat = k + 1 := ⟨n.toNat - 1, by omega⟩
      rw [hk]
      show _ = lcF _ _ (gmF _ _ _ _ k) (n - ((k : Int) + 1)) _ (N - 1) 1 _
      rw [show n - ((k : Int) + 1) = ((0 : Nat) : Int) by omega]
      rfl
end LK
