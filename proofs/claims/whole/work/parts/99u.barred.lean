/-! ===== calls: barred, sum, tables ===== -/
section CBA
variable {d : Nat} {σ : SG} {Q : Int → SG → Prop} {c : Int → Int}
/-- a refusal at a SHELF, both halves: for calls that answer numbers -/
theorem sh_ref {x s : Int} {t : SG} {t3 t4 : SG} (hI : IVT σ) (hx : QX σ t s) (hM : KM σ 0 c) (e3 : t3 = up t 161 1 0) (e4 : t4 = up t3 161 0 0) {t5 : SG} (hO5 : Off DR t4 t5) (hM5 : KM t5 0 c) (hs : (s = 2 ∧ ¬ (0 ≤ x ∧ x < 4)) ∨ (s = 8 ∧ (0 ≤ x ∧ x < 4) ∧ c (127 * (x + 1)) = 0)) {G : SG → Prop} {F : Int → SG → Prop} (hF : ∀ u, IVT u → F (-1) u) : Tri (d + 3) M_R_isShelf [vI x] t5 (fun r4 σ4 => (r4 ≠ 0 → Tri (d + 3) M_R_isEmpty [vA 161, vI x] σ4 (fun r6 σ6 => (r6 = 0 → G σ6) ∧ (r6 ≠ 0 → Tri (d + 3) M_R_refuse [vA 161, vI 8] σ6 F))) ∧ (r4 = 0 → Tri (d + 3) M_R_refuse [vA 161, vI 2] σ4 F)) := by
  refine R_isShelf_s (fun y1 y2 => ⟨fun _ => ?_, fun y => by omega⟩) (fun y => ⟨fun q => absurd rfl q, fun _ => ?_⟩)
  · have h8 : s = 8 ∧ c (127 * (x + 1)) = 0 := by rcases hs with h | h; exact absurd ⟨y1, y2⟩ h.2; exact ⟨h.1, h.2.2⟩
    exact R_isEmpty_s hM5 y1 y2 (fun _ => ⟨fun q => by omega, fun _ => R_ref (fun t6 h6 hO6 => hF t6 (no_no hI hx e3 e4 (by rw [h6, h8.1]) (Off_trans hO5 hO6)))⟩) (fun q => absurd h8.2 q)
  · have h2 : s = 2 := by rcases hs with h | h; exact h.1; exact absurd h.2.1 y
    exact R_ref (fun t6 h6 hO6 => hF t6 (no_no hI hx e3 e4 (by rw [h6, h2]) (Off_trans hO5 hO6)))
theorem c_barred {x : Int} (hI : IVT σ) : CAL d M_X_barred M_R_barred [vI x] σ := by
  obtain ⟨c, hK, hM, hD, hS⟩ := hI.2.2.1
  have hW := WD7 hK hD
  have hK' := KC_n hK rfl
  have hS0 := ST_n hI.2.2.2
  have ref : ∀ s, ((s = 2 ∧ ¬ (0 ≤ x ∧ x < 4)) ∨ (s = 8 ∧ (0 ≤ x ∧ x < 4) ∧ c (127 * (x + 1)) = 0)) → Tri (d + 29) M_X_fail [vA 0, vI s] (nrm σ) (fun r u => Tri (d + 30) M_R_barred [vA 161, vI x] u (fun r2 u2 => r = r2 ∧ IVT u2)) := fun s hs => t_X_fail (fun _ t e => by
    have hx := QXm hI e
    exact t_R_barred (fun _ t3 e3 t4 e4 => sh_ref hI hx hM e3 e4 Off_rfl (KM_dr (KM_qx hM hx) (RM0 e3 e4).1) hs (F := fun r u => -1 = r ∧ IVT u) (fun u hu => ⟨rfl, hu⟩)))
  refine Tri_n (t_X_barred (fun _ => X_shelfTrouble_s hK' (fun hn => ⟨fun y => by omega, fun _ => ref 2 (Or.inl ⟨rfl, hn⟩)⟩) (fun y1 y2 hc => ⟨fun y => by omega, fun _ => ref 8 (Or.inr ⟨rfl, ⟨y1, y2⟩, hc⟩)⟩) (fun y1 y2 hc => ⟨fun _ => ⟨rd_of kd_9 y1 (by omega), ?_⟩, fun y => absurd rfl y⟩)))
  have hB := WDs hK hD y1 y2 hc
  rw [sh_13]
  have mod : ∀ (v s : Int) t, QX σ t s → (¬ (c 0 = c (127 * (x + 1)) ∧ c 1 = c (127 * (x + 1) + 1)) → v = -1 ∧ s = 5) → (c 0 = c (127 * (x + 1)) → c 1 = c (127 * (x + 1) + 1) → ∀ t4, KM t4 0 c → Off DR t t4 → t4 161 0 = 0 → L (d + 30) M_R_barred 63 [vA 161, vI x, vI 1, vU, vU, vU] [] t4 (fun r2 u2 => v = r2 ∧ IVT u2)) → Tri (d + 30) M_R_barred [vA 161, vI x] t (fun r2 u2 => v = r2 ∧ IVT u2) := fun v s t hx hu hl => by
    refine t_R_barred (fun _ t3 e3 t4 e4 => R_isShelf_s (fun _ _ => ⟨fun _ => ?_, fun y => by omega⟩) (fun y => absurd ⟨y1, y2⟩ y))
    obtain ⟨o1, o2⟩ := RM0 e3 e4
    have hM4 := KM_dr (KM_qx hM hx) o1
    refine R_isEmpty_s hM4 y1 y2 (fun q => absurd q hc) (fun _ => ⟨fun _ => ?_, fun q => absurd rfl q⟩)
    rw [w32_id (x := x + 1) (by omega) (by omega), w32_id (x := 127 * (x + 1)) (by omega) (by omega)]
    refine t_R_isUnlike (fun _ => ⟨rd_of kd_166 (by omega) (by omega), ?_⟩)
    rw [w32_id (x := 127 * (x + 1) + 1) (by omega) (by omega), KM_at hM4 (j := 127 * (x + 1)) (by omega) (by omega), KM_at hM4 (j := 127 * (x + 1) + 1) (by omega) (by omega), KM_at hM4 (j := 0) (by omega) (by omega), KM_at hM4 (j := 1) (by omega) (by omega)]
    have no : ¬ (c 0 = c (127 * (x + 1)) ∧ c 1 = c (127 * (x + 1) + 1)) → ∀ X : Prop, ((1 : Int) = 0 → X) ∧ ((1 : Int) ≠ 0 → Tri (d + 29) M_R_refuse [vA 161, vI 5] t4 (fun r9 σ9 => v = r9 ∧ IVT σ9)) := fun z X => ⟨fun y => by omega, fun _ => R_ref (fun t6 h6 hO6 => ⟨(hu z).1, IVT_q hI hx (Off_trans o1 hO6) (by rw [h6, (hu z).2])⟩)⟩
    exact ⟨fun z => no (by omega) _, fun z => ⟨rd_of kd_166 (by omega) (by omega), fun z2 => ⟨fun _ => hl z.symm z2.symm t4 hM4 o1 o2, fun y => absurd rfl y⟩, fun z2 => no (by omega) _⟩⟩
  refine Wd_isLike_s ob_7 (ob_sh (by omega) (by omega)) (fun l1 l2 => ⟨fun _ => ?_, fun y => by omega⟩) (fun hne => ⟨fun y => absurd rfl y, fun _ => t_X_fail (fun _ t e => mod (-1) 5 t (QXm hI e) (fun _ => ⟨rfl, rfl⟩) (fun u1 u2 => absurd ⟨hW.2.1.trans (u1.trans hB.2.1.symm), hW.2.2.1.trans (u2.trans hB.2.2.1.symm)⟩ hne))⟩)
  have el1 : c 0 = c (127 * (x + 1)) := hW.2.1.symm.trans (l1.trans hB.2.1)
  have el2 : c 1 = c (127 * (x + 1) + 1) := hW.2.2.1.symm.trans (l2.trans hB.2.2.1)
  have nu : ∀ (v s : Int), ¬ (c 0 = c (127 * (x + 1)) ∧ c 1 = c (127 * (x + 1) + 1)) → v = -1 ∧ s = 5 := fun v s z => absurd ⟨el1, el2⟩ z
  -- numbers of here (h) and there (g)
  generalize hh : (fun w => tel (c 0) (c 1) (TBc c 0) w) = h at *
  generalize hg : (fun w => tel (c (127 * (x + 1))) (c (127 * (x + 1) + 1)) (TBc c (x + 1)) w) = g at *
  have th : ∀ w, tel (c 0) (c 1) (TBc c 0) w = h w := fun w => congrFun hh w
  have tg : ∀ w, tel (c (127 * (x + 1))) (c (127 * (x + 1) + 1)) (TBc c (x + 1)) w = g w := fun w => congrFun hg w
  -- the model's loop
  have one : ∀ (v : Int) (k w : Int) t (t4 : SG), QX σ t 0 → 1 ≤ k → k ≤ 3 → 1 ≤ w → w ≤ 8 → KM t4 0 c → Off DR t t4 → t4 161 0 = 0 → ((k ≠ 2 → g w < h w) ∧ (k = 2 → h w < g w) → v = k) → (¬ ((k ≠ 2 → g w < h w) ∧ (k = 2 → h w < g w)) → ∀ t5, KM t5 0 c → Off DR t t5 → t5 161 0 = 0 → L (d + 30) M_R_barred 63 [vA 161, vI x, vI (k + 1), vU, vU, vU] [] t5 (fun r2 u2 => v = r2 ∧ IVT u2)) → L (d + 30) M_R_barred 87 [vA 161, vI x, vI k, vU, vU, vU] [vI w] t4 (fun r2 u2 => v = r2 ∧ IVT u2) := fun v k w t t4 hx k1 k3 w1 w8 hM4 hO h0 hy hn => by
    refine s_R_barred_87 ?_
    rw [w32_id (x := x + 1) (by omega) (by omega), w32_id (x := 127 * (x + 1)) (by omega) (by omega), w32_id (x := k + 1) (by omega) (by omega)]
    refine R_two (F := fun r2 r4 σ4 => (k ≠ 2 → (r2 ≤ r4 → L (d + 30) M_R_barred 63 [vA 161, vI x, vI (k + 1), vU, vU, vU] [] σ4 (fun r2 u2 => v = r2 ∧ IVT u2)) ∧ (r4 < r2 → v = k ∧ IVT σ4)) ∧ (k = 2 → (r4 ≤ r2 → L (d + 30) M_R_barred 63 [vA 161, vI x, vI (k + 1), vU, vU, vU] [] σ4 (fun r2 u2 => v = r2 ∧ IVT u2)) ∧ (r2 < r4 → v = k ∧ IVT σ4))) (Q := fun _ _ => True) hM4 hD y1 y2 hc ⟨w1, w8⟩ (fun _ _ _ _ h => h) (fun t5 hM5 hO5 h5 => ?_)
    rw [th, tg]
    have i5 : IVT t5 := IVT_q hI hx (Off_trans hO hO5) (h5.trans h0)
    exact ⟨fun q => ⟨fun q2 => hn (fun z => by have := z.1 q; omega) t5 hM5 (Off_trans hO hO5) (h5.trans h0), fun q2 => ⟨hy ⟨fun _ => q2, fun z => absurd z q⟩, i5⟩⟩, fun q => ⟨fun q2 => hn (fun z => by have := z.2 q; omega) t5 hM5 (Off_trans hO hO5) (h5.trans h0), fun q2 => ⟨hy ⟨fun z => absurd q z, fun _ => q2⟩, i5⟩⟩⟩
  have ml : ∀ (v : Int) t (t4 : SG), QX σ t 0 → KM t4 0 c → Off DR t t4 → t4 161 0 = 0 → v = (if g 5 < h 5 then 1 else if h 1 < g 1 then 2 else if g 4 < h 4 then 3 else 0) → L (d + 30) M_R_barred 63 [vA 161, vI x, vI 1, vU, vU, vU] [] t4 (fun r2 u2 => v = r2 ∧ IVT u2) := fun v t t4 hx hM4 hO h0 hv => by
    refine s_R_barred_63 ⟨fun y => by omega, fun _ => ⟨fun y => absurd rfl y, fun _ => one v 1 5 t t4 hx (by omega) (by omega) (by omega) (by omega) hM4 hO h0 (fun z => by rw [hv, if_pos (z.1 (by omega))]) (fun z t5 hM5 hO5 h5 => ?_)⟩⟩
    have n1 : ¬ g 5 < h 5 := fun w => z ⟨fun _ => w, fun q => by omega⟩
    rw [if_neg n1] at hv
    refine s_R_barred_63 ⟨fun y => by omega, fun _ => ⟨fun _ => ⟨fun y => absurd rfl y, fun _ => one v (1 + 1) 1 t t5 hx (by omega) (by omega) (by omega) (by omega) hM5 hO5 h5 (fun z => by rw [hv, if_pos (z.2 (by omega))]; rfl) (fun z t6 hM6 hO6 h6 => ?_)⟩, fun y => by omega⟩⟩
    have n2 : ¬ h 1 < g 1 := fun w => z ⟨fun q => by omega, fun _ => w⟩
    rw [if_neg n2] at hv
    refine s_R_barred_63 ⟨fun y => by omega, fun _ => ⟨fun _ => ⟨fun _ => one v (1 + 1 + 1) 4 t t6 hx (by omega) (by omega) (by omega) (by omega) hM6 hO6 h6 (fun z => by rw [hv, if_pos (z.1 (by omega))]; rfl) (fun z t7 hM7 hO7 h7 => ?_), fun y => by omega⟩, fun y => by omega⟩⟩
    have n3 : ¬ g 4 < h 4 := fun w => z ⟨fun _ => w, fun q => by omega⟩
    rw [if_neg n3] at hv
    exact s_R_barred_63 ⟨fun _ => ⟨hv, IVT_q hI hx hO7 h7⟩, fun y => by omega⟩
  have fin : ∀ (v : Int) t1, ST t1 → Off (fun b j => 43 ≤ b ∧ b ≤ 77) (nrm σ) t1 → v = (if g 5 < h 5 then 1 else if h 1 < g 1 then 2 else if g 4 < h 4 then 3 else 0) → Tri (d + 29) M_X_answer [vA 0, vI v] t1 (fun r u => Tri (d + 30) M_R_barred [vA 161, vI x] u (fun r2 u2 => r = r2 ∧ IVT u2)) := fun v t1 hS1 hO1 hv => t_X_answer (fun _ t e => by
    have hx : QX σ t 0 := QXn hS1 hO1 (fun b j q => by unfold DX; omega) e
    exact mod v 0 t hx (nu _ _) (fun _ _ t4 hM4 hO h0 => ml v t t4 hx hM4 hO h0 hv))
  have w7 : ∀ {u : SG}, Off (fun b j => 43 ≤ b ∧ b ≤ 77) (nrm σ) u → WD u 7 (c 0) (c 1) (TBc c 0) := fun ho => hW.cg (fun k => ho 7 k (by omega)) (fun k => ho (7 + 1) k (by omega))
  have wb : ∀ {u : SG}, Off (fun b j => 43 ≤ b ∧ b ≤ 77) (nrm σ) u → WD u (6 + 5 + 2 * (x + 1)) (c (127 * (x + 1))) (c (127 * (x + 1) + 1)) (TBc c (x + 1)) := fun ho => hB.cg (fun k => ho _ k (by omega)) (fun k => ho _ k (by omega))
  have h5 : c 1 * c 1 - cd (DRV (c 0) (c 1) (TBc c 0)).1 (c 1 * c 1) = h 5 := by rw [← th]; unfold tel; rw [if_neg (by omega), if_neg (by omega), if_neg (by omega), if_neg (by omega), if_pos rfl]
  have g5 : c (127 * (x + 1) + 1) * c (127 * (x + 1) + 1) - cd (DRV (c (127 * (x + 1))) (c (127 * (x + 1) + 1)) (TBc c (x + 1))).1 (c (127 * (x + 1) + 1) * c (127 * (x + 1) + 1)) = g 5 := by rw [← tg]; unfold tel; rw [if_neg (by omega), if_neg (by omega), if_neg (by omega), if_neg (by omega), if_pos rfl]
  have h1 : cd (ser (c 0) (c 1) (TBc c 0) ((0 : Int) ≠ 0) EU (1 : Int).toNat).1 (c 1) = h 1 := by rw [← th]; unfold tel; rw [if_pos rfl]
  have g1 : cd (ser (c (127 * (x + 1))) (c (127 * (x + 1) + 1)) (TBc c (x + 1)) ((0 : Int) ≠ 0) EU (1 : Int).toNat).1 (c (127 * (x + 1) + 1)) = g 1 := by rw [← tg]; unfold tel; rw [if_pos rfl]
  have h4 : c 1 - cd (mvr (c 0) (c 1) (TBc c 0) EU E0).1 (c 1) = h 4 := by rw [← th]; unfold tel; rw [if_neg (by omega), if_neg (by omega), if_neg (by omega), if_pos rfl]
  have g4 : c (127 * (x + 1) + 1) - cd (mvr (c (127 * (x + 1))) (c (127 * (x + 1) + 1)) (TBc c (x + 1)) EU E0).1 (c (127 * (x + 1) + 1)) = g 4 := by rw [← tg]; unfold tel; rw [if_neg (by omega), if_neg (by omega), if_neg (by omega), if_pos rfl]
  refine Me_derivationSize_s hB (by omega) hS0 (fun t1 hS1 o1 => ?_)
  have o1' : Off (fun b j => 43 ≤ b ∧ b ≤ 77) (nrm σ) t1 := Off_mono o1 (fun b j q => by omega)
  refine Me_derivationSize_s (w7 o1') (by omega) hS1 (fun t2 hS2 o2 => ?_)
  have o2' := Off_trans o1' (Off_mono o2 (fun b j q => (by omega : 43 ≤ b ∧ b ≤ 77)))
  rw [h5, g5]
  refine ⟨fun q5 => An_wholeSeries_s (wb o2') (by omega) hS2 (by omega) (fun t3 hS3 o3 => ?_), fun q5 => fin 1 t2 hS2 o2' (by rw [if_pos q5])⟩
  have o3' := Off_trans o2' (Off_mono o3 (fun b j q => (by omega : 43 ≤ b ∧ b ≤ 77)))
  refine An_wholeSeries_s (w7 o3') (by omega) hS3 (by omega) (fun t4 hS4 o4 => ?_)
  have o4' := Off_trans o3' (Off_mono o4 (fun b j q => (by omega : 43 ≤ b ∧ b ≤ 77)))
  rw [h1, g1]
  refine ⟨fun q1 => An_centreSize_s (wb o4') (by omega) hS4 (fun t5 hS5 o5 => ?_), fun q1 => fin 2 t4 hS4 o4' (by rw [if_neg (by omega), if_pos q1])⟩
  have o5' := Off_trans o4' (Off_mono o5 (fun b j q => (by omega : 43 ≤ b ∧ b ≤ 77)))
  refine An_centreSize_s (w7 o5') (by omega) hS5 (fun t6 hS6 o6 => ?_)
  have o6' := Off_trans o5' (Off_mono o6 (fun b j q => (by omega : 43 ≤ b ∧ b ≤ 77)))
  rw [h4, g4]
  exact ⟨fun q4 => fin 0 t6 hS6 o6' (by rw [if_neg (by omega), if_neg (by omega), if_neg (by omega)]), fun q4 => fin 3 t6 hS6 o6' (by rw [if_neg (by omega), if_neg (by omega), if_pos q4])⟩
theorem c_sum {x : Int} (hI : IVT σ) : CAL d M_X_sum M_R_sum [vI x] σ := by
  obtain ⟨c, hK, hM, hD, hS⟩ := hI.2.2.1
  have hW := WD7 hK hD
  have hK' := KC_n hK rfl
  have hS0 := ST_n hI.2.2.2
  have ref : ∀ s, ((s = 2 ∧ ¬ (0 ≤ x ∧ x < 4)) ∨ (s = 8 ∧ (0 ≤ x ∧ x < 4) ∧ c (127 * (x + 1)) = 0)) → Tri (d + 29) M_X_fail [vA 0, vI s] (nrm σ) (fun r u => Tri (d + 30) M_R_sum [vA 161, vI x] u (fun r2 u2 => r = r2 ∧ IVT u2)) := fun s hs => t_X_fail (fun _ t e => by
    have hx := QXm hI e
    refine t_R_sum (fun _ t3 e3 t4 e4 => ?_)
    have o1 := RM0 e3 e4
    have hM4 := KM_dr (KM_qx hM hx) o1.1
    exact R_askNow_s (KM_W0 hM4 hD) (fun t5 hR5 hO5 => sh_ref hI hx hM e3 e4 (Off_ask hO5) (KM_dr hM4 (Off_ask hO5)) hs (F := fun r u => -1 = r ∧ IVT u) (fun u hu => ⟨rfl, hu⟩)))
  refine Tri_n (t_X_sum (fun _ => X_shelfTrouble_s hK' (fun hn => ⟨fun _ => ⟨fun _ => ref 2 (Or.inl ⟨rfl, hn⟩), fun y => by omega⟩, fun y => by omega⟩) (fun y1 y2 hc => ⟨fun _ => ⟨fun _ => ref 8 (Or.inr ⟨rfl, ⟨y1, y2⟩, hc⟩), fun y => by omega⟩, fun y => by omega⟩) (fun y1 y2 hc => ⟨fun y => absurd rfl y, fun _ => ⟨rd_of kd_9 y1 (by omega), ?_⟩⟩)))
  have hB := WDs hK hD y1 y2 hc
  rw [sh_13]
  -- the model from its beginning to sumWith
  have mod : ∀ (v : Int) t, KM t 0 c → (∀ t5, RW t5 (c 0) (c 1) (TBc c 0) → KM t5 0 c → Off DR t t5 → t5 161 0 = 0 → Tri (d + 29) M_R_sumWith [vA 161, vI x] t5 (fun r8 σ8 => (r8 ≤ 0 → v = σ8 166 1 ∧ IVT σ8) ∧ (0 < r8 → Tri (d + 29) M_R_refuse [vA 161, vI r8] σ8 (fun r10 σ10 => v = r10 ∧ IVT σ10)))) → Tri (d + 30) M_R_sum [vA 161, vI x] t (fun r2 u2 => v = r2 ∧ IVT u2) := fun v t hMt h => by
    refine t_R_sum (fun _ t3 e3 t4 e4 => R_now e3 e4 hMt hD (fun t5 hR5 hO5 h05 hM5 => R_isShelf_s (fun _ _ => ⟨fun _ => R_isEmpty_s hM5 y1 y2 (fun q => absurd q hc) (fun _ => ⟨fun _ => h t5 hR5 hM5 hO5 h05, fun q => absurd rfl q⟩), fun y => by omega⟩) (fun y => absurd ⟨y1, y2⟩ y)))
  have rf : ∀ s, (s = 5 ∧ c 0 ≠ c (127 * (x + 1))) ∨ (s = 7 ∧ c 0 = c (127 * (x + 1)) ∧ ¬ PN (c 0) (c 1 + c (127 * (x + 1) + 1))) → Tri (d + 29) M_X_fail [vA 0, vI s] (nrm σ) (fun r u => Tri (d + 30) M_R_sum [vA 161, vI x] u (fun r2 u2 => r = r2 ∧ IVT u2)) := fun s hs => t_X_fail (fun _ t e => by
    have hx := QXm hI e
    refine mod (-1) t (KM_qx hM hx) (fun t5 hR5 hM5 hO5 h05 => R_sumWith_s ⟨y1, y2⟩ (KM_W0 hM5 hD) hR5.2.1 hR5.2.2.1 (KM_Ws hM5 hD y1 y2 hc) (fun hp => ⟨fun y => by omega, fun _ => R_ref (fun t6 h6 hO6 => ⟨rfl, ?_⟩)⟩) (fun hp hn => ⟨fun y => by omega, fun _ => R_ref (fun t6 h6 hO6 => ⟨rfl, ?_⟩)⟩) (fun hp hn t6 _ _ => ?_))
    · exact IVT_q hI hx (Off_trans hO5 hO6) (by rcases hs with h | h; rw [h6, h.1]; exact absurd h.2.1 hp)
    · exact IVT_q hI hx (Off_trans hO5 hO6) (by rcases hs with h | h; exact absurd hp h.2; rw [h6, h.1])
    · rcases hs with h | h
      · exact absurd hp h.2
      · exact absurd hn h.2.2)
  refine Wo_join_s hW (by omega) hB (by omega) (by omega) (fun hp => ⟨fun _ => rf 5 (Or.inl ⟨rfl, hp⟩), fun y => by omega⟩) (fun hp hn => ⟨fun _ => rf 7 (Or.inr ⟨rfl, hp, hn⟩), fun y => by omega⟩) (fun hp hn t1 hWN hO1 => ⟨fun y => absurd rfl y, fun _ => t_X_answer (fun _ t e => ?_)⟩)
  have hO12 : Off (fun b j => (b = 0 ∧ j = 0) ∨ (7 ≤ b ∧ b ≤ 8) ∨ (b = 105 ∧ (j = 1 ∨ j = 2)) ∨ b = 106) (nrm σ) t := Off_trans (Off_mono hO1 (fun b j q => by omega)) (by rw [e]; exact Off_up (Or.inl ⟨rfl, rfl⟩))
  have hOa : OffN (fun b j => (b = 0 ∧ j = 0) ∨ b = 4 ∨ b = 5 ∨ (7 ≤ b ∧ b ≤ 8) ∨ (13 ≤ b ∧ b ≤ 20) ∨ (39 ≤ b ∧ b ≤ 113)) σ t := OffN_n (Off_mono hO12 (fun b j q => by omega))
  have hK2 : KC t 6 (ptW c 0 (c 0) (c 1 + c (127 * (x + 1) + 1)) (MK (c 0) (c 1 + c (127 * (x + 1) + 1)) (SUM2 (c 1) (c (127 * (x + 1) + 1)) (TBc c 0) (TBc c (x + 1))))) := by
    have h1 : KC t1 6 (ptW c 0 (c 0) (c 1 + c (127 * (x + 1) + 1)) (MK (c 0) (c 1 + c (127 * (x + 1) + 1)) (SUM2 (c 1) (c (127 * (x + 1) + 1)) (TBc c 0) (TBc c (x + 1))))) := KC_w0 hK' hWN.1 hWN.2.1 hWN.2.2 (OffN_of (Off_mono hO1 (fun b j q => by omega)))
    exact h1.off (D := fun b j => b = 0) (OffN_of (by rw [e]; exact Off_up rfl)) (fun b j q1 q2 => by omega)
  have hMt := KM_nx hM hOa (fun j => by omega)
  refine mod _ t hMt (fun t5 hR5 hM5 hO5 h05 => R_sumWith_s ⟨y1, y2⟩ (KM_W0 hM5 hD) hR5.2.1 hR5.2.2.1 (KM_Ws hM5 hD y1 y2 hc) (fun q => absurd hp q) (fun _ q => absurd hn q) (fun _ _ t6 hWt hO6 => ⟨fun _ => ⟨?_, ?_⟩, fun y => by omega⟩))
  · rw [hWN.2.1]; exact hWt.2.1.symm
  · exact IVT_2 hI hOa (Off_trans (Off_mono hO5 (fun b j q => Or.inl q)) (Off_mono hO6 (fun b j q => Or.inr ⟨q.1, by omega, by omega⟩))) hK2 (KM_pt0 hM5 hWt (fun j jj => hO6 166 j (by omega))) (DC_pt hD (TW_MK hn) (by omega) (by omega)) (hS0.off hO12 (fun x hx => by have := ech_list hx; omega)) (by rw [e, up_same]) ((hO6 161 0 (by omega)).trans h05)
end CBA
