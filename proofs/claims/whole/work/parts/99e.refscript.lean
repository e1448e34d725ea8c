/-! ===== the model reads a SCRIPT ===== -/
def catW : List (List Int) → List Int
  | [] => []
  | u :: ws => u ++ 32 :: catW ws
theorem waL_none {f : Int → Int} {N e : Int} : ∀ (ws : List (List Int)) (w : Int), (∀ u ∈ ws, (∀ c ∈ u, c ≠ 32) ∧ ¬ isU f N e u) → waL f (tS f N e) (tE f N e) (decide (tK f N e = 1)) (catW ws) w (tS f N e) (decide (tK f N e = 1)) = 0
  | [], _, _ => rfl
  | u :: ws, w, h => by
    have h1 := h u (List.mem_cons_self ..)
    have := (waL_u (f := f) (N := N) (e := e) (w := w) (rest := catW ws) u h1.1).2 h1.2
    show waL f (tS f N e) (tE f N e) (decide (tK f N e = 1)) (u ++ 32 :: catW ws) w (tS f N e) (decide (tK f N e = 1)) = 0
    rw [this]
    exact waL_none ws (w + 1) (fun u hu => h u (List.mem_cons_of_mem _ hu))
def W7 : List (List Int) := [[115, 119, 97, 112], [115, 99, 97, 108, 101], [97, 100, 100], [107, 101, 101, 112], [116, 97, 107, 101], [115, 117, 109], [119, 104, 101, 110], [108, 111, 111, 112], [115, 116, 111, 112]]
theorem waR_end {f : Int → Int} {N e : Int} (h : isU f N e (strI 6)) : waR f N e (strI 7) = 0 := by
  have e7 : strI 7 = catW W7 := by decide
  have hw : ∀ u ∈ W7, (∀ c ∈ u, c ≠ 32) ∧ u ≠ strI 6 := by decide
  unfold waR
  rw [e7]
  exact waL_none W7 1 (fun u hu => ⟨(hw u hu).1, fun z => (hw u hu).2 (isU_ne z h)⟩)
/-- the model's heap holds the machine's state -/
def RXX (σ : SG) (f : Int → Int) (N : Int) (X : XS) : Prop := RB σ f N X.1 ∧ NW σ (xM X) ∧ σ 161 70 = xk X
def DRs (b j : Int) : Prop := (b = 161 ∧ ((12 ≤ j ∧ j ≤ 18) ∨ j = 70)) ∨ b = 169
/-- behind a whole STEP -/
def KP (X Y : XS) : Prop := xg Y = xg X ∧ (∀ i, i < xg X → xo Y i = xo X i) ∧ (∀ b, b < xl X → xC Y b 6 = xC X b 6) ∧ xl X < xl Y ∧ X.1.2.2 < Y.1.2.2
section RRS
variable {f : Int → Int} {N : Int}
theorem NW.hi {σ : SG} {M : Int → Int → Int} {q k v : Int} (h : NW σ M) (hq : 30 ≤ q) : NW σ (c2u M q k v) := fun a b a0 a1 b0 b1 => by rw [c2u_ne (by omega)]; exact h a b a0 a1 b0 b1
theorem R_step_one (hB : BYT f) (e : Nat) {X : XS} {σ : SG} {Q : Int → SG → Prop} (g0 : X.1.1 = 0) (hXB : XB N X) (hI : XI X) (hend : 0 < xg X → ¬ isU f N X.1.2.2 (strI 6)) (hns : ¬ xstop f N X) (hX : RXX σ f N X)
    (rec : xg X < 3 → ∀ (Z : XS) (t : SG) (Q' : Int → SG → Prop), xg Z = xg X + 1 → Z.1.1 = 0 → XB N Z → XI Z → ¬ isU f N Z.1.2.2 (strI 6) → RXX t f N Z → (∀ Y t', Rch f N Z Y → RB t' f N Y.1 → (Y.1.1 = 0 → KP Z Y ∧ XB N Y ∧ XI Y ∧ RXX t' f N Y) → Off DRs t t' → Q' 0 t') → Tri (e + 6) M_R_readStep [vA 161, vI (xg X + 1)] t Q')
    (h : ∀ Y t, Rch f N X Y → RB t f N Y.1 → (Y.1.1 = 0 → KP X Y ∧ XB N Y ∧ XI Y ∧ RXX t f N Y) → Off DRs σ t → Q 0 t) : Tri (e + 7) M_R_readStep [vA 161, vI (xg X)] σ Q := by
  obtain ⟨hpb, gg0, g3, k0, k1, l0, l1⟩ := id hXB
  obtain ⟨hR, hM, h70⟩ := hX
  have w9 := waR_9 (f := f) (N := N) (e := X.1.2.2)
  have w0 := waR_nn (f := f) (N := N) (e := X.1.2.2) (u := strI 7)
  have hgo : Rch f N X (tn f N X) := Rch.go hns
  have h12 : σ 161 12 = 0 := hR.1.trans g0
  have h15 : σ 161 15 = tS f N X.1.2.2 := hR.2.2.2.2.2.2.2.1
  -- a FAULT at the WORD
  have f83 : ∀ (x2 x3 : Int) (Z : XS) (t : SG), Rch f N X Z → 0 < Z.1.1 → RB t f N Z.1 → Off DRs σ t → L (e + 7) M_R_readStep 83 [vA 161, vI (xg X), vI x2, vI x3, vU] [] t Q := fun x2 x3 Z t hr hz hRt hO => s_R_readStep_83 ⟨fun y => by have := hRt.1; omega, fun _ => h Z t hr hRt (fun y => by omega) hO⟩
  have f57 : ∀ (x2 x3 : Int) (Z : XS) (t : SG), Rch f N X Z → 0 < Z.1.1 → RB t f N Z.1 → Off DRs σ t → L (e + 7) M_R_readStep 57 [vA 161, vI (xg X), vI x2, vI x3, vU] [] t Q := fun x2 x3 Z t hr hz hRt hO => s_R_readStep_57 ⟨fun _ => f83 x2 x3 Z t hr hz hRt hO, fun y => by have := hRt.1; omega⟩
  have f31 : ∀ (x2 x3 : Int) (Z : XS) (t : SG), Rch f N X Z → 0 < Z.1.1 → RB t f N Z.1 → Off DRs σ t → L (e + 7) M_R_readStep 31 [vA 161, vI (xg X), vI x2, vI x3, vU] [] t Q := fun x2 x3 Z t hr hz hRt hO => s_R_readStep_31 ⟨fun _ => f57 x2 x3 Z t hr hz hRt hO, fun y => by have := hRt.1; omega⟩
  have of2 : ∀ t, Off (fun b j => b = 161 ∧ 12 ≤ j ∧ j ≤ 13) σ t → Off DRs σ t := fun t hO => Off_mono hO (fun b j q => Or.inl ⟨q.1, Or.inl ⟨q.2.1, by omega⟩⟩)
  have of8 : ∀ {t t2 : SG}, Off DRs σ t → Off (fun b j => b = 161 ∧ 12 ≤ j ∧ j ≤ 18) t t2 → Off DRs σ t2 := fun h1 h2 => Off_trans h1 (Off_mono h2 (fun b j q => Or.inl ⟨q.1, Or.inl q.2⟩))
  -- behind the STEP, a FAULT stands
  have f166 : ∀ (x3 : Int) (Z : XS) (t : SG), Rch f N X Z → 0 < Z.1.1 → RB t f N Z.1 → Off DRs σ t → xk X < 30 → L (e + 7) M_R_readStep 166 [vA 161, vU, vU, vI x3, vI (7 * xk X)] [] t Q := by
    intro x3 Z t hr hz hRt hO hk
    have last : ∀ t2 v, RB t2 f N Z.1 → Off DRs σ t2 → ∀ t3, t3 = up t2 169 (w32 (7 * xk X + 6)) v → Q 0 t3 := fun t2 v hR2 hO2 t3 e3 => h Z t3 hr (hR2.u9 e3) (fun y => by omega) (Off_trans hO2 (by rw [e3]; exact Off_up (Or.inr rfl)))
    have mb : ∀ (b : Int) (t2 : SG) (Q' : Int → SG → Prop), (b = 0 ∨ b = 1) → RB t2 f N Z.1 → (∀ t3, RB t3 f N Z.1 → Off (fun b j => b = 161 ∧ 12 ≤ j ∧ j ≤ 18) t2 t3 → Q' 0 t3) → Tri (e + 6) M_R_must [vA 161, vI b] t2 Q' := by
      intro b t2 Q' hb hR2 hq
      refine R_must_s hB (t := decide (b = 1)) ?_ hR2 (fun t3 hR3 hO3 => hq t3 (by rw [mst_bad hz] at hR3; exact hR3) hO3)
      rcases hb with q | q
      · rw [q]; rfl
      · rw [q]; rfl
    have two : ∀ (b : Int) (t2 : SG), (b = 0 ∨ b = 1) → RB t2 f N Z.1 → Off DRs σ t2 → Tri (e + 6) M_R_must [vA 161, vI b] t2 (fun r6 σ6 => (0 ≤ w32 (7 * xk X + 6) ∧ w32 (7 * xk X + 6) < 300) ∧ (∀ σ7, σ7 = up σ6 169 (w32 (7 * xk X + 6)) (σ6 161 70) → Q 0 σ7)) := fun b t2 hb hR2 hO2 => mb b t2 _ hb hR2 (fun t3 hR3 hO3 => ⟨w7_i (by omega) hk (by omega) (by omega), fun t4 e4 => last t3 _ hR3 (of8 hO2 hO3) t4 e4⟩)
    have one : ∀ (b : Int) (t2 : SG), (b = 0 ∨ b = 1) → RB t2 f N Z.1 → Off DRs σ t2 → Tri (e + 6) M_R_must [vA 161, vI b] t2 (fun r4 σ4 => Tri (e + 6) M_R_isSign [vA 161, vI 59] σ4 (fun r5 σ5 => Tri (e + 6) M_R_must [vA 161, vI r5] σ5 (fun r6 σ6 => (0 ≤ w32 (7 * xk X + 6) ∧ w32 (7 * xk X + 6) < 300) ∧ (∀ σ7, σ7 = up σ6 169 (w32 (7 * xk X + 6)) (σ6 161 70) → Q 0 σ7)))) := fun b t2 hb hR2 hO2 => mb b t2 _ hb hR2 (fun t3 hR3 hO3 => R_isSign_s hR3.2.2.2 (fun _ => two 1 t3 (Or.inr rfl) hR3 (of8 hO2 hO3)) (fun _ => two 0 t3 (Or.inl rfl) hR3 (of8 hO2 hO3)))
    exact s_R_readStep_166 ⟨fun _ => ⟨w7_i (by omega) hk (by omega) (by omega), fun t3 e3 => last t _ hRt hO t3 e3⟩, fun _ => R_isEnd_s hRt.2.2.2 (fun _ => one 1 t (Or.inr rfl) hRt hO) (fun _ => one 0 t (Or.inl rfl) hRt hO)⟩
  -- the inner STEPS of a block
  have loop : xg X < 3 → xk X < 30 → ∀ (n : Nat) (Z : XS) (t : SG), Rch f N X Z → RB t f N Z.1 → (Z.1.1 = 0 → xg Z = xg X + 1 ∧ XB N Z ∧ XI Z ∧ RXX t f N Z ∧ xo Z (xg X) = xl X ∧ (∀ i, i < xg X → xo Z i = xo X i) ∧ (∀ b, b ≤ xl X → xC Z b 6 = xC X b 6) ∧ xl X < xl Z ∧ X.1.2.2 < Z.1.2.2 ∧ N - Z.1.2.2 < n) → Off DRs σ t → L (e + 7) M_R_readStep 138 [vA 161, vI (xg X), vU, vI 1, vI (7 * xk X)] [] t Q := by
    intro hg hk n
    induction n with
    | zero =>
      intro Z t hr hRt hZ hO
      have hz : 0 < Z.1.1 := by
        by_cases y : Z.1.1 = 0
        · obtain ⟨_, zb2, _, _, _, _, _, _, _, zn⟩ := hZ y
          have := zb2.1.2.2; omega
        · have := hRt.2.1; omega
      exact s_R_readStep_138 ⟨fun y => by omega, fun _ => ⟨fun _ => f166 1 Z t hr hz hRt hO hk, fun y => by have := hRt.1; omega⟩⟩
    | succ n ih =>
      intro Z t hr hRt hZ hO
      refine s_R_readStep_138 ⟨fun y => by omega, fun _ => ⟨fun y => f166 1 Z t hr (by have := hRt.1; have := hRt.2.1; omega) hRt hO hk, fun y => ?_⟩⟩
      have z0 : Z.1.1 = 0 := by rw [← hRt.1]; exact y
      obtain ⟨zg, zB, zI, zX, zo, zoo, zC, zl, ze, zn⟩ := hZ z0
      have nst : ¬ xstop f N Z := fun q => by rcases q with q | q; omega; have := q.2; omega
      refine R_isEnd_s hRt.2.2.2 (fun hU => ⟨fun _ => ?_, fun q => by omega⟩) (fun hU => ⟨fun q => absurd rfl q, fun _ => ?_⟩)
      · -- the block's end
        have hgZ := hr.trans (Rch.go nst)
        have eT := tn_E (f := f) (N := N) hU (by omega : 0 < xg Z)
        have two : ∀ (b : Int) (t2 : SG), b = (if zb (isS f N (tE f N Z.1.2.2) 59) = true then 1 else 0) → RB t2 f N (adv f N Z.1) → NW t2 (xM Z) → t2 161 70 = xk Z → Off DRs σ t2 → Tri (e + 6) M_R_must [vA 161, vI b] t2 (fun r6 σ6 => (0 ≤ w32 (7 * xk X + 6) ∧ w32 (7 * xk X + 6) < 300) ∧ (∀ σ7, σ7 = up σ6 169 (w32 (7 * xk X + 6)) (σ6 161 70) → Q 0 σ7)) := fun b t2 hb hR2 hM2 h72 hO2 => by
          refine R_must_s hB hb hR2 (fun t3 hR3 hO3 => ⟨w7_i (by omega) hk (by omega) (by omega), fun t4 e4 => ?_⟩)
          have h73 : t3 161 70 = xk Z := (hO3 161 70 (by omega)).trans h72
          have hR4 : RB t4 f N (tn f N Z).1 := by rw [eT]; exact hR3.u9 e4
          refine h (tn f N Z) t4 hgZ hR4 (fun y => ?_) (Off_trans (of8 hO2 hO3) (by rw [e4]; exact Off_up (Or.inr rfl)))
          obtain ⟨B2, lt2⟩ := tn_on zB y
          have I2 := SI_tn zB zI y
          have M4 := (hM2.o8 hO3).up (m := xk X) (by omega) hk (by omega) (by omega) e4
          have q1 : xC Z (xo Z (xg Z - 1)) 6 = xk X := by rw [zg, show xg X + 1 - 1 = xg X by omega, zo, zC _ (Int.le_refl _)]; exact hI.1.1
          refine ⟨⟨?_, ?_, ?_, ?_, by omega⟩, B2, I2, hR4, ?_, ?_⟩
          · rw [eT]; show xg Z - 1 = xg X; omega
          · intro i hi; rw [eT]; exact zoo i hi
          · intro b hb2
            rw [eT]
            show c2u (c2u (c2u (c2u (c2u (xC Z) (xl Z) 0 10) (xl Z) 5 (xo Z (xg Z - 1))) (xo Z (xg Z - 1)) 5 (xl Z)) (xl Z + 1) 6 (xk Z)) (xl Z + 1) 7 (xg Z - 1) b 6 = _
            rw [c2u_ne (by omega), c2u_ne (by omega), c2u_ne (by omega), c2u_ne (by omega), c2u_ne (by omega)]
            exact zC b (by omega)
          · rw [eT]; show xl X < xl Z + 1; omega
          · rw [eT]
            show NW t4 (c2u (xM Z) (xC Z (xo Z (xg Z - 1)) 6) 6 (xk Z))
            rw [q1, ← h73]; exact M4
          · rw [eT, e4, up_ne (by omega)]; exact h73
        have one : Tri (e + 6) M_R_must [vA 161, vI 1] t (fun r4 σ4 => Tri (e + 6) M_R_isSign [vA 161, vI 59] σ4 (fun r5 σ5 => Tri (e + 6) M_R_must [vA 161, vI r5] σ5 (fun r6 σ6 => (0 ≤ w32 (7 * xk X + 6) ∧ w32 (7 * xk X + 6) < 300) ∧ (∀ σ7, σ7 = up σ6 169 (w32 (7 * xk X + 6)) (σ6 161 70) → Q 0 σ7)))) := by
          refine R_must_s hB (t := true) (by rw [if_pos rfl]) hRt (fun t2 hR2 hO2 => ?_)
          rw [mst_go z0 rfl] at hR2
          have hM2 : NW t2 (xM Z) := zX.2.1.o8 hO2
          have h72 : t2 161 70 = xk Z := (hO2 161 70 (by omega)).trans zX.2.2
          exact R_isSign_s hR2.2.2.2 (fun (y : isS f N (tE f N Z.1.2.2) 59) => two 1 t2 (by rw [if_pos (zb_t y)]) hR2 hM2 h72 (of8 hO hO2)) (fun (y : ¬ isS f N (tE f N Z.1.2.2) 59) => two 0 t2 (by rw [if_neg (by rw [zb_f y]; exact Bool.false_ne_true)]) hR2 hM2 h72 (of8 hO hO2))
        exact s_R_readStep_166 ⟨fun q => by omega, fun _ => R_isEnd_s hRt.2.2.2 (fun _ => one) (fun q => absurd hU q)⟩
      · rw [w32_id (x := xg X + 1) (by omega) (by omega)]
        refine rec hg Z t _ zg z0 zB zI hU zX (fun Y t2 hr2 hR2 hY hO2 => ih Y t2 (hr.trans hr2) hR2 (fun y => ?_) (Off_trans hO hO2))
        obtain ⟨⟨p1, p2, p3, p4, p5⟩, yB, yI, yX⟩ := hY y
        exact ⟨by omega, yB, yI, yX, by rw [p2 _ (by omega)]; exact zo, fun i hi => by rw [p2 i (by omega)]; exact zoo i hi, fun b hb => by rw [p3 b (by omega)]; exact zC b hb, by omega, by omega, by omega⟩
  -- the STEP's numbers
  have at83 : ∀ (w x3 : Int), w = waR f N X.1.2.2 (strI 7) → w ≠ 0 → xk X < 30 → ¬ isU f N X.1.2.2 (strI 6) → ((x3 = 1 ∧ (w = 7 ∨ w = 8) ∧ xg X < 3) ∨ (x3 = 0 ∧ ¬ (w = 7 ∨ w = 8))) → L (e + 7) M_R_readStep 83 [vA 161, vI (xg X), vI (w - 1), vI x3, vU] [] σ Q := by
    intro w x3 hw hw0 hk hU hx3
    refine s_R_readStep_83 ⟨fun _ t2 e2 => ?_, fun y => by omega⟩
    rw [h70, w32_id (x := xk X + 1) (by omega) (by omega)] at e2
    rw [h70, w32_id (x := 7 * xk X) (by omega) (by omega)]
    have hR2 : RB t2 f N X.1 := hR.fr (fun q => by rw [e2, up_ne (by omega)]) (fun q _ _ => by rw [e2, up_ne (by omega)])
    have hO2 : Off DRs σ t2 := by rw [e2]; exact Off_up (Or.inl ⟨rfl, Or.inr rfl⟩)
    refine R_go_s hB hR2.2.2.2 (fun t3 hT3 hO3 => ⟨⟨by omega, by omega⟩, fun t4 e4 => ?_⟩)
    have hO3' : Off (fun b j => b = 161 ∧ 12 ≤ j ∧ j ≤ 18) t2 t3 := Off_mono hO3 (fun b j q => by omega)
    have hR3 : RB t3 f N (adv f N X.1) := hR2.adv g0 hT3 hO3
    have hM3 : NW t3 (xM X) := (hM.fr (fun q => by rw [e2, up_ne (by omega)])).o8 hO3'
    have hR4 : RB t4 f N (adv f N X.1) := hR3.u9 e4
    have hM4 : NW t4 (c2u (xM X) (xk X) 0 (w - 1)) := hM3.up (by omega) hk (by omega) (by omega) (by rw [e4, Int.add_zero, w32_id (x := 7 * xk X) (by omega) (by omega)])
    have hO4 : Off DRs σ t4 := Off_trans (of8 hO2 hO3') (by rw [e4]; exact Off_up (Or.inr rfl))
    have h74 : t4 161 70 = xk X + 1 := by rw [e4, up_ne (by omega), hO3 161 70 (by omega), e2, up_same]
    refine R_readRest_s (w := w) (by omega) (by omega) hB (by omega) hk hR4 hM4 c2u_same (fun t5 hR5 hM5 hO5 => ?_)
    have hO5' : Off DRs σ t5 := Off_trans hO4 (Off_mono hO5 (fun b j q => by rcases q with q | q; exact Or.inl ⟨q.1, Or.inl q.2⟩; exact Or.inr q))
    have h75 : t5 161 70 = xk X + 1 := (hO5 161 70 (by omega)).trans h74
    have hS : (tn f N X).1 = tnS f N w X := by
      rcases hx3 with q | q
      · rw [tn_B hU hk (by rw [← hw]; exact q.2.1) q.2.2, ← hw]; rfl
      · rw [tn_P hU (by rw [← hw]; exact hw0) hk (by rw [← hw]; exact q.2), ← hw]; rfl
    have m7 : ∀ b, b = (if zb (isS f N (agS f N w (adv f N X.1)).2.2 59) = true then 1 else 0) → Tri (e + 6) M_R_must [vA 161, vI b] t5 (fun r7 σ7 => L (e + 7) M_R_readStep 138 [vA 161, vI (xg X), vU, vI x3, vI (7 * xk X)] [] σ7 Q) := by
      intro b hb
      refine R_must_s hB hb hR5 (fun t6 hR6 hO6 => ?_)
      have hR6' : RB t6 f N (tn f N X).1 := by rw [hS]; exact hR6
      have hM6 : NW t6 (tnM f N w X) := hM5.o8 hO6
      have h76 : t6 161 70 = xk X + 1 := (hO6 161 70 (by omega)).trans h75
      have hO6' := of8 hO5' hO6
      rcases hx3 with q | q
      · rw [q.1]
        have eT : tn f N X = tnB f N w X := by rw [tn_B hU hk (by rw [← hw]; exact q.2.1) q.2.2, ← hw]
        refine loop q.2.2 hk (N.toNat + 1) (tn f N X) t6 hgo hR6' (fun y => ?_) hO6'
        obtain ⟨B2, lt2⟩ := tn_on hXB y
        have I2 := SI_tn hXB hI y
        refine ⟨by rw [eT]; rfl, B2, I2, ⟨hR6', by rw [eT]; exact hM6, by rw [eT]; exact h76⟩, by rw [eT]; exact if_pos rfl, fun i hi => by rw [eT]; exact if_neg (by omega), fun b hb2 => ?_, by rw [eT]; show xl X < xl X + 1; omega, lt2, by have := B2.1.2.1; have := hR.2.2.2.2.2.1; omega⟩
        rw [eT]
        show tnC f N w X (xg X + 1) b 6 = xC X b 6
        unfold tnC
        rw [c2u_ne (by omega), c2u_ne (by omega), agC_ne (by omega), c2u_ne (by omega)]
      · rw [q.1]
        have eT : tn f N X = tnP f N w X := by rw [tn_P hU (by rw [← hw]; exact hw0) hk (by rw [← hw]; exact q.2), ← hw]
        refine s_R_readStep_138 ⟨fun _ => s_R_readStep_166 ⟨fun _ => ⟨w7_i (by omega) hk (by omega) (by omega), fun t7 e7 => ?_⟩, fun y => absurd rfl y⟩, fun y => absurd rfl y⟩
        have hR7 : RB t7 f N (tn f N X).1 := hR6'.u9 e7
        refine h (tn f N X) t7 hgo hR7 (fun y => ?_) (Off_trans hO6' (by rw [e7]; exact Off_up (Or.inr rfl)))
        obtain ⟨B2, lt2⟩ := tn_on hXB y
        have I2 := SI_tn hXB hI y
        have M7 := hM6.up (m := xk X) (by omega) hk (by omega) (by omega) e7
        rw [h76] at M7
        refine ⟨⟨by rw [eT]; rfl, fun i hi => by rw [eT]; rfl, fun b hb2 => ?_, by rw [eT]; show xl X < xl X + 1; omega, lt2⟩, B2, I2, hR7, by rw [eT]; exact M7, by rw [eT, e7, up_ne (by omega)]; exact h76⟩
        rw [eT]
        show tnC f N w X (xg X) b 6 = xC X b 6
        unfold tnC
        rw [c2u_ne (by omega), c2u_ne (by omega), agC_ne (by omega), c2u_ne (by omega)]
    exact R_isSign_s hR5.2.2.2 (fun y => m7 1 (by rw [if_pos (zb_t y)])) (fun y => m7 0 (by rw [if_neg (by rw [zb_f y]; exact Bool.false_ne_true)]))
  -- the WORD
  have at31 : ∀ (w x3 : Int), w = waR f N X.1.2.2 (strI 7) → w ≠ 0 → ((x3 = 1 ∧ (w = 7 ∨ w = 8)) ∨ (x3 = 0 ∧ ¬ (w = 7 ∨ w = 8))) → L (e + 7) M_R_readStep 31 [vA 161, vI (xg X), vI (w - 1), vI x3, vU] [] σ Q := by
    intro w x3 hw hw0 hx3
    have hU : ¬ isU f N X.1.2.2 (strI 6) := fun z => hw0 (by rw [hw]; exact waR_end z)
    refine s_R_readStep_31 ⟨fun y => absurd h12 y, fun _ => ⟨fun y => ?_, fun y => ?_⟩⟩
    · have hk : xk X < 30 := by rw [h70] at y; omega
      refine s_R_readStep_57 ⟨fun z => absurd h12 z, fun _ => ⟨fun z => at83 w x3 hw hw0 hk hU (by omega), fun z => ⟨fun z3 => at83 w x3 hw hw0 hk hU (by omega), fun z3 => ?_⟩⟩⟩
      rw [h15]
      refine R_fail_s (e9 := 0) (by omega) g0 hR (fun t hRt hO => f83 _ _ (tn f N X) t hgo ?_ ?_ (of2 t hO))
      · rw [tn_7 hU hk (by rw [← hw]; omega) (by omega)]; show (0 : Int) < 7; omega
      · rw [tn_7 hU hk (by rw [← hw]; omega) (by omega)]; exact hRt
    · have hk : 30 ≤ xk X := by rw [h70] at y; omega
      rw [h15]
      refine R_fail_s (e9 := 0) (by omega) g0 hR (fun t hRt hO => f57 _ _ (tn f N X) t hgo ?_ ?_ (of2 t hO))
      · rw [tn_6 hU (by rw [← hw]; exact hw0) hk]; show (0 : Int) < 6; omega
      · rw [tn_6 hU (by rw [← hw]; exact hw0) hk]; exact hRt
  have wr : ∀ x3, waR f N X.1.2.2 (strI 7) = 0 → Tri (e + 6) M_R_wrong [vA 161] σ (fun r4 σ4 => L (e + 7) M_R_readStep 31 [vA 161, vI (xg X), vI (waR f N X.1.2.2 (strI 7) - 1), vI x3, vU] [] σ4 Q) := by
    intro x3 hw
    have eT : tn f N X = flt X (bk f N X.1.2.2 2) (tS f N X.1.2.2) := by
      by_cases hU : isU f N X.1.2.2 (strI 6)
      · by_cases hg : 0 < xg X
        · exact absurd hU (hend hg)
        · exact tn_E0 hU (by omega)
      · exact tn_0 hU hw
    refine R_wrong_s g0 hR (fun t hRt hO => f31 _ _ (tn f N X) t hgo ?_ ?_ (of2 t hO))
    · rw [eT]; exact bk_p (by omega)
    · rw [eT]; exact hRt
  refine t_R_readStep (fun _ => R_stepWord_s hR.2.2.2 ⟨fun z => ⟨fun y => at31 _ 1 rfl (by omega) (Or.inl ⟨rfl, by omega⟩), fun y => by omega⟩, fun z => ⟨fun z7 => ⟨fun y => at31 _ 0 rfl (by omega) (Or.inr ⟨rfl, by omega⟩), fun y => wr 0 (by omega)⟩, fun z7 => ⟨fun y => at31 _ 1 rfl (by omega) (Or.inl ⟨rfl, by omega⟩), fun y => by omega⟩⟩⟩)
theorem R_readStep_s (hB : BYT f) : ∀ (v d : Nat) (X : XS) (σ : SG) (Q : Int → SG → Prop), xg X = 3 - (v : Int) → X.1.1 = 0 → XB N X → XI X → (0 < xg X → ¬ isU f N X.1.2.2 (strI 6)) → ¬ xstop f N X → RXX σ f N X → (∀ Y t, Rch f N X Y → RB t f N Y.1 → (Y.1.1 = 0 → KP X Y ∧ XB N Y ∧ XI Y ∧ RXX t f N Y) → Off DRs σ t → Q 0 t) → Tri (d + v + 7) M_R_readStep [vA 161, vI (xg X)] σ Q := by
  intro v
  induction v with
  | zero =>
    intro d X σ Q hv g0 hXB hI hend hns hX h
    exact R_step_one hB (d + 0) g0 hXB hI hend hns hX (fun q => by omega) h
  | succ v ih =>
    intro d X σ Q hv g0 hXB hI hend hns hX h
    refine R_step_one hB (d + (v + 1)) g0 hXB hI hend hns hX (fun q Z t Q' zg z0 zB zI hU zX hq => ?_) h
    have := ih d Z t Q' (by omega) z0 zB zI (fun _ => hU) (fun y => y.elim (fun q => by omega) (fun q => by have := q.2; have := hXB.2.1; omega)) zX hq
    rw [zg] at this
    exact this
end RRS
section RSP
variable {d : Nat} {σ : SG} {Q : Int → SG → Prop} {f : Int → Int}
theorem R_script_82 {k : Int} {M : Int → Int → Int} {t : SG} (k0 : 0 ≤ k) (k1 : k ≤ 30) (h70 : t 161 70 = k) (hM : NW t M) (h : ∀ t2, (∀ q c, 0 ≤ q → q < k → 0 ≤ c → c < 7 → t2 166 (637 + 7 * q + c) = M q c) → Off (fun b j => b = 166 ∧ 637 ≤ j ∧ j < 860) t t2 → Q k t2) : L (d + 1) M_R_script 82 [vA 161, vU, vI 0] [] t Q := by
  refine loop_up (P := fun x s => L (d + 1) M_R_script 82 [vA 161, vU, vI x] [] s Q) (fun x s => 0 ≤ x ∧ (∀ j, 0 ≤ j → j < x → s 166 (637 + j) = t 169 j) ∧ Off (fun b j => b = 166 ∧ 637 ≤ j ∧ j < 860) t s) (7 * k) ?_ ?_ 0 (by omega) t ⟨Int.le_refl _, fun j j0 j1 => by omega, Off_rfl⟩
  · intro s ⟨x0, hs, hO⟩
    refine s_R_script_82 ⟨fun _ => ?_, fun y => ?_⟩
    · rw [hO 161 70 (by omega), h70]
      refine h s (fun q c q0 q1 c0 c1 => ?_) hO
      rw [show 637 + 7 * q + c = 637 + (7 * q + c) by omega, hs _ (by omega) (by omega)]
      exact hM q c q0 (by omega) c0 c1
    · rw [hO 161 70 (by omega), h70, w32_id (by omega) (by omega)] at y; omega
  · intro x s hx ⟨x0, hs, hO⟩ next
    refine s_R_script_82 ⟨fun y => ?_, fun _ => ?_⟩
    · rw [hO 161 70 (by omega), h70, w32_id (by omega) (by omega)] at y; omega
    · rw [w32_id (x := 637 + x) (by omega) (by omega), w32_id (x := x + 1) (by omega) (by omega)]
      refine ⟨⟨x0, by omega⟩, ⟨by omega, by omega⟩, fun s2 e2 => next s2 ⟨by omega, fun j j0 j1 => ?_, Off_trans hO (by rw [e2]; exact Off_up ⟨rfl, by omega, by omega⟩)⟩⟩
      by_cases q : j = x
      · rw [q, e2, up_same]; exact hO 169 x (by omega)
      · rw [e2, up_ne (by omega)]; exact hs j j0 (by omega)
def DRS2 (b j : Int) : Prop := (b = 161 ∧ (j = 0 ∨ j = 1 ∨ (8 ≤ j ∧ j ≤ 18) ∨ j = 70)) ∨ b = 169
theorem R_script_s {x : Int} (hB : BYT f) (hf : ∀ q, 0 ≤ q → q < 600 → σ 165 q = f q) (htp : 0 ≤ σ 161 8 ∧ σ 161 8 ≤ 600)
    (h5 : (x < 0 ∨ σ 161 8 < x ∨ 300 < x) → ∀ t, t 161 0 = 5 → Off (fun b j => b = 161 ∧ (j = 0 ∨ j = 1)) σ t → Q (-1) t)
    (h1 : 0 ≤ x → x ≤ σ 161 8 → x ≤ 300 → ∀ Y t, Rch f x (X0 (fun _ _ => 0) (fun q k => σ 169 (7 * q + k))) Y → Y.1.1 = 0 → tK f x Y.1.2.2 = 0 → xg Y = 0 → XB x Y → XI Y → t 161 0 = 0 → t 161 8 = 0 → t 161 10 = 0 → t 161 11 = -1 → t 166 635 = 1 → t 166 636 = xk Y → (∀ q c, 0 ≤ q → q < xk Y → 0 ≤ c → c < 7 → t 166 (637 + 7 * q + c) = xM Y q c) → Off (fun b j => DRS2 b j ∨ (b = 166 ∧ 635 ≤ j ∧ j < 860)) σ t → Q (xk Y) t)
    (h0 : 0 ≤ x → x ≤ σ 161 8 → x ≤ 300 → ∀ Y t, Rch f x (X0 (fun _ _ => 0) (fun q k => σ 169 (7 * q + k))) Y → 0 < Y.1.1 → t 161 0 = 10 → t 161 8 = 0 → t 161 10 = Y.1.1 → t 161 11 = Y.1.2.1 → Off DRS2 σ t → Q (-1) t) : Tri (d + 11) M_R_script [vA 161, vI x] σ Q := by
  refine t_R_script (fun _ s1 e1 s2 e2 => ?_)
  have hO2 : Off (fun b j => b = 161 ∧ (j = 0 ∨ j = 1)) σ s2 := by rw [e2, e1]; exact Off_trans (Off_up ⟨rfl, by omega⟩) (Off_up ⟨rfl, by omega⟩)
  have e8 : s2 161 8 = σ 161 8 := hO2 161 8 (by omega)
  have e0 : s2 161 0 = 0 := by rw [e2, up_same]
  refine R_opens_s hB (by omega) (fun q q0 q1 => (hO2 165 q (by omega)).trans (hf q q0 q1)) (fun z t et => ⟨fun y => absurd rfl y, fun _ => h5 (by omega) t (by rw [et, up_same]) (Off_trans hO2 (by rw [et]; exact Off_up ⟨rfl, by omega⟩))⟩) (fun x0 x1 x2 t3 hR3 h83 hO3 => ⟨fun _ s5 e5 => ?_, fun y => by omega⟩)
  rw [e8] at x1
  have hO5 : Off DRS2 σ s5 := Off_trans (Off_trans (Off_mono hO2 (fun b j q => Or.inl ⟨q.1, by omega⟩)) (Off_mono hO3 (fun b j q => Or.inl ⟨q.1, by omega⟩))) (by rw [e5]; exact Off_up (Or.inl ⟨rfl, by omega⟩))
  have at50 : ∀ (Y : XS) (t : SG), Rch f x (X0 (fun _ _ => 0) (fun q k => σ 169 (7 * q + k))) Y → RB t f x Y.1 → (Y.1.1 = 0 → tK f x Y.1.2.2 = 0 ∧ xg Y = 0 ∧ XB x Y ∧ XI Y ∧ RXX t f x Y) → t 161 0 = 0 → t 161 8 = 0 → Off DRS2 σ t → L (d + 11) M_R_script 50 [vA 161, vU, vU] [] t Q := by
    intro Y t hr hRt hY t0 t8 hO
    refine s_R_script_50 (R_isWell_s hRt (fun z t2 a0 a10 a11 hO2 => ⟨fun y => absurd rfl y, fun _ => ?_⟩) (fun z t2 a10 a11 hO2 => ⟨fun _ t6 e6 t7 e7 => ?_, fun y => by omega⟩))
    · exact h0 x0 x1 x2 Y t2 hr z a0 ((hO2 161 8 (by omega)).trans t8) a10 a11 (Off_trans hO (Off_mono hO2 (fun b j q => Or.inl ⟨q.1, by omega⟩)))
    · obtain ⟨hK, hg, yB, yI, yX⟩ := hY z
      have rr : ∀ b j, (b ≠ 166 ∨ (j ≠ 635 ∧ j ≠ 636)) → t7 b j = t2 b j := fun b j q => by rw [e7, up_ne (by omega), e6, up_ne (by omega)]
      have h70 : t6 161 70 = xk Y := by rw [e6, up_ne (by omega), hO2 161 70 (by omega)]; exact yX.2.2
      refine R_script_82 (k := xk Y) yB.2.2.2.1 yB.2.2.2.2.1 (by rw [rr 161 70 (by omega), hO2 161 70 (by omega)]; exact yX.2.2) (yX.2.1.fr (fun q => by rw [rr 169 q (by omega), hO2 169 q (by omega)])) (fun t8' hs8 hO8 => ?_)
      refine h1 x0 x1 x2 Y t8' hr z hK hg yB yI ?_ ?_ ?_ ?_ ?_ ?_ hs8 ?_
      · rw [hO8 161 0 (by omega), rr 161 0 (by omega), hO2 161 0 (by omega)]; exact t0
      · rw [hO8 161 8 (by omega), rr 161 8 (by omega), hO2 161 8 (by omega)]; exact t8
      · rw [hO8 161 10 (by omega), rr 161 10 (by omega)]; exact a10
      · rw [hO8 161 11 (by omega), rr 161 11 (by omega)]; exact a11
      · rw [hO8 166 635 (by omega), e7, up_ne (by omega), e6, up_same]
      · rw [hO8 166 636 (by omega), e7, up_same]; exact h70
      · refine Off_trans (Off_mono hO (fun b j q => Or.inl q)) (Off_trans (Off_mono hO2 (fun b j q => Or.inl (Or.inl ⟨q.1, by omega⟩))) (Off_trans ?_ (Off_mono hO8 (fun b j q => Or.inr ⟨q.1, by omega, by omega⟩))))
        rw [e7, e6]
        exact Off_trans (Off_up (Or.inr ⟨rfl, by omega, by omega⟩)) (Off_up (Or.inr ⟨rfl, by omega, by omega⟩))
  have loop : ∀ (n : Nat) (Y : XS) (t : SG), Rch f x (X0 (fun _ _ => 0) (fun q k => σ 169 (7 * q + k))) Y → RB t f x Y.1 → (Y.1.1 = 0 → xg Y = 0 ∧ XB x Y ∧ XI Y ∧ RXX t f x Y ∧ x - Y.1.2.2 < n) → t 161 0 = 0 → t 161 8 = 0 → Off DRS2 σ t → L (d + 11) M_R_script 28 [vA 161, vU, vU] [] t Q := by
    intro n
    induction n with
    | zero =>
      intro Y t hr hRt hY t0 t8 hO
      have hz : Y.1.1 ≠ 0 := fun y => by
        obtain ⟨_, yB, _, _, yn⟩ := hY y
        have := yB.1.2.2; omega
      exact s_R_script_28 ⟨fun _ => at50 Y t hr hRt (fun y => absurd y hz) t0 t8 hO, fun y => absurd (hRt.1.symm.trans y) hz⟩
    | succ n ih =>
      intro Y t hr hRt hY t0 t8 hO
      refine s_R_script_28 ⟨fun y => at50 Y t hr hRt (fun z => absurd (hRt.1.trans z) y) t0 t8 hO, fun y => ?_⟩
      have y0 : Y.1.1 = 0 := hRt.1.symm.trans y
      obtain ⟨hg, yB, yI, yX, yn⟩ := hY y0
      have h14 : t 161 14 = tK f x Y.1.2.2 := hRt.2.2.2.2.2.2.2.2.2.1
      rw [h14]
      refine ⟨fun z => at50 Y t hr hRt (fun _ => ⟨z, hg, yB, yI, yX⟩) t0 t8 hO, fun z => ?_⟩
      have := R_readStep_s (N := x) hB 3 d Y t (fun r3 σ3 => L (d + 11) M_R_script 28 [vA 161, vU, vU] [] σ3 Q) (by omega) y0 yB yI (fun q => by omega) (fun q => by rcases q with q | q; omega; exact z q.1) yX (fun Y2 t2 hr2 hR2 hY2 hO2 => ih Y2 t2 (hr.trans hr2) hR2 (fun q => ?_) ((hO2 161 0 (by unfold DRs; omega)).trans t0) ((hO2 161 8 (by unfold DRs; omega)).trans t8) (Off_trans hO (Off_mono hO2 (fun b j q => ?_))))
      · rw [hg] at this; exact this
      · obtain ⟨⟨p1, _, _, _, p5⟩, B2, I2, X2⟩ := hY2 q
        exact ⟨by omega, B2, I2, X2, by omega⟩
      · rcases q with q | q
        · exact Or.inl ⟨q.1, by omega⟩
        · exact Or.inr q
  have hR5 : RB s5 f x (0, 0, 0) := hR3.fr (fun q => by rw [e5, up_ne (by omega)]) (fun q _ _ => by rw [e5, up_ne (by omega)])
  refine loop (x.toNat + 1) (X0 (fun _ _ => 0) (fun q k => σ 169 (7 * q + k))) s5 Rch.rfl' hR5 (fun _ => ⟨rfl, XB_0 x0, XI_0, ⟨hR5, ?_, by rw [e5, up_same]; rfl⟩, by show x - 0 < _; omega⟩) ?_ ?_ hO5
  · intro q k q0 q1 k0 k1
    rw [e5, up_ne (by omega), hO3 169 _ (by omega)]
    exact hO2 169 _ (by omega)
  · rw [e5, up_ne (by omega), hO3 161 0 (by omega)]; exact e0
  · rw [e5, up_ne (by omega)]; exact h83
end RSP
