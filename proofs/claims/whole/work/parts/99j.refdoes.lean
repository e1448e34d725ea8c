/-! ===== a SCRIPT is done: the model's recursion ===== -/
def DRm (b j : Int) : Prop := DNm b j ∨ (b = 161 ∧ 50 ≤ j ∧ j ≤ 53)
theorem Off_dn {σ t : SG} (h : Off DNm σ t) : Off DRm σ t := Off_mono h (fun _ _ q => Or.inl q)
/-- what the model's heap holds while a SCRIPT is done -/
def RUM (t : SG) (M : Int → Int → Int) (k : Int) (Y : YS) : Prop := (KM t 0 (yc Y) ∧ DC (yc Y)) ∧ (t 161 51 = yk Y ∧ t 161 52 = ym Y ∧ t 161 53 = yf Y ∧ t 161 50 = ys Y) ∧ MSc t M k
def YB (Y : YS) : Prop := (0 ≤ yk Y ∧ yk Y ≤ 300) ∧ (0 ≤ ym Y ∧ ym Y ≤ yk Y)
section RDA
variable {C M : Int → Int → Int} {o : Int → Int} {l k : Int}
/-- one STEP, given what its inner ones do -/
theorem R_doOne_1 (e : Nat) (hI : SI l k 0 o C M) (hk : k ≤ 30) (hl : l ≤ 60) {Y : YS} {σ : SG} {Q : Int → SG → Prop} (hs : ys Y = 0) (hb : 0 ≤ yb Y ∧ yb Y < l) (hw : C (yb Y) 0 ≠ 10) (hY : YB Y) (hU : RUM σ M k Y)
    (rec : (C (yb Y) 0 = 7 ∨ C (yb Y) 0 = 8) → ∀ (Z : YS) (t : SG) (Q' : Int → SG → Prop), yb Z = yb Y + 1 → ys Z = 0 → YB Z → RUM t M k Z → (∀ Y' t', RG (rstp l) (rt C) Z Y' → RUM t' M k Y' → (ys Y' = 1 ∨ (ys Y' = 0 ∧ yb Y' = C (yb Y) 5)) → (∀ j, j < yb Y + 1 → yt Y' j = yt Z j) → YB Y' → Off DRm t t' → Q' 0 t') → Tri (e + 13) M_R_doAll [vA 161, vI (C (yb Y) 6 + 1), vI (C (C (yb Y) 5) 6)] t Q')
    (h : ∀ Y' t', RG (rstp l) (rt C) Y Y' → RUM t' M k Y' → (ys Y' = 1 ∨ (ys Y' = 0 ∧ yb Y' = (if C (yb Y) 0 = 7 ∨ C (yb Y) 0 = 8 then C (yb Y) 5 + 1 else yb Y + 1))) → (∀ j, j < yb Y → yt Y' j = yt Y j) → YB Y' → Off DRm σ t' → Q 0 t') : Tri (e + 14) M_R_doOne [vA 161, vI (C (yb Y) 6)] σ Q := by
  obtain ⟨⟨a1, a2, a3, a4⟩, i2, i3, i4, i5, i6, i7, i8⟩ := hI
  obtain ⟨⟨hK, hD⟩, ⟨r1, r2, r3, r0⟩, hM⟩ := id hU
  obtain ⟨⟨k0, k1⟩, m0, m1⟩ := id hY
  obtain ⟨⟨w1, w10⟩, wE⟩ := i2 _ hb.1 hb.2
  obtain ⟨n1, n2, n3, n4, n5⟩ := i4 _ hb.1 hb.2 hw
  have q0 := (i5 _ hb.1 (by omega)).1
  have q1 : C (yb Y) 6 < k := by have := (i6 _ l hb.1 hb.2 (by omega)).2 hw; omega
  have nst : ¬ rstp l Y := fun q => by rcases q with q | q | q <;> omega
  have hgo : RG (rstp l) (rt C) Y (rt C Y) := RG.go nst
  have eq : w32 (637 + w32 (7 * C (yb Y) 6)) = 637 + 7 * C (yb Y) 6 := by rw [w32_id (x := 7 * C (yb Y) 6) (by omega) (by omega), w32_id (by omega) (by omega)]
  have bd : ∀ c, 0 ≤ c → c ≤ 6 → w32 (637 + 7 * C (yb Y) 6 + c) = 637 + 7 * C (yb Y) 6 + c := fun c c0 c1 => w32_id (by omega) (by omega)
  refine t_R_doOne (fun _ => ?_)
  rw [eq, r1, bd 6 (by omega) (by omega), w32_id (x := C (yb Y) 6 + 1) (by omega) (by omega)]
  refine ⟨fun z t2 e2 => ?_, fun z t2 e2 t3 e3 => ?_⟩
  · have k3 : ¬ 300 ≤ yk Y := by omega
    rw [w32_id (x := yk Y + 1) (by omega) (by omega)] at e2
    have rr2 : ∀ b j, (b ≠ 161 ∨ j ≠ 51) → t2 b j = σ b j := fun b j q => by rw [e2, up_ne q]
    have hK2 : KM t2 0 (yc Y) := hK.fr (fun j => rr2 166 j (by omega))
    refine R_askNow_s (KM_W0 hK2 hD) (fun t3 hR3 hO3 => ?_)
    have rr : ∀ b j, (b ≠ 161 ∨ (j ≠ 51 ∧ ¬ (24 ≤ j ∧ j ≤ 27))) → t3 b j = σ b j := fun b j q => by rw [hO3 b j (by omega)]; exact rr2 b j (by omega)
    have k31 : t3 161 51 = yk Y + 1 := by rw [hO3 161 51 (by omega), e2, up_same]
    have hK3 : KM t3 0 (yc Y) := hK.fr (fun j => rr 166 j (by omega))
    have hM3 : MSc t3 M k := hM.fr (fun j _ => rr 166 j (by omega))
    have hO03 : Off DRm σ t3 := fun b j w => rr b j (by unfold DRm DNm at w; omega)
    have e0 := hM3 (C (yb Y) 6) 0 q0 q1 (by omega) (by omega)
    have e6 := hM3 (C (yb Y) 6) 6 q0 q1 (by omega) (by omega)
    rw [Int.add_zero] at e0
    rw [e0, n4]
    have bb : (0 : Int) ≤ 637 + 7 * C (yb Y) 6 ∧ 637 + 7 * C (yb Y) 6 < 3440 := by omega
    have bb6 : (0 : Int) ≤ 637 + 7 * C (yb Y) 6 + 6 ∧ 637 + 7 * C (yb Y) 6 + 6 < 3440 := by omega
    have g52 : t3 161 52 = ym Y := by rw [rr _ _ (by omega)]; exact r2
    have g53 : t3 161 53 = yf Y := by rw [rr _ _ (by omega)]; exact r3
    have g50 : t3 161 50 = 0 := by rw [rr _ _ (by omega), r0]; exact hs
    -- the state behind a STEP, with a desk, a line, turns
    have mk : ∀ (c' : Int → Int) (b' m' : Int) (tu : Int → Int) (t : SG), KM t 0 c' → DC c' → t 161 51 = yk Y + 1 → t 161 52 = m' → t 161 53 = yf Y → t 161 50 = 0 → MSc t M k → RUM t M k (c', b', yk Y + 1, m', yf Y, 0, tu) := fun c' b' m' tu t x1 x2 x3 x4 x5 x6 x7 => ⟨⟨x1, x2⟩, ⟨x3, x4, x5, x6⟩, x7⟩
    have clo : (C (yb Y) 0 = 7 ∨ C (yb Y) 0 = 8) → CLS C M l (yb Y) := fun q => by
      rcases i7 _ hb.1 hb.2 q with ⟨i, i0, i1, _⟩ | hc
      · omega
      · exact hc
    have f4 : ∀ {t4 : SG}, Off DNm t3 t4 → ∀ j, 50 ≤ j → j ≤ 53 → t4 161 j = t3 161 j := fun hO j j0 j1 => hO 161 j (by unfold DNm; omega)
    refine ⟨bb, fun z6 => ⟨bb, fun z7 => ⟨bb, fun z8 => ?_, fun z8 t4 e4 => ?_⟩, fun z7 => ?_⟩, fun z6 => ?_⟩
    · -- a plain STEP
      have nb : ¬ (C (yb Y) 0 = 7 ∨ C (yb Y) 0 = 8) := by omega
      rw [if_neg nb] at h
      refine R_doPlain_s hK3 hD hR3 hM3 hk q0 q1 n5 n4 (by omega) (fun hok t4 hO4 hK4 hD4 h4 => ⟨fun _ => ?_, fun y => by omega⟩) (fun hok t4 hO4 hK4 h4 => ⟨fun y => absurd rfl y, fun _ t5 e5 => ?_⟩)
      · have eT : rt C Y = (resP C (yb Y) (yc Y), yb Y + 1, yk Y + 1, ym Y, yf Y, 0, yt Y) := by
          unfold rt; rw [if_neg hw, if_neg k3, if_neg (by omega), if_neg (by omega), if_neg (by omega), if_pos (zb_t hok)]
        refine h (rt C Y) t4 hgo ?_ (Or.inr (by rw [eT]; exact ⟨rfl, rfl⟩)) (fun j _ => by rw [eT]) (by rw [eT]; show (0 ≤ yk Y + 1 ∧ yk Y + 1 ≤ 300) ∧ (0 ≤ ym Y ∧ ym Y ≤ yk Y + 1); omega) (Off_trans hO03 (Off_dn hO4))
        rw [eT]
        exact mk _ _ _ _ t4 hK4 hD4 ((f4 hO4 51 (by omega) (by omega)).trans k31) ((f4 hO4 52 (by omega) (by omega)).trans g52) ((f4 hO4 53 (by omega) (by omega)).trans g53) ((f4 hO4 50 (by omega) (by omega)).trans g50) (hM3.fr h4)
      · have eT : rt C Y = (yc Y, yb Y + 1, yk Y + 1, ym Y + 1, yf Y, 0, yt Y) := by
          unfold rt; rw [if_neg hw, if_neg k3, if_neg (by omega), if_neg (by omega), if_neg (by omega), if_neg (by rw [zb_f hok]; exact Bool.false_ne_true)]
        rw [f4 hO4 52 (by omega) (by omega), g52, w32_id (x := ym Y + 1) (by omega) (by omega)] at e5
        have r5 : ∀ b j, (b ≠ 161 ∨ j ≠ 52) → t5 b j = t4 b j := fun b j q => by rw [e5, up_ne q]
        refine h (rt C Y) t5 hgo ?_ (Or.inr (by rw [eT]; exact ⟨rfl, rfl⟩)) (fun j _ => by rw [eT]) (by rw [eT]; show (0 ≤ yk Y + 1 ∧ yk Y + 1 ≤ 300) ∧ (0 ≤ ym Y + 1 ∧ ym Y + 1 ≤ yk Y + 1); omega) (Off_trans hO03 (Off_trans (Off_dn hO4) (by rw [e5]; exact Off_up (Or.inr ⟨rfl, by omega, by omega⟩))))
        rw [eT]
        exact mk _ _ _ _ t5 (hK4.fr (fun j => r5 166 j (by omega))) hD (by rw [r5 _ _ (by omega)]; exact (f4 hO4 51 (by omega) (by omega)).trans k31) (by rw [e5, up_same]) (by rw [r5 _ _ (by omega)]; exact (f4 hO4 53 (by omega) (by omega)).trans g53) (by rw [r5 _ _ (by omega)]; exact (f4 hO4 50 (by omega) (by omega)).trans g50) ((hM3.fr h4).fr (fun j _ => r5 166 j (by omega)))
    · -- STOP
      have eT : rt C Y = (yc Y, yb Y, yk Y + 1, ym Y, yf Y, 1, yt Y) := by
        unfold rt; rw [if_neg hw, if_neg k3, if_pos (by omega)]
      have r4 : ∀ b j, (b ≠ 161 ∨ j ≠ 50) → t4 b j = t3 b j := fun b j q => by rw [e4, up_ne q]
      refine h (rt C Y) t4 hgo ?_ (Or.inl (by rw [eT])) (fun j _ => by rw [eT]) (by rw [eT]; show (0 ≤ yk Y + 1 ∧ yk Y + 1 ≤ 300) ∧ (0 ≤ ym Y ∧ ym Y ≤ yk Y + 1); omega) (Off_trans hO03 (by rw [e4]; exact Off_up (Or.inr ⟨rfl, by omega, by omega⟩)))
      rw [eT]
      exact ⟨⟨hK3.fr (fun j => r4 166 j (by omega)), hD⟩, ⟨by rw [r4 _ _ (by omega)]; exact k31, by rw [r4 _ _ (by omega)]; exact g52, by rw [r4 _ _ (by omega)]; exact g53, by rw [e4, up_same]⟩, hM3.fr (fun j _ => r4 166 j (by omega))⟩
    · -- LOOP
      have q8 : C (yb Y) 0 = 8 := by omega
      rw [if_pos (Or.inr q8)] at h
      obtain ⟨v1, v2, v3⟩ := n5.2.2.2.2.2 q8
      obtain ⟨⟨p1, p2⟩, p3, p4, p5, p6, p7⟩ := clo (Or.inr q8)
      have lp : ∀ (n : Nat) (kk : Int) (Z : YS) (t : SG), C (yb Y) 1 - kk < n → 0 ≤ kk → kk ≤ C (yb Y) 1 → RG (rstp l) (rt C) Y Z → RUM t M k Z → YB Z → Off DRm σ t → (∀ j, j < yb Y → yt Z j = yt Y j) → (ys Z = 1 ∨ (kk < C (yb Y) 1 ∧ ys Z = 0 ∧ yb Z = yb Y + 1 ∧ yt Z (yb Y) = C (yb Y) 1 - kk) ∨ (kk = C (yb Y) 1 ∧ ys Z = 0 ∧ yb Z = C (yb Y) 5 + 1)) → L (e + 14) M_R_doOne 95 [vA 161, vI (C (yb Y) 6), vI (637 + 7 * C (yb Y) 6), vI kk] [] t Q := by
        intro n
        induction n with
        | zero => intro kk Z t hn h0 h1; omega
        | succ n ih =>
          intro kk Z t hn kk0 kk1 hZ hUZ hBZ hOZ hyt hst
          have e1 := hUZ.2.2 (C (yb Y) 6) 1 q0 q1 (by omega) (by omega)
          have e6 := hUZ.2.2 (C (yb Y) 6) 6 q0 q1 (by omega) (by omega)
          have e50 : t 161 50 = ys Z := hUZ.2.1.2.2.2
          have ov : ys Z = 1 → Q 0 t := fun y => h Z t hZ hUZ (Or.inl y) hyt hBZ hOZ
          refine s_R_doOne_95 ?_
          rw [bd 1 (by omega) (by omega), bd 6 (by omega) (by omega), e1, e6, ← v1, e50, w32_id (x := C (yb Y) 6 + 1) (by omega) (by omega), w32_id (x := kk + 1) (by omega) (by omega)]
          refine ⟨⟨by omega, by omega⟩, fun y => ?_, fun y => ⟨fun y2 => ?_, fun y2 => ⟨bb6, ?_⟩⟩⟩
          · rcases hst with g | g | g
            · exact ov g
            · omega
            · exact h Z t hZ hUZ (Or.inr g.2) hyt hBZ hOZ
          · rcases hst with g | g | g
            · exact ov g
            · omega
            · omega
          · rcases hst with g | g | g
            · omega
            · rw [p5]
              refine rec (Or.inr q8) Z t _ g.2.2.1 g.2.1 hBZ hUZ (fun Y' t' hr hU' hst' hyt' hB' hO' => ?_)
              have hZ' := hZ.trans hr
              have hOt := Off_trans hOZ hO'
              have ytb : yt Y' (yb Y) = C (yb Y) 1 - kk := by rw [hyt' _ (by omega)]; exact g.2.2.2
              have ytl : ∀ j, j < yb Y → yt Y' j = yt Y j := fun j hj => by rw [hyt' j (by omega)]; exact hyt j hj
              rcases hst' with g' | g'
              · exact ih (kk + 1) Y' t' (by omega) (by omega) (by omega) hZ' hU' hB' hOt ytl (Or.inl g')
              · have ns' : ¬ rstp l Y' := fun q => by rcases q with q | q | q <;> omega
                have hgo' := hZ'.trans (RG.go (fn := rt C) ns')
                by_cases c2 : 1 < C (yb Y) 1 - kk
                · have eT : rt C Y' = (yc Y', yb Y + 1, yk Y', ym Y', yf Y', 0, fup (yt Y') (yb Y) (C (yb Y) 1 - kk - 1)) := by
                    unfold rt; rw [g'.2, if_pos p3, p4, ytb, if_pos ⟨by omega, q8, c2⟩]
                  refine ih (kk + 1) (rt C Y') t' (by omega) (by omega) (by omega) hgo' (by rw [eT]; exact ⟨hU'.1, ⟨hU'.2.1.1, hU'.2.1.2.1, hU'.2.1.2.2.1, by rw [hU'.2.1.2.2.2]; exact g'.1⟩, hU'.2.2⟩) (by rw [eT]; exact hB') hOt (fun j hj => by rw [eT]; show fup (yt Y') (yb Y) _ j = _; unfold fup; rw [if_neg (by omega)]; exact ytl j hj) (Or.inr (Or.inl ⟨by omega, by rw [eT], by rw [eT], by rw [eT]; show fup (yt Y') (yb Y) _ (yb Y) = _; unfold fup; rw [if_pos rfl]; omega⟩))
                · have eT : rt C Y' = (yc Y', C (yb Y) 5 + 1, yk Y', ym Y', yf Y', 0, yt Y') := by
                    unfold rt; rw [g'.2, if_pos p3, p4, ytb, if_neg (by omega)]
                  refine ih (kk + 1) (rt C Y') t' (by omega) (by omega) (by omega) hgo' (by rw [eT]; exact ⟨hU'.1, ⟨hU'.2.1.1, hU'.2.1.2.1, hU'.2.1.2.2.1, by rw [hU'.2.1.2.2.2]; exact g'.1⟩, hU'.2.2⟩) (by rw [eT]; exact hB') hOt (fun j hj => by rw [eT]; exact ytl j hj) (Or.inr (Or.inr ⟨by omega, by rw [eT], by rw [eT]⟩))
            · omega
      have eT : rt C Y = (yc Y, yb Y + 1, yk Y + 1, ym Y, yf Y, 0, fup (yt Y) (yb Y) (C (yb Y) 1)) := by
        unfold rt; rw [if_neg hw, if_neg k3, if_neg (by omega), if_pos q8]
      refine lp ((C (yb Y) 1).toNat + 1) 0 (rt C Y) t3 (by omega) (by omega) (by omega) hgo ?_ (by rw [eT]; show (0 ≤ yk Y + 1 ∧ yk Y + 1 ≤ 300) ∧ (0 ≤ ym Y ∧ ym Y ≤ yk Y + 1); omega) hO03 (fun j hj => by rw [eT]; show fup (yt Y) (yb Y) _ j = _; unfold fup; rw [if_neg (by omega)]) (Or.inr (Or.inl ⟨by omega, by rw [eT], by rw [eT], by rw [eT]; show fup (yt Y) (yb Y) _ (yb Y) = _; unfold fup; rw [if_pos rfl]; omega⟩))
      rw [eT]
      exact mk _ _ _ _ t3 hK3 hD k31 g52 g53 g50 hM3
    · -- WHEN
      have q7 : C (yb Y) 0 = 7 := by omega
      rw [if_pos (Or.inl q7)] at h
      obtain ⟨⟨p1, p2⟩, p3, p4, p5, p6, p7⟩ := clo (Or.inl q7)
      refine R_isSoNow_s hK3 hD hR3 hM3 hk q0 q1 n5 q7 (fun hok t4 hO4 hK4 => ⟨fun y => by omega, fun _ => ⟨bb6, ?_⟩⟩) (fun hok t4 hO4 hK4 => ⟨fun _ => ?_, fun y => absurd rfl y⟩)
      · have eT : rt C Y = (yc Y, yb Y + 1, yk Y + 1, ym Y, yf Y, 0, yt Y) := by
          unfold rt; rw [if_neg hw, if_neg k3, if_neg (by omega), if_neg (by omega), if_pos q7, if_pos (zb_t hok)]
        have hM4 : MSc t4 M k := hM3.fr (fun j jj => hO4 166 j (by unfold DNm; omega))
        rw [hM4 (C (yb Y) 6) 6 q0 q1 (by omega) (by omega), p5]
        refine rec (Or.inl q7) (rt C Y) t4 _ (by rw [eT]) (by rw [eT]) (by rw [eT]; show (0 ≤ yk Y + 1 ∧ yk Y + 1 ≤ 300) ∧ (0 ≤ ym Y ∧ ym Y ≤ yk Y + 1); omega) ?_ (fun Y' t' hr hU' hst' hyt' hB' hO' => ?_)
        · rw [eT]
          exact mk _ _ _ _ t4 hK4 hD ((f4 hO4 51 (by omega) (by omega)).trans k31) ((f4 hO4 52 (by omega) (by omega)).trans g52) ((f4 hO4 53 (by omega) (by omega)).trans g53) ((f4 hO4 50 (by omega) (by omega)).trans g50) hM4
        · have hZ' := hgo.trans hr
          have hOt := Off_trans (Off_trans hO03 (Off_dn hO4)) hO'
          have ytl : ∀ j, j < yb Y → yt Y' j = yt Y j := fun j hj => by rw [hyt' j (by omega), eT]
          rcases hst' with g' | g'
          · exact h Y' t' hZ' hU' (Or.inl g') ytl hB' hOt
          · have ns' : ¬ rstp l Y' := fun q => by rcases q with q | q | q <;> omega
            have hgo' := hZ'.trans (RG.go (fn := rt C) ns')
            have eT' : rt C Y' = (yc Y', C (yb Y) 5 + 1, yk Y', ym Y', yf Y', 0, yt Y') := by
              unfold rt; rw [g'.2, if_pos p3, p4, if_neg (by omega)]
            exact h (rt C Y') t' hgo' (by rw [eT']; exact ⟨hU'.1, ⟨hU'.2.1.1, hU'.2.1.2.1, hU'.2.1.2.2.1, by rw [hU'.2.1.2.2.2]; exact g'.1⟩, hU'.2.2⟩) (Or.inr (by rw [eT']; exact ⟨rfl, rfl⟩)) (fun j hj => by rw [eT']; exact ytl j hj) (by rw [eT']; exact hB') hOt
      · have eT : rt C Y = (yc Y, C (yb Y) 5 + 1, yk Y + 1, ym Y, yf Y, 0, yt Y) := by
          unfold rt; rw [if_neg hw, if_neg k3, if_neg (by omega), if_neg (by omega), if_pos q7, if_neg (by rw [zb_f hok]; exact Bool.false_ne_true)]
        refine h (rt C Y) t4 hgo ?_ (Or.inr (by rw [eT]; exact ⟨rfl, rfl⟩)) (fun j _ => by rw [eT]) (by rw [eT]; show (0 ≤ yk Y + 1 ∧ yk Y + 1 ≤ 300) ∧ (0 ≤ ym Y ∧ ym Y ≤ yk Y + 1); omega) (Off_trans hO03 (Off_dn hO4))
        rw [eT]
        exact mk _ _ _ _ t4 hK4 hD ((f4 hO4 51 (by omega) (by omega)).trans k31) ((f4 hO4 52 (by omega) (by omega)).trans g52) ((f4 hO4 53 (by omega) (by omega)).trans g53) ((f4 hO4 50 (by omega) (by omega)).trans g50) (hM3.fr (fun j jj => hO4 166 j (by unfold DNm; omega)))
  · have eT : rt C Y = (yc Y, yb Y, yk Y, ym Y, 1, 1, yt Y) := by
      unfold rt; rw [if_neg hw, if_pos (by omega)]
    have r4 : ∀ b j, (b ≠ 161 ∨ (j ≠ 50 ∧ j ≠ 53)) → t3 b j = σ b j := fun b j q => by rw [e3, up_ne (by omega), e2, up_ne (by omega)]
    refine h (rt C Y) t3 hgo ?_ (Or.inl (by rw [eT])) (fun j _ => by rw [eT]) (by rw [eT]; exact hY) (fun b j w => r4 b j (by unfold DRm at w; omega))
    rw [eT]
    exact ⟨⟨hK.fr (fun j => r4 166 j (by omega)), hD⟩, ⟨by rw [r4 _ _ (by omega)]; exact r1, by rw [r4 _ _ (by omega)]; exact r2, by rw [e3, up_ne (by omega), e2, up_same], by rw [e3, up_same]⟩, hM.fr (fun j _ => r4 166 j (by omega))⟩
theorem R_doAll_s (hI : SI l k 0 o C M) (hk : k ≤ 30) (hl : l ≤ 60) : ∀ (v d : Nat) (x en : Int) (Y : YS) (t0 : SG) (Q : Int → SG → Prop), 0 ≤ x → x ≤ yb Y → yb Y ≤ en → en ≤ l → C en 7 = 3 - (v : Int) → C (yb Y) 7 = 3 - (v : Int) → (∀ y, x ≤ y → y ≤ en → 3 - (v : Int) ≤ C y 7) → ys Y = 0 → YB Y → RUM t0 M k Y → (∀ Y' t', RG (rstp l) (rt C) Y Y' → RUM t' M k Y' → (ys Y' = 1 ∨ (ys Y' = 0 ∧ yb Y' = en)) → (∀ j, j < x → yt Y' j = yt Y j) → YB Y' → Off DRm t0 t' → Q 0 t') → Tri (d + 2 * v + 15) M_R_doAll [vA 161, vI (C (yb Y) 6), vI (C en 6)] t0 Q := by
  obtain ⟨⟨a1, a2, a3, a4⟩, i2, i3, i4, i5, i6, i7, i8⟩ := id hI
  intro v
  induction v with
  | zero =>
    intro d x en Y t0 Q x0 x1 x2 x3 e1 e2 e3 hs hB hU h
    refine t_R_doAll (fun _ _ => ?_)
    have lp : ∀ (n : Nat) (Z : YS) (t : SG) (s : Int), RG (rstp l) (rt C) Y Z → RUM t M k Z → YB Z → Off DRm t0 t → (∀ j, j < x → yt Z j = yt Y j) → (ys Z = 1 ∨ (ys Z = 0 ∧ (x ≤ yb Z ∧ yb Z ≤ en) ∧ C (yb Z) 7 = 3 ∧ en - yb Z < n ∧ s = C (yb Z) 6)) → L (d + 2 * 0 + 15) M_R_doAll 2 [vA 161, vU, vI (C en 6), vI s] [] t Q := by
      intro n
      induction n with
      | zero =>
        intro Z t s hZ hUZ hBZ hOZ hyt hst
        have e50 : t 161 50 = ys Z := hUZ.2.1.2.2.2
        rcases hst with g | g
        · exact s_R_doAll_2 ⟨fun _ => h Z t hZ hUZ (Or.inl g) hyt hBZ hOZ, fun _ => ⟨fun _ => h Z t hZ hUZ (Or.inl g) hyt hBZ hOZ, fun y => by omega⟩⟩
        · omega
      | succ n ihn =>
        intro Z t s hZ hUZ hBZ hOZ hyt hst
        have e50 : t 161 50 = ys Z := hUZ.2.1.2.2.2
        rcases hst with g | ⟨gs, gb, g7, gn, rfl⟩
        · exact s_R_doAll_2 ⟨fun _ => h Z t hZ hUZ (Or.inl g) hyt hBZ hOZ, fun _ => ⟨fun _ => h Z t hZ hUZ (Or.inl g) hyt hBZ hOZ, fun y => by omega⟩⟩
        · by_cases ge : yb Z = en
          · refine s_R_doAll_2 ⟨fun _ => h Z t hZ hUZ (Or.inr ⟨gs, ge⟩) hyt hBZ hOZ, fun y => by rw [ge] at y; omega⟩
          · have hbl : 0 ≤ yb Z ∧ yb Z < l := by omega
            have hw : C (yb Z) 0 ≠ 10 := fun y => by
              have := (i3 _ hbl.1 hbl.2 y).2
              have := e3 (yb Z + 1) (by omega) (by omega)
              omega
            have lt := (i6 (yb Z) en hbl.1 (by omega) x3).2 hw
            obtain ⟨n1, n2, n3, n4, n5⟩ := i4 _ hbl.1 hbl.2 hw
            have q0 := (i5 _ hbl.1 (by omega)).1
            have q1 : C (yb Z) 6 < k := by have := (i6 _ l hbl.1 hbl.2 (by omega)).2 hw; omega
            have nb : ¬ (C (yb Z) 0 = 7 ∨ C (yb Z) 0 = 8) := fun y => by
              have := n2 y
              have := (i5 (yb Z + 1) (by omega) (by omega)).2
              omega
            refine s_R_doAll_2 ⟨fun y => by omega, fun _ => ⟨fun y => by omega, fun _ => ?_⟩⟩
            refine R_doOne_1 (d + 2 * 0) hI hk hl gs hbl hw hBZ hUZ (fun y => absurd y nb) (fun Y' t' hr hU' hst' hyt' hB' hO' => ?_)
            rw [if_neg nb] at hst'
            rw [w32_id (x := 7 * C (yb Z) 6) (by omega) (by omega), w32_id (x := 637 + 7 * C (yb Z) 6) (by omega) (by omega), w32_id (x := 637 + 7 * C (yb Z) 6 + 6) (by omega) (by omega), hU'.2.2 (C (yb Z) 6) 6 q0 q1 (by omega) (by omega)]
            refine ⟨⟨by omega, by omega⟩, ihn Y' t' _ (hZ.trans hr) hU' hB' (Off_trans hOZ hO') (fun j hj => by rw [hyt' j (by omega)]; exact hyt j hj) ?_⟩
            rcases hst' with g' | g'
            · exact Or.inl g'
            · have n3' := n3 nb
              right
              rw [g'.2]
              exact ⟨g'.1, ⟨by omega, by omega⟩, by omega, by omega, by omega⟩
    exact lp ((en - yb Y).toNat + 1) Y t0 _ RG.rfl' hU hB Off_rfl (fun _ _ => rfl) (Or.inr ⟨hs, ⟨x1, x2⟩, by omega, by omega, rfl⟩)
  | succ v ih =>
    intro d x en Y t0 Q x0 x1 x2 x3 e1 e2 e3 hs hB hU h
    refine t_R_doAll (fun _ _ => ?_)
    have lp : ∀ (n : Nat) (Z : YS) (t : SG) (s : Int), RG (rstp l) (rt C) Y Z → RUM t M k Z → YB Z → Off DRm t0 t → (∀ j, j < x → yt Z j = yt Y j) → (ys Z = 1 ∨ (ys Z = 0 ∧ (x ≤ yb Z ∧ yb Z ≤ en) ∧ C (yb Z) 7 = 3 - ((v + 1 : Nat) : Int) ∧ en - yb Z < n ∧ s = C (yb Z) 6)) → L (d + 2 * (v + 1) + 15) M_R_doAll 2 [vA 161, vU, vI (C en 6), vI s] [] t Q := by
      intro n
      induction n with
      | zero =>
        intro Z t s hZ hUZ hBZ hOZ hyt hst
        have e50 : t 161 50 = ys Z := hUZ.2.1.2.2.2
        rcases hst with g | g
        · exact s_R_doAll_2 ⟨fun _ => h Z t hZ hUZ (Or.inl g) hyt hBZ hOZ, fun _ => ⟨fun _ => h Z t hZ hUZ (Or.inl g) hyt hBZ hOZ, fun y => by omega⟩⟩
        · omega
      | succ n ihn =>
        intro Z t s hZ hUZ hBZ hOZ hyt hst
        have e50 : t 161 50 = ys Z := hUZ.2.1.2.2.2
        rcases hst with g | ⟨gs, gb, g7, gn, rfl⟩
        · exact s_R_doAll_2 ⟨fun _ => h Z t hZ hUZ (Or.inl g) hyt hBZ hOZ, fun _ => ⟨fun _ => h Z t hZ hUZ (Or.inl g) hyt hBZ hOZ, fun y => by omega⟩⟩
        · by_cases ge : yb Z = en
          · refine s_R_doAll_2 ⟨fun _ => h Z t hZ hUZ (Or.inr ⟨gs, ge⟩) hyt hBZ hOZ, fun y => by rw [ge] at y; omega⟩
          · have hbl : 0 ≤ yb Z ∧ yb Z < l := by omega
            have hw : C (yb Z) 0 ≠ 10 := fun y => by
              have := (i3 _ hbl.1 hbl.2 y).2
              have := e3 (yb Z + 1) (by omega) (by omega)
              omega
            have lt := (i6 (yb Z) en hbl.1 (by omega) x3).2 hw
            obtain ⟨n1, n2, n3, n4, n5⟩ := i4 _ hbl.1 hbl.2 hw
            have q0 := (i5 _ hbl.1 (by omega)).1
            have q1 : C (yb Z) 6 < k := by have := (i6 _ l hbl.1 hbl.2 (by omega)).2 hw; omega
            have clo : (C (yb Z) 0 = 7 ∨ C (yb Z) 0 = 8) → CLS C M l (yb Z) := fun q => by
              rcases i7 _ hbl.1 hbl.2 q with ⟨i, i0, i1, _⟩ | hc
              · omega
              · exact hc
            refine s_R_doAll_2 ⟨fun y => by omega, fun _ => ⟨fun y => by omega, fun _ => ?_⟩⟩
            refine R_doOne_1 (d + 2 * (v + 1)) hI hk hl gs hbl hw hBZ hUZ (fun y Z2 t2 Q2 zb2 zs2 zB2 zU2 hq => ?_) (fun Y' t' hr hU' hst' hyt' hB' hO' => ?_)
            · obtain ⟨⟨p1, p2⟩, p3, p4, p5, p6, p7⟩ := clo y
              have n2' := n2 y
              have := ih d (yb Z + 1) (C (yb Z) 5) Z2 t2 Q2 (by omega) (by omega) (by omega) (by omega) (by omega) (by rw [zb2]; omega) (fun y1 y2 y3 => by have := p7 y1 (by omega) y3; omega) zs2 zB2 zU2 hq
              rw [zb2, n1] at this
              exact this
            · rw [w32_id (x := 7 * C (yb Z) 6) (by omega) (by omega), w32_id (x := 637 + 7 * C (yb Z) 6) (by omega) (by omega), w32_id (x := 637 + 7 * C (yb Z) 6 + 6) (by omega) (by omega), hU'.2.2 (C (yb Z) 6) 6 q0 q1 (by omega) (by omega)]
              refine ⟨⟨by omega, by omega⟩, ihn Y' t' _ (hZ.trans hr) hU' hB' (Off_trans hOZ hO') (fun j hj => by rw [hyt' j (by omega)]; exact hyt j hj) ?_⟩
              rcases hst' with g' | g'
              · exact Or.inl g'
              · right
                by_cases hbk : C (yb Z) 0 = 7 ∨ C (yb Z) 0 = 8
                · rw [if_pos hbk] at g'
                  obtain ⟨⟨p1, p2⟩, p3, p4, p5, p6, p7⟩ := clo hbk
                  have e4 := i3 _ (by omega : 0 ≤ C (yb Z) 5) p2 p3
                  have lt5 : C (yb Z) 5 < en := by
                    by_cases y : C (yb Z) 5 < en
                    · exact y
                    · have := p7 en (by omega) (by omega); omega
                  rw [g'.2]
                  exact ⟨g'.1, ⟨by omega, by omega⟩, by omega, by omega, by omega⟩
                · rw [if_neg hbk] at g'
                  have n3' := n3 hbk
                  rw [g'.2]
                  exact ⟨g'.1, ⟨by omega, by omega⟩, by omega, by omega, by omega⟩
    exact lp ((en - yb Y).toNat + 1) Y t0 _ RG.rfl' hU hB Off_rfl (fun _ _ => rfl) (Or.inr ⟨hs, ⟨x1, x2⟩, e2, by omega, rfl⟩)
end RDA
