/-! ===== the class's TOKENS ===== -/
def TC (σ : SG) (f : Int → Int) (N e : Int) : Prop := σ 23 = f ∧ σ 22 5 = N ∧ (0 ≤ N ∧ N ≤ 600) ∧ (0 ≤ e ∧ e ≤ N) ∧ σ 22 6 = tS f N e ∧ σ 22 7 = tE f N e ∧ σ 22 8 = tK f N e ∧ (tK f N e = 2 → σ 22 1 = tV f N e)
theorem TC.fr {σ σ' : SG} {f : Int → Int} {N e : Int} (h : TC σ f N e) (h1 : σ' 23 = σ 23) (h2 : ∀ k, 0 ≤ k → k ≠ 0 → k ≠ 2 → k ≠ 3 → σ' 22 k = σ 22 k) : TC σ' f N e := by
  obtain ⟨a1, a2, a3, a4, a5, a6, a7, a8⟩ := h
  exact ⟨h1.trans a1, (h2 5 (by omega) (by omega) (by omega) (by omega)).trans a2, a3, a4, (h2 6 (by omega) (by omega) (by omega) (by omega)).trans a5, (h2 7 (by omega) (by omega) (by omega) (by omega)).trans a6, (h2 8 (by omega) (by omega) (by omega) (by omega)).trans a7, fun q => (h2 1 (by omega) (by omega) (by omega) (by omega)).trans (a8 q)⟩
section TOK
variable {d : Nat} {σ : SG} {Q : Int → SG → Prop} {f : Int → Int} {N e : Int}
theorem To_advance_s (hf : σ 23 = f) (h5 : σ 22 5 = N) (hN : 0 ≤ N ∧ N ≤ 600) (h7 : σ 22 7 = e) (he : 0 ≤ e ∧ e ≤ N) (h : ∀ σ', TC σ' f N e → Off (fun b j => b = 22 ∧ (j = 1 ∨ j = 6 ∨ j = 7 ∨ j = 8)) σ σ' → Q 0 σ') : Tri (d + 2) M_To_advance [vA 22] σ Q := by
  have hs := tS_b (f := f) he.2
  have hE := tE_b (f := f) he.2
  have fin : ∀ s, s 22 6 = tS f N e → s 22 7 = tE f N e → s 22 8 = tK f N e → (tK f N e = 2 → s 22 1 = tV f N e) → Off (fun b j => b = 22 ∧ (j = 1 ∨ j = 6 ∨ j = 7 ∨ j = 8)) σ s → Q 0 s := fun s q6 q7 q8 q1 hO => h s ⟨(funext fun k => hO 23 k (by omega)).trans hf, (hO 22 5 (by omega)).trans h5, hN, he, q6, q7, q8, q1⟩ hO
  have f5 : ∀ s, Off (fun b j => b = 22 ∧ (j = 1 ∨ j = 6 ∨ j = 7 ∨ j = 8)) σ s → s 22 5 = N := fun s hO => (hO 22 5 (by omega)).trans h5
  have ff : ∀ s, Off (fun b j => b = 22 ∧ (j = 1 ∨ j = 6 ∨ j = 7 ∨ j = 8)) σ s → s 23 = f := fun s hO => (funext fun k => hO 23 k (by omega)).trans hf
  have at94 : ∀ s, tS f N e < N → zLt (f (tS f N e)) = true → s 22 6 = tS f N e → s 22 7 = tS f N e → s 22 8 = 1 → Off (fun b j => b = 22 ∧ (j = 1 ∨ j = 6 ∨ j = 7 ∨ j = 8)) σ s → L (d + 2) M_To_advance 94 [vA 22, vU] [] s Q := by
    intro s0 hlt hl q6 q7 q8 hO0
    have hk : tK f N e = 1 := by unfold tK; rw [if_neg (by omega), if_pos hl]
    have hEE : tE f N e = rnn (fun q => zLt (f q)) N (tS f N e) := by unfold tE; rw [if_neg (by omega), if_pos hl]
    refine loop_up (P := fun q s => L (d + 2) M_To_advance 94 [vA 22, vU] [] s Q) (fun q s => tS f N e ≤ q ∧ rnn (fun q => zLt (f q)) N (tS f N e) = rnn (fun q => zLt (f q)) N q ∧ s 22 6 = tS f N e ∧ s 22 7 = q ∧ s 22 8 = 1 ∧ Off (fun b j => b = 22 ∧ (j = 1 ∨ j = 6 ∨ j = 7 ∨ j = 8)) σ s) N ?_ ?_ (tS f N e) (by omega) s0 ⟨by omega, rfl, q6, q7, q8, hO0⟩
    · rintro s ⟨_, hr, r6, r7, r8, hO⟩
      have e5 := f5 s hO
      refine s_To_advance_94 ⟨fun _ => fin s r6 (by rw [r7, hEE, hr, rnn_end (Int.le_refl _)]) (by rw [r8, hk]) (fun z => by omega) hO, fun z => by omega⟩
    · rintro q s hq ⟨hq0, hr, r6, r7, r8, hO⟩ ih
      have e5 := f5 s hO
      have ef : s 23 (s 22 7) = f q := by rw [ff s hO, r7]
      have no : ¬ (97 ≤ f q ∧ f q ≤ 122) → Q 0 s := fun z => fin s r6 (by rw [r7, hEE, hr, rnn_no (P := fun q => zLt (f q)) (zLt_f z)]) (by rw [r8, hk]) (fun z => by omega) hO
      refine s_To_advance_94 ⟨fun z => by omega, fun _ => ⟨by omega, ?_⟩⟩
      rw [ef]
      refine t_To_isLetter (fun _ => ⟨fun z => ⟨fun _ => no (by omega), fun z2 => absurd rfl z2⟩, fun z => ⟨fun z2 => ⟨fun _ => no (by omega), fun z3 => absurd rfl z3⟩, fun z2 => ⟨fun z3 => by omega, fun _ s4 e4 => ?_⟩⟩⟩)
      rw [r7, w32_id (by omega) (by omega)] at e4
      refine ih s4 ⟨by omega, by rw [hr, rnn_go (P := fun q => zLt (f q)) hq (zLt_t ⟨z, z2⟩)], by rw [e4, up_ne (by omega)]; exact r6, by rw [e4, up_same], by rw [e4, up_ne (by omega)]; exact r8, Off_trans hO (by rw [e4]; exact Off_up ⟨rfl, by omega⟩)⟩
  have at145 : ∀ s, tS f N e < N → zLt (f (tS f N e)) = false → zDg (f (tS f N e)) = true → s 22 6 = tS f N e → s 22 7 = tS f N e → s 22 1 = 0 → Off (fun b j => b = 22 ∧ (j = 1 ∨ j = 6 ∨ j = 7 ∨ j = 8)) σ s → L (d + 2) M_To_advance 145 [vA 22, vU] [] s Q := by
    intro s0 hlt hl hdg q6 q7 q1 hO0
    have hEE : tE f N e = rnn (fun q => zDg (f q)) N (tS f N e) := by unfold tE; rw [if_neg (by omega), if_neg (by rw [hl]; exact Bool.false_ne_true), if_pos hdg]
    have hK : tK f N e = if 4 < tE f N e - tS f N e then 4 else 2 := by unfold tK; rw [if_neg (by omega), if_neg (by rw [hl]; exact Bool.false_ne_true), if_pos hdg]
    have at228 : ∀ s, s 22 6 = tS f N e → s 22 7 = tE f N e → s 22 1 = tV f N e → Off (fun b j => b = 22 ∧ (j = 1 ∨ j = 6 ∨ j = 7 ∨ j = 8)) σ s → L (d + 2) M_To_advance 228 [vA 22, vU] [] s Q := by
      intro s r6 r7 r1 hO
      refine s_To_advance_228 ?_
      rw [r6, r7, w32_id (by omega) (by omega)]
      refine ⟨fun z s2 e2 => fin s2 (by rw [e2, up_ne (by omega)]; exact r6) (by rw [e2, up_ne (by omega)]; exact r7) (by rw [e2, up_same, hK, if_neg (by omega)]) (fun _ => by rw [e2, up_ne (by omega)]; exact r1) (Off_trans hO (by rw [e2]; exact Off_up ⟨rfl, by omega⟩)), fun z s2 e2 => fin s2 (by rw [e2, up_ne (by omega)]; exact r6) (by rw [e2, up_ne (by omega)]; exact r7) (by rw [e2, up_same, hK, if_pos z]) (fun z9 => by rw [hK, if_pos z] at z9; omega) (Off_trans hO (by rw [e2]; exact Off_up ⟨rfl, by omega⟩))⟩
    refine loop_up (P := fun q s => L (d + 2) M_To_advance 145 [vA 22, vU] [] s Q) (fun q s => tS f N e ≤ q ∧ rnn (fun q => zDg (f q)) N (tS f N e) = rnn (fun q => zDg (f q)) N q ∧ (∀ i, tS f N e ≤ i → i < q → zDg (f i) = true) ∧ s 22 6 = tS f N e ∧ s 22 7 = q ∧ s 22 1 = nvN f (tS f N e) (min (q - tS f N e) 4).toNat ∧ Off (fun b j => b = 22 ∧ (j = 1 ∨ j = 6 ∨ j = 7 ∨ j = 8)) σ s) N ?_ ?_ (tS f N e) (by omega) s0 ⟨by omega, rfl, fun i _ _ => by omega, q6, q7, by rw [q1, show (min (tS f N e - tS f N e) 4).toNat = 0 by omega]; rfl, hO0⟩
    · rintro s ⟨_, hr, _, r6, r7, r1, hO⟩
      have e5 := f5 s hO
      have hEq : tE f N e = N := by rw [hEE, hr, rnn_end (Int.le_refl _)]
      refine s_To_advance_145 ⟨fun _ => at228 s r6 (by rw [r7, hEq]) (by rw [r1]; unfold tV; rw [hEq]) hO, fun z => by omega⟩
    · rintro q s hq ⟨hq0, hr, hdi, r6, r7, r1, hO⟩ ih
      have e5 := f5 s hO
      have ef : s 23 (s 22 7) = f q := by rw [ff s hO, r7]
      have no : ¬ (48 ≤ f q ∧ f q ≤ 57) → L (d + 2) M_To_advance 228 [vA 22, vU] [] s Q := fun z => by
        have hEq : tE f N e = q := by rw [hEE, hr, rnn_no (P := fun q => zDg (f q)) (zDg_f z)]
        exact at228 s r6 (by rw [r7, hEq]) (by rw [r1]; unfold tV; rw [hEq]) hO
      refine s_To_advance_145 ⟨fun z => by omega, fun _ => ⟨by omega, ?_⟩⟩
      rw [ef]
      refine t_To_isDigit (fun _ => ⟨fun z => ⟨fun _ => no (by omega), fun z2 => absurd rfl z2⟩, fun z => ⟨fun z2 => ⟨fun _ => no (by omega), fun z3 => absurd rfl z3⟩, fun z2 => ⟨fun z3 => by omega, fun _ => ?_⟩⟩⟩)
      rw [ef, r6, r7, w32_id (x := q - tS f N e) (by omega) (by omega)]
      have hr2 : rnn (fun q => zDg (f q)) N (tS f N e) = rnn (fun q => zDg (f q)) N (q + 1) := by rw [hr, rnn_go (P := fun q => zDg (f q)) hq (zDg_t ⟨z, z2⟩)]
      have hdi2 : ∀ i, tS f N e ≤ i → i < q + 1 → zDg (f i) = true := fun i i0 i1 => by
        by_cases g : i = q
        · rw [g]; exact zDg_t ⟨z, z2⟩
        · exact hdi i i0 (by omega)
      refine ⟨fun z4 s5 e5' s6 e6 => ?_, fun z4 => ⟨by omega, fun s7 e7 s8 e8 => ?_⟩⟩
      · have r7' : s5 22 7 = q := by rw [e5', up_ne (by omega)]; exact r7
        rw [r7', w32_id (by omega) (by omega)] at e6
        refine ih s6 ⟨by omega, hr2, hdi2, by rw [e6, up_ne (by omega), e5', up_ne (by omega)]; exact r6, by rw [e6, up_same], ?_, Off_trans hO (by rw [e6, e5']; exact Off_trans (Off_up ⟨rfl, by omega⟩) (Off_up ⟨rfl, by omega⟩))⟩
        rw [e6, up_ne (by omega), e5', up_same, r1]
        congr 1
        omega
      · have hnb := nvN_b (f := f) (s := tS f N e) (q - tS f N e).toNat (fun i hi => hdi _ (by omega) (by omega))
        have hpw := pow_le (p := 10) (k := (q - tS f N e).toNat) (n := 3) (by omega) (by omega)
        rw [show min (q - tS f N e) 4 = q - tS f N e by omega] at r1
        rw [r1] at e7
        rw [w32_id (x := nvN f (tS f N e) (q - tS f N e).toNat * 10) (by omega) (by omega), w32_id (x := nvN f (tS f N e) (q - tS f N e).toNat * 10 + f q) (by omega) (by omega), w32_id (x := nvN f (tS f N e) (q - tS f N e).toNat * 10 + f q - 48) (by omega) (by omega)] at e7
        have r7' : s7 22 7 = q := by rw [e7, up_ne (by omega)]; exact r7
        rw [r7', w32_id (by omega) (by omega)] at e8
        refine ih s8 ⟨by omega, hr2, hdi2, by rw [e8, up_ne (by omega), e7, up_ne (by omega)]; exact r6, by rw [e8, up_same], ?_, Off_trans hO (by rw [e8, e7]; exact Off_trans (Off_up ⟨rfl, by omega⟩) (Off_up ⟨rfl, by omega⟩))⟩
        rw [e8, up_ne (by omega), e7, up_same, show (min (q + 1 - tS f N e) 4).toNat = (q - tS f N e).toNat + 1 by omega]
        show _ = nvN f (tS f N e) (q - tS f N e).toNat * 10 + (f (tS f N e + ((q - tS f N e).toNat : Nat)) - 48)
        rw [show tS f N e + (((q - tS f N e).toNat : Nat) : Int) = q by omega]
        omega
  have at47 : ∀ s, s 22 6 = tS f N e → Off (fun b j => b = 22 ∧ (j = 1 ∨ j = 6 ∨ j = 7 ∨ j = 8)) σ s → L (d + 2) M_To_advance 47 [vA 22, vU] [] s Q := by
    intro s q6 hO
    refine s_To_advance_47 (fun s1 e1 => ?_)
    have r6 : s1 22 6 = tS f N e := by rw [e1, up_ne (by omega)]; exact q6
    have r7 : s1 22 7 = tS f N e := by rw [e1, up_same]; exact q6
    have hO1 : Off (fun b j => b = 22 ∧ (j = 1 ∨ j = 6 ∨ j = 7 ∨ j = 8)) σ s1 := Off_trans hO (by rw [e1]; exact Off_up ⟨rfl, by omega⟩)
    have e5 := f5 s1 hO1
    have ef : s1 23 (s1 22 6) = f (tS f N e) := by rw [ff s1 hO1, r6]
    rw [ef, e5, r6]
    refine ⟨fun hlt => ⟨by omega, ?_⟩, fun hge s2 e2 => fin s2 (by rw [e2, up_ne (by omega)]; exact r6) (by rw [e2, up_ne (by omega), r7]; unfold tE; rw [if_pos hge]) (by rw [e2, up_same]; exact (tK_0.mpr hge).symm) (fun z => by rw [tK_0.mpr hge] at z; omega) (Off_trans hO1 (by rw [e2]; exact Off_up ⟨rfl, by omega⟩))⟩
    have oth : ¬ (97 ≤ f (tS f N e) ∧ f (tS f N e) ≤ 122) → ∀ (s9 : SG) (kk : Int), ¬ (48 ≤ f (tS f N e) ∧ f (tS f N e) ≤ 57) → kk = (if zSg (f (tS f N e)) = true then 3 else 4) → s9 = up (up s1 22 7 (w32 (s1 22 6 + 1))) 22 8 kk → Q 0 s9 := by
      intro n1 s9 kk n2 hkk e9
      rw [r6, w32_id (by omega) (by omega)] at e9
      have hEE : tE f N e = tS f N e + 1 := by unfold tE; rw [if_neg (by omega), if_neg (by rw [zLt_f n1]; exact Bool.false_ne_true), if_neg (by rw [zDg_f n2]; exact Bool.false_ne_true)]
      have hK : tK f N e = kk := by unfold tK; rw [if_neg (by omega), if_neg (by rw [zLt_f n1]; exact Bool.false_ne_true), if_neg (by rw [zDg_f n2]; exact Bool.false_ne_true), hkk]
      refine fin s9 (by rw [e9, up_ne (by omega), up_ne (by omega)]; exact r6) (by rw [e9, up_ne (by omega), up_same, hEE]) (by rw [e9, up_same, hK]) (fun z => by rw [hK, hkk] at z; split at z <;> omega) (Off_trans hO1 (by rw [e9]; exact Off_trans (Off_up ⟨rfl, by omega⟩) (Off_up ⟨rfl, by omega⟩)))
    have sg : ∀ (s7 : SG), ¬ (97 ≤ f (tS f N e) ∧ f (tS f N e) ≤ 122) → ¬ (48 ≤ f (tS f N e) ∧ f (tS f N e) ≤ 57) → s7 = up s1 22 7 (w32 (s1 22 6 + 1)) → (f (tS f N e) = 59 → (∀ σ9, σ9 = up s7 22 8 3 → Q 0 σ9)) ∧ (f (tS f N e) ≠ 59 → (f (tS f N e) = 60 → (∀ σ11, σ11 = up s7 22 8 3 → Q 0 σ11)) ∧ (f (tS f N e) ≠ 60 → (f (tS f N e) = 62 → (∀ σ13, σ13 = up s7 22 8 3 → Q 0 σ13)) ∧ (f (tS f N e) ≠ 62 → (f (tS f N e) ≠ 61 → (∀ σ15, σ15 = up s7 22 8 4 → Q 0 σ15)) ∧ (f (tS f N e) = 61 → (∀ σ16, σ16 = up s7 22 8 3 → Q 0 σ16))))) := by
      intro s7 n1 n2 e7
      subst e7
      refine ⟨fun z s9 e9 => oth n1 s9 3 n2 (by rw [if_pos (zSg_t (by omega))]) e9, fun z => ⟨fun z2 s9 e9 => oth n1 s9 3 n2 (by rw [if_pos (zSg_t (by omega))]) e9, fun z2 => ⟨fun z3 s9 e9 => oth n1 s9 3 n2 (by rw [if_pos (zSg_t (by omega))]) e9, fun z3 => ⟨fun z4 s9 e9 => oth n1 s9 4 n2 (by rw [if_neg (by rw [zSg_f (by omega)]; exact Bool.false_ne_true)]) e9, fun z4 s9 e9 => oth n1 s9 3 n2 (by rw [if_pos (zSg_t (by omega))]) e9⟩⟩⟩⟩
    have dig : ¬ (97 ≤ f (tS f N e) ∧ f (tS f N e) ≤ 122) → Tri (d + 1) M_To_isDigit [vI (f (tS f N e))] s1 (fun r5 σ5 => (r5 = 0 → (∀ σ7, σ7 = up σ5 22 7 (w32 ((σ5 22 6) + 1)) → (f (tS f N e) = 59 → (∀ σ9, σ9 = up σ7 22 8 3 → Q 0 σ9)) ∧ (f (tS f N e) ≠ 59 → (f (tS f N e) = 60 → (∀ σ11, σ11 = up σ7 22 8 3 → Q 0 σ11)) ∧ (f (tS f N e) ≠ 60 → (f (tS f N e) = 62 → (∀ σ13, σ13 = up σ7 22 8 3 → Q 0 σ13)) ∧ (f (tS f N e) ≠ 62 → (f (tS f N e) ≠ 61 → (∀ σ15, σ15 = up σ7 22 8 4 → Q 0 σ15)) ∧ (f (tS f N e) = 61 → (∀ σ16, σ16 = up σ7 22 8 3 → Q 0 σ16))))))) ∧ (r5 ≠ 0 → (∀ σ17, σ17 = up σ5 22 1 0 → L (d + 2) M_To_advance 145 [vA 22, vU] [] σ17 Q))) := fun n1 =>
      t_To_isDigit (fun _ => ⟨fun z => ⟨fun _ s7 e7 => sg s7 n1 (by omega) e7, fun z2 => absurd rfl z2⟩, fun z => ⟨fun z2 => ⟨fun _ s7 e7 => sg s7 n1 (by omega) e7, fun z3 => absurd rfl z3⟩, fun z2 => ⟨fun z3 => by omega, fun _ s9 e9 => at145 s9 hlt (zLt_f n1) (zDg_t ⟨z, z2⟩) (by rw [e9, up_ne (by omega)]; exact r6) (by rw [e9, up_ne (by omega)]; exact r7) (by rw [e9, up_same]) (Off_trans hO1 (by rw [e9]; exact Off_up ⟨rfl, by omega⟩))⟩⟩⟩)
    refine t_To_isLetter (fun _ => ⟨fun z => ⟨fun _ => dig (by omega), fun z2 => absurd rfl z2⟩, fun z => ⟨fun z2 => ⟨fun _ => dig (by omega), fun z3 => absurd rfl z3⟩, fun z2 => ⟨fun z3 => by omega, fun _ s9 e9 => at94 s9 hlt (zLt_t ⟨z, z2⟩) (by rw [e9, up_ne (by omega)]; exact r6) (by rw [e9, up_ne (by omega)]; exact r7) (by rw [e9, up_same]) (Off_trans hO1 (by rw [e9]; exact Off_up ⟨rfl, by omega⟩))⟩⟩⟩)
  refine t_To_advance (fun s1 e1 => ?_)
  rw [h7] at e1
  refine loop_up (P := fun q s => L (d + 2) M_To_advance 8 [vA 22, vU] [] s Q) (fun q s => e ≤ q ∧ rnn (fun q => zBl (f q)) N e = rnn (fun q => zBl (f q)) N q ∧ s 22 6 = q ∧ Off (fun b j => b = 22 ∧ (j = 1 ∨ j = 6 ∨ j = 7 ∨ j = 8)) σ s) N ?_ ?_ e (by omega) s1 ⟨by omega, rfl, by rw [e1, up_same], by rw [e1]; exact Off_up ⟨rfl, by omega⟩⟩
  · rintro s ⟨_, hr, r6, hO⟩
    have e5 := f5 s hO
    exact s_To_advance_8 ⟨fun _ => at47 s (by rw [r6]; unfold tS; rw [hr, rnn_end (Int.le_refl _)]) hO, fun z => by omega⟩
  · rintro q s hq ⟨hq0, hr, r6, hO⟩ ih
    have e5 := f5 s hO
    have ef : s 23 (s 22 6) = f q := by rw [ff s hO, r6]
    refine s_To_advance_8 ⟨fun z => by omega, fun _ => ⟨by omega, ?_⟩⟩
    rw [ef]
    have yes : (f q = 10 ∨ f q = 32) → ∀ s4, s4 = up s 22 6 (w32 (s 22 6 + 1)) → L (d + 2) M_To_advance 8 [vA 22, vU] [] s4 Q := fun z s4 e4 => by
      rw [r6, w32_id (by omega) (by omega)] at e4
      exact ih s4 ⟨by omega, by rw [hr, rnn_go (P := fun q => zBl (f q)) hq (zBl_t z)], by rw [e4, up_same], Off_trans hO (by rw [e4]; exact Off_up ⟨rfl, by omega⟩)⟩
    refine t_To_isBlank (fun _ => ⟨fun z => ⟨fun z2 => by omega, fun _ s4 e4 => yes (by omega) s4 e4⟩, fun z => ⟨fun z2 => ⟨fun _ => at47 s (by rw [r6]; unfold tS; rw [hr, rnn_no (P := fun q => zBl (f q)) (zBl_f (by omega))]) hO, fun z3 => absurd rfl z3⟩, fun z2 => ⟨fun z3 => by omega, fun _ s4 e4 => yes (by omega) s4 e4⟩⟩⟩)
theorem To_next_s (hT : TC σ f N e) (h : ∀ σ', TC σ' f N (tE f N e) → Off (fun b j => b = 22 ∧ (j = 1 ∨ j = 6 ∨ j = 7 ∨ j = 8)) σ σ' → Q 0 σ') : Tri (d + 2) M_To_advance [vA 22] σ Q := by
  obtain ⟨a1, a2, a3, a4, a5, a6, a7, a8⟩ := hT
  have b1 := tS_b (f := f) a4.2
  have b2 := tE_b (f := f) a4.2
  exact To_advance_s a1 a2 a3 a6 ⟨by omega, b2.2⟩ h
theorem To_begin_s (hf : σ 23 = f) (hN : 0 ≤ N ∧ N ≤ 600) (h : ∀ σ', TC σ' f N 0 → Off (fun b j => b = 22 ∧ (j = 1 ∨ j = 5 ∨ j = 6 ∨ j = 7 ∨ j = 8)) σ σ' → Q 0 σ') : Tri (d + 3) M_To_begin [vA 22, vI N] σ Q := by
  refine t_To_begin (fun _ s1 e1 s2 e2 => ?_)
  rw [show max 0 (min N 600) = N by omega] at e1
  refine To_advance_s (f := f) (N := N) (e := 0) (by rw [e2, up_cell (by omega), e1, up_cell (by omega)]; exact hf) (by rw [e2, up_ne (by omega), e1, up_same]) hN (by rw [e2, up_same]) ⟨by omega, by omega⟩ (fun s3 hT hO => h s3 hT ?_)
  refine Off_trans ?_ (Off_mono hO (fun b j q => by omega))
  rw [e2, e1]
  exact Off_trans (Off_up ⟨rfl, by omega⟩) (Off_up ⟨rfl, by omega⟩)
/-- the FAULT that is told of the TOKEN behind e -/
def bk (f : Int → Int) (N e k : Int) : Int := if tK f N e = 4 then 1 else k
theorem To_blame_s {k : Int} (hT : TC σ f N e) (h : ∀ σ', σ' 22 2 = bk f N e k → σ' 22 3 = tS f N e → TC σ' f N e → Off (fun b j => b = 22 ∧ (j = 2 ∨ j = 3)) σ σ' → Q 0 σ') : Tri (d + 1) M_To_blame [vA 22, vI k] σ Q := by
  obtain ⟨a1, a2, a3, a4, a5, a6, a7, a8⟩ := id hT
  have b1 := tS_b (f := f) a4.2
  have fin : ∀ y, y = bk f N e k → L (d + 1) M_To_blame 14 [vA 22, vU] [vI y, vA 22] σ Q := fun y hy => by
    have hh : ∀ (s3 : SG) (v : Int), v = tS f N e → s3 = up (up σ 22 2 y) 22 3 v → Q 0 s3 := fun s3 v hv e3 => by
      have hO : Off (fun b j => b = 22 ∧ (j = 2 ∨ j = 3)) σ s3 := by rw [e3]; exact Off_trans (Off_up ⟨rfl, by omega⟩) (Off_up ⟨rfl, by omega⟩)
      exact h s3 (by rw [e3, up_ne (by omega), up_same]; exact hy) (by rw [e3, up_same]; exact hv) (hT.fr (funext fun q => hO 23 q (by omega)) (fun q _ _ _ _ => hO 22 q (by omega))) hO
    refine s_To_blame_14 (fun s1 e1 => ?_)
    have c8 : s1 22 8 = tK f N e := by rw [e1, up_ne (by omega)]; exact a7
    have c6 : s1 22 6 = tS f N e := by rw [e1, up_ne (by omega)]; exact a5
    have c5 : s1 22 5 = N := by rw [e1, up_ne (by omega)]; exact a2
    rw [c8, c6, c5]
    refine ⟨fun _ s3 e3 => hh s3 _ rfl (by rw [e3, e1]), fun z s3 e3 => hh s3 N ?_ (by rw [e3, e1])⟩
    have := tK_0.mp z
    omega
  refine t_To_blame (fun _ => ?_)
  rw [a7]
  exact ⟨fun z => fin _ (by unfold bk; rw [if_neg z]), fun z => fin _ (by unfold bk; rw [if_pos z])⟩
/-- a fault stands told -/
def FT (σ : SG) (k q : Int) : Prop := σ 22 2 = k ∧ σ 22 3 = q
def isS (f : Int → Int) (N e c : Int) : Prop := tK f N e = 3 ∧ f (tS f N e) = c
theorem To_isSign_s {c : Int} (hT : TC σ f N e) (h1 : isS f N e c → Q 1 σ) (h0 : ¬ isS f N e c → Q 0 σ) : Tri (d + 1) M_To_isSign [vA 22, vI c] σ Q := by
  obtain ⟨a1, a2, a3, a4, a5, a6, a7, a8⟩ := hT
  have b1 := tS_b (f := f) a4.2
  refine t_To_isSign (fun _ => ?_)
  rw [a7, a2, a5, a1]
  refine ⟨fun z => h0 (fun y => z y.1), fun z => ⟨fun z2 => absurd (tK_3 z).1 (by omega), fun z2 => ⟨by omega, fun z3 => h0 (fun y => z3 y.2), fun z3 => h1 ⟨z, z3⟩⟩⟩⟩
theorem To_takeSign_s {c : Int} (hT : TC σ f N e) (h1 : isS f N e c → ∀ σ', TC σ' f N (tE f N e) → Off (fun b j => b = 22 ∧ (j = 1 ∨ j = 6 ∨ j = 7 ∨ j = 8)) σ σ' → Q 1 σ') (h0 : ¬ isS f N e c → ∀ σ', FT σ' (bk f N e 2) (tS f N e) → Off (fun b j => b = 22 ∧ (j = 2 ∨ j = 3)) σ σ' → Q 0 σ') : Tri (d + 3) M_To_takeSign [vA 22, vI c] σ Q :=
  t_To_takeSign (fun _ => To_isSign_s hT (fun z => ⟨fun _ => To_next_s hT (h1 z), fun y => by omega⟩) (fun z => ⟨fun y => absurd rfl y, fun _ => To_blame_s hT (fun s q2 q3 _ hO => ⟨Or.inl rfl, h0 z s ⟨q2, q3⟩ hO⟩)⟩))
theorem To_seesNumber_s {lo hi : Int} (hT : TC σ f N e) (h1 : tK f N e = 2 → lo ≤ tV f N e → tV f N e ≤ hi → σ 22 1 = tV f N e → Q 1 σ) (h2 : tK f N e ≠ 2 → ∀ σ', FT σ' (bk f N e 2) (tS f N e) → Off (fun b j => b = 22 ∧ (j = 2 ∨ j = 3)) σ σ' → Q 0 σ') (h4 : tK f N e = 2 → ¬ (lo ≤ tV f N e ∧ tV f N e ≤ hi) → ∀ σ', FT σ' 4 (tS f N e) → Off (fun b j => b = 22 ∧ (j = 2 ∨ j = 3)) σ σ' → Q 0 σ') : Tri (d + 2) M_To_seesNumber [vA 22, vI lo, vI hi] σ Q := by
  obtain ⟨a1, a2, a3, a4, a5, a6, a7, a8⟩ := id hT
  refine t_To_seesNumber (fun _ _ => ?_)
  rw [a7]
  refine ⟨fun z => ?_, fun z => To_blame_s hT (fun s q2 q3 _ hO => ⟨Or.inl rfl, h2 z s ⟨q2, q3⟩ hO⟩)⟩
  have e1 := a8 z
  rw [e1]
  have hb : bk f N e 4 = 4 := by unfold bk; rw [if_neg (by omega)]
  refine ⟨fun z2 => To_blame_s hT (fun s q2 q3 _ hO => ⟨fun _ => h4 z (by omega) s ⟨q2.trans hb, q3⟩ hO, fun y => absurd rfl y⟩), fun z2 => ⟨fun z3 => h1 z z2 z3 e1, fun z3 => To_blame_s hT (fun s q2 q3 _ hO => ⟨fun _ => h4 z (by omega) s ⟨q2.trans hb, q3⟩ hO, fun y => absurd rfl y⟩)⟩⟩
end TOK
