/-! ===== the model's TOKENS ===== -/
def BYT (f : Int → Int) : Prop := ∀ q, 0 ≤ q → q < 600 → -128 ≤ f q ∧ f q ≤ 127
theorem and_255 : ∀ n : Nat, n < 256 → and32 ((n : Int) - 128) 255 = ((n : Int) - 128) % 256 := by decide +kernel
theorem and_b {x : Int} (h0 : -128 ≤ x) (h1 : x ≤ 127) : and32 x 255 = x % 256 := by
  have := and_255 (x + 128).toNat (by omega)
  rw [show (((x + 128).toNat : Nat) : Int) - 128 = x by omega] at this
  exact this
def TR (σ : SG) (f : Int → Int) (N e : Int) : Prop := (∀ q, 0 ≤ q → q < 600 → σ 165 q = f q) ∧ σ 161 9 = N ∧ (0 ≤ N ∧ N ≤ 600) ∧ (0 ≤ e ∧ e ≤ N) ∧ σ 161 15 = tS f N e ∧ σ 161 16 = tE f N e ∧ σ 161 14 = tK f N e ∧ (tK f N e = 2 → σ 161 17 = tV f N e) ∧ (tK f N e = 3 → σ 161 17 = f (tS f N e)) ∧ (tK f N e = 1 → σ 161 18 = tW f N e)
theorem TR.fr {σ σ' : SG} {f : Int → Int} {N e : Int} (h : TR σ f N e) (h1 : ∀ k, σ' 165 k = σ 165 k) (h2 : ∀ k, 9 ≤ k → k ≠ 10 → k ≠ 11 → k ≠ 12 → k ≠ 13 → k ≤ 18 → σ' 161 k = σ 161 k) : TR σ' f N e := by
  obtain ⟨a1, a2, a3, a4, a5, a6, a7, a8, a9, a10⟩ := h
  exact ⟨fun q q0 q1 => (h1 q).trans (a1 q q0 q1), (h2 9 (by omega) (by omega) (by omega) (by omega) (by omega) (by omega)).trans a2, a3, a4, (h2 15 (by omega) (by omega) (by omega) (by omega) (by omega) (by omega)).trans a5, (h2 16 (by omega) (by omega) (by omega) (by omega) (by omega) (by omega)).trans a6, (h2 14 (by omega) (by omega) (by omega) (by omega) (by omega) (by omega)).trans a7, fun z => (h2 17 (by omega) (by omega) (by omega) (by omega) (by omega) (by omega)).trans (a8 z), fun z => (h2 17 (by omega) (by omega) (by omega) (by omega) (by omega) (by omega)).trans (a9 z), fun z => (h2 18 (by omega) (by omega) (by omega) (by omega) (by omega) (by omega)).trans (a10 z)⟩
section RTK
variable {d : Nat} {σ : SG} {Q : Int → SG → Prop} {f : Int → Int} {N e : Int}
theorem R_look2_s {q : Int} (hB : BYT f) (hf : ∀ q, 0 ≤ q → q < 600 → σ 165 q = f q) (h9 : σ 161 9 = N) (hN : N ≤ 600) (q0 : 0 ≤ q) (h1 : q < N → Q (f q % 256) σ) (h0 : N ≤ q → Q 0 σ) : Tri (d + 1) M_R_look2 [vA 161, vI q] σ Q := by
  refine t_R_look2 (fun _ => ?_)
  rw [h9]
  refine ⟨h0, fun z => ⟨by omega, ?_⟩⟩
  have hb := hB q q0 (by omega)
  rw [hf q q0 (by omega), and_b hb.1 hb.2]
  exact h1 z
theorem R_next_s (hB : BYT f) (hf : ∀ q, 0 ≤ q → q < 600 → σ 165 q = f q) (h9 : σ 161 9 = N) (hN : 0 ≤ N ∧ N ≤ 600) (h16 : σ 161 16 = e) (he : 0 ≤ e ∧ e ≤ N) (h : ∀ σ', TR σ' f N e → Off (fun b j => b = 161 ∧ 14 ≤ j ∧ j ≤ 18) σ σ' → Q 0 σ') : Tri (d + 2) M_R_next [vA 161] σ Q := by
  have hs := tS_b (f := f) he.2
  have hE := tE_b (f := f) he.2
  have ff : ∀ s, Off (fun b j => b = 161 ∧ 14 ≤ j ∧ j ≤ 18) σ s → ∀ q, 0 ≤ q → q < 600 → s 165 q = f q := fun s hO q q0 q1 => (hO 165 q (by omega)).trans (hf q q0 q1)
  have f9 : ∀ s, Off (fun b j => b = 161 ∧ 14 ≤ j ∧ j ≤ 18) σ s → s 161 9 = N := fun s hO => (hO 161 9 (by omega)).trans h9
  have fin : ∀ s, s 161 15 = tS f N e → s 161 16 = tE f N e → s 161 14 = tK f N e → (tK f N e = 2 → s 161 17 = tV f N e) → (tK f N e = 3 → s 161 17 = f (tS f N e)) → (tK f N e = 1 → s 161 18 = tW f N e) → Off (fun b j => b = 161 ∧ 14 ≤ j ∧ j ≤ 18) σ s → Q 0 s := fun s q5 q6 q4 q7 q8 q9 hO => h s ⟨ff s hO, f9 s hO, hN, he, q5, q6, q4, q7, q8, q9⟩ hO
  have at109 : ∀ s, tS f N e < N → zLt (f (tS f N e)) = true → s 161 15 = tS f N e → s 161 16 = tS f N e → s 161 14 = 1 → s 161 18 = 0 → Off (fun b j => b = 161 ∧ 14 ≤ j ∧ j ≤ 18) σ s → L (d + 2) M_R_next 109 [vA 161, vU] [] s Q := by
    intro s0 hlt hl q5 q6 q4 q8 hO0
    have hk : tK f N e = 1 := by unfold tK; rw [if_neg (by omega), if_pos hl]
    have hEE : tE f N e = rnn (fun q => zLt (f q)) N (tS f N e) := by unfold tE; rw [if_neg (by omega), if_pos hl]
    have done : ∀ s q, s 161 15 = tS f N e → s 161 16 = q → tE f N e = q → s 161 14 = 1 → s 161 18 = (if q - tS f N e ≤ 9 then wvN f (tS f N e) (q - tS f N e).toNat else -1) → Off (fun b j => b = 161 ∧ 14 ≤ j ∧ j ≤ 18) σ s → Q 0 s := fun s q r5 r6 hq r4 r8 hO => fin s r5 (by rw [r6, hq]) (by rw [r4, hk]) (fun z => by omega) (fun z => by omega) (fun _ => by rw [r8]; unfold tW; rw [hq]) hO
    refine loop_up (P := fun q s => L (d + 2) M_R_next 109 [vA 161, vU] [] s Q) (fun q s => tS f N e ≤ q ∧ rnn (fun q => zLt (f q)) N (tS f N e) = rnn (fun q => zLt (f q)) N q ∧ (∀ i, tS f N e ≤ i → i < q → zLt (f i) = true) ∧ s 161 15 = tS f N e ∧ s 161 16 = q ∧ s 161 14 = 1 ∧ s 161 18 = (if q - tS f N e ≤ 9 then wvN f (tS f N e) (q - tS f N e).toNat else -1) ∧ Off (fun b j => b = 161 ∧ 14 ≤ j ∧ j ≤ 18) σ s) N ?_ ?_ (tS f N e) (by omega) s0 ⟨by omega, rfl, fun i _ _ => by omega, q5, q6, q4, by rw [q8, if_pos (by omega), show (tS f N e - tS f N e).toNat = 0 by omega]; rfl, hO0⟩
    · rintro s ⟨_, hr, _, r5, r6, r4, r8, hO⟩
      refine s_R_next_109 ?_
      rw [r6]
      refine R_look2_s hB (ff s hO) (f9 s hO) hN.2 (by omega) (fun z => by omega) (fun _ => t_R_isLetter (fun _ => ⟨fun _ => ⟨fun _ => done s N r5 r6 (by rw [hEE, hr, rnn_end (Int.le_refl _)]) r4 r8 hO, fun z => absurd rfl z⟩, fun z => by omega⟩))
    · rintro q s hq ⟨hq0, hr, hle, r5, r6, r4, r8, hO⟩ ih
      have hb := hB q (by omega) (by omega)
      have no : ¬ (97 ≤ f q ∧ f q ≤ 122) → Q 0 s := fun z => done s q r5 r6 (by rw [hEE, hr, rnn_no (P := fun q => zLt (f q)) (zLt_f z)]) r4 r8 hO
      refine s_R_next_109 ?_
      rw [r6]
      refine R_look2_s hB (ff s hO) (f9 s hO) hN.2 (by omega) (fun _ => ?_) (fun z => by omega)
      refine t_R_isLetter (fun _ => ⟨fun z => ⟨fun _ => no (by omega), fun z2 => absurd rfl z2⟩, fun z => ⟨fun z2 => ⟨fun _ => no (by omega), fun z3 => absurd rfl z3⟩, fun z2 => ⟨fun z3 => by omega, fun _ => ?_⟩⟩⟩)
      have hfq : 97 ≤ f q ∧ f q ≤ 122 := by omega
      have hr2 : rnn (fun q => zLt (f q)) N (tS f N e) = rnn (fun q => zLt (f q)) N (q + 1) := by rw [hr, rnn_go (P := fun q => zLt (f q)) hq (zLt_t hfq)]
      have hle2 : ∀ i, tS f N e ≤ i → i < q + 1 → zLt (f i) = true := fun i i0 i1 => by
        by_cases g : i = q
        · rw [g]; exact zLt_t hfq
        · exact hle i i0 (by omega)
      rw [r6, r5, w32_id (x := q - tS f N e) (by omega) (by omega)]
      refine ⟨fun z4 s5 e5 s6 e6 => ?_, fun z4 => ?_⟩
      · have r6' : s5 161 16 = q := by rw [e5, up_ne (by omega)]; exact r6
        rw [r6', w32_id (by omega) (by omega)] at e6
        refine ih s6 ⟨by omega, hr2, hle2, by rw [e6, up_ne (by omega), e5, up_ne (by omega)]; exact r5, by rw [e6, up_same], by rw [e6, up_ne (by omega), e5, up_ne (by omega)]; exact r4, by rw [e6, up_ne (by omega), e5, up_same, if_neg (by omega)], Off_trans hO (by rw [e6, e5]; exact Off_trans (Off_up ⟨rfl, by omega, by omega⟩) (Off_up ⟨rfl, by omega, by omega⟩))⟩
      · refine R_look2_s hB (ff s hO) (f9 s hO) hN.2 (by omega) (fun _ s7 e7 s8 e8 => ?_) (fun z => by omega)
        have hnb := wvN_b (f := f) (s := tS f N e) (q - tS f N e).toNat (fun i hi => hle _ (by omega) (by omega))
        have hpw := pow_le (p := 32) (k := (q - tS f N e).toNat) (n := 8) (by omega) (by omega)
        rw [if_pos (by omega)] at r8
        rw [r8, w64_id (x := wvN f (tS f N e) (q - tS f N e).toNat * 32) (by omega) (by omega), w64_id (x := wvN f (tS f N e) (q - tS f N e).toNat * 32 + f q % 256) (by omega) (by omega), w64_id (x := wvN f (tS f N e) (q - tS f N e).toNat * 32 + f q % 256 - 96) (by omega) (by omega)] at e7
        have r6' : s7 161 16 = q := by rw [e7, up_ne (by omega)]; exact r6
        rw [r6', w32_id (by omega) (by omega)] at e8
        refine ih s8 ⟨by omega, hr2, hle2, by rw [e8, up_ne (by omega), e7, up_ne (by omega)]; exact r5, by rw [e8, up_same], by rw [e8, up_ne (by omega), e7, up_ne (by omega)]; exact r4, ?_, Off_trans hO (by rw [e8, e7]; exact Off_trans (Off_up ⟨rfl, by omega, by omega⟩) (Off_up ⟨rfl, by omega, by omega⟩))⟩
        rw [e8, up_ne (by omega), e7, up_same, if_pos (by omega), show (q + 1 - tS f N e).toNat = (q - tS f N e).toNat + 1 by omega]
        show _ = wvN f (tS f N e) (q - tS f N e).toNat * 32 + (f (tS f N e + ((q - tS f N e).toNat : Nat)) - 96)
        rw [show tS f N e + (((q - tS f N e).toNat : Nat) : Int) = q by omega]
        omega
  have at194 : ∀ s, tS f N e < N → zLt (f (tS f N e)) = false → zDg (f (tS f N e)) = true → s 161 15 = tS f N e → s 161 16 = tS f N e → s 161 17 = 0 → Off (fun b j => b = 161 ∧ 14 ≤ j ∧ j ≤ 18) σ s → L (d + 2) M_R_next 194 [vA 161, vU] [] s Q := by
    intro s0 hlt hl hdg q5 q6 q7 hO0
    have hEE : tE f N e = rnn (fun q => zDg (f q)) N (tS f N e) := by unfold tE; rw [if_neg (by omega), if_neg (by rw [hl]; exact Bool.false_ne_true), if_pos hdg]
    have hK : tK f N e = if 4 < tE f N e - tS f N e then 4 else 2 := by unfold tK; rw [if_neg (by omega), if_neg (by rw [hl]; exact Bool.false_ne_true), if_pos hdg]
    have done : ∀ s q, tS f N e ≤ q → q ≤ N → s 161 15 = tS f N e → s 161 16 = q → tE f N e = q → s 161 17 = nvN f (tS f N e) (min (q - tS f N e) 4).toNat → Off (fun b j => b = 161 ∧ 14 ≤ j ∧ j ≤ 18) σ s → (w32 ((s 161 16) - (s 161 15)) ≤ 4 → (∀ σ5, σ5 = up s 161 14 2 → Q 0 σ5)) ∧ (4 < w32 ((s 161 16) - (s 161 15)) → (∀ σ6, σ6 = up s 161 14 4 → Q 0 σ6)) := by
      intro s q b0 b1 r5 r6 hq r7 hO
      rw [r5, r6, w32_id (by omega) (by omega)]
      refine ⟨fun z s5 e5 => fin s5 (by rw [e5, up_ne (by omega)]; exact r5) (by rw [e5, up_ne (by omega), r6, hq]) (by rw [e5, up_same, hK, if_neg (by omega)]) (fun _ => by rw [e5, up_ne (by omega), r7]; unfold tV; rw [hq]) (fun y => by rw [hK, if_neg (by omega)] at y; omega) (fun y => by rw [hK, if_neg (by omega)] at y; omega) (Off_trans hO (by rw [e5]; exact Off_up ⟨rfl, by omega, by omega⟩)), fun z s5 e5 => fin s5 (by rw [e5, up_ne (by omega)]; exact r5) (by rw [e5, up_ne (by omega), r6, hq]) (by rw [e5, up_same, hK, if_pos (by omega)]) (fun y => by rw [hK, if_pos (by omega)] at y; omega) (fun y => by rw [hK, if_pos (by omega)] at y; omega) (fun y => by rw [hK, if_pos (by omega)] at y; omega) (Off_trans hO (by rw [e5]; exact Off_up ⟨rfl, by omega, by omega⟩))⟩
    refine loop_up (P := fun q s => L (d + 2) M_R_next 194 [vA 161, vU] [] s Q) (fun q s => tS f N e ≤ q ∧ rnn (fun q => zDg (f q)) N (tS f N e) = rnn (fun q => zDg (f q)) N q ∧ (∀ i, tS f N e ≤ i → i < q → zDg (f i) = true) ∧ s 161 15 = tS f N e ∧ s 161 16 = q ∧ s 161 17 = nvN f (tS f N e) (min (q - tS f N e) 4).toNat ∧ Off (fun b j => b = 161 ∧ 14 ≤ j ∧ j ≤ 18) σ s) N ?_ ?_ (tS f N e) (by omega) s0 ⟨by omega, rfl, fun i _ _ => by omega, q5, q6, by rw [q7, show (min (tS f N e - tS f N e) 4).toNat = 0 by omega]; rfl, hO0⟩
    · rintro s ⟨_, hr, _, r5, r6, r7, hO⟩
      refine s_R_next_194 ?_
      rw [r6]
      refine R_look2_s hB (ff s hO) (f9 s hO) hN.2 (by omega) (fun z => by omega) (fun _ => t_R_isDigit (fun _ => ⟨fun _ => ⟨fun _ => done s N (by omega) (by omega) r5 r6 (by rw [hEE, hr, rnn_end (Int.le_refl _)]) r7 hO, fun z => absurd rfl z⟩, fun z => by omega⟩))
    · rintro q s hq ⟨hq0, hr, hdi, r5, r6, r7, hO⟩ ih
      have hb := hB q (by omega) (by omega)
      have no : ¬ (48 ≤ f q ∧ f q ≤ 57) → _ := fun z => done s q hq0 (by omega) r5 r6 (by rw [hEE, hr, rnn_no (P := fun q => zDg (f q)) (zDg_f z)]) r7 hO
      refine s_R_next_194 ?_
      rw [r6]
      refine R_look2_s hB (ff s hO) (f9 s hO) hN.2 (by omega) (fun _ => ?_) (fun z => by omega)
      refine t_R_isDigit (fun _ => ⟨fun z => ⟨fun _ => no (by omega), fun z2 => absurd rfl z2⟩, fun z => ⟨fun z2 => ⟨fun _ => no (by omega), fun z3 => absurd rfl z3⟩, fun z2 => ⟨fun z3 => by omega, fun _ => ?_⟩⟩⟩)
      have hfq : 48 ≤ f q ∧ f q ≤ 57 := by omega
      have hr2 : rnn (fun q => zDg (f q)) N (tS f N e) = rnn (fun q => zDg (f q)) N (q + 1) := by rw [hr, rnn_go (P := fun q => zDg (f q)) hq (zDg_t hfq)]
      have hdi2 : ∀ i, tS f N e ≤ i → i < q + 1 → zDg (f i) = true := fun i i0 i1 => by
        by_cases g : i = q
        · rw [g]; exact zDg_t hfq
        · exact hdi i i0 (by omega)
      rw [r6, r5, w32_id (x := q - tS f N e) (by omega) (by omega)]
      refine ⟨fun z4 s8 e8 => ?_, fun z4 => ?_⟩
      · rw [w32_id (by omega) (by omega)] at e8
        refine ih s8 ⟨by omega, hr2, hdi2, by rw [e8, up_ne (by omega)]; exact r5, by rw [e8, up_same], ?_, Off_trans hO (by rw [e8]; exact Off_up ⟨rfl, by omega, by omega⟩)⟩
        rw [e8, up_ne (by omega), r7]
        congr 1
        omega
      · refine R_look2_s hB (ff s hO) (f9 s hO) hN.2 (by omega) (fun _ s7 e7 s8 e8 => ?_) (fun z => by omega)
        have hnb := nvN_b (f := f) (s := tS f N e) (q - tS f N e).toNat (fun i hi => hdi _ (by omega) (by omega))
        have hpw := pow_le (p := 10) (k := (q - tS f N e).toNat) (n := 3) (by omega) (by omega)
        rw [show min (q - tS f N e) 4 = q - tS f N e by omega] at r7
        rw [r7, w32_id (x := 10 * nvN f (tS f N e) (q - tS f N e).toNat) (by omega) (by omega), w32_id (x := 10 * nvN f (tS f N e) (q - tS f N e).toNat + f q % 256) (by omega) (by omega), w32_id (x := 10 * nvN f (tS f N e) (q - tS f N e).toNat + f q % 256 - 48) (by omega) (by omega)] at e7
        have r6' : s7 161 16 = q := by rw [e7, up_ne (by omega)]; exact r6
        rw [r6', w32_id (by omega) (by omega)] at e8
        refine ih s8 ⟨by omega, hr2, hdi2, by rw [e8, up_ne (by omega), e7, up_ne (by omega)]; exact r5, by rw [e8, up_same], ?_, Off_trans hO (by rw [e8, e7]; exact Off_trans (Off_up ⟨rfl, by omega, by omega⟩) (Off_up ⟨rfl, by omega, by omega⟩))⟩
        rw [e8, up_ne (by omega), e7, up_same, show (min (q + 1 - tS f N e) 4).toNat = (q - tS f N e).toNat + 1 by omega]
        show _ = nvN f (tS f N e) (q - tS f N e).toNat * 10 + (f (tS f N e + ((q - tS f N e).toNat : Nat)) - 48)
        rw [show tS f N e + (((q - tS f N e).toNat : Nat) : Int) = q by omega]
        omega
  have at58 : ∀ s, s 161 15 = tS f N e → Off (fun b j => b = 161 ∧ 14 ≤ j ∧ j ≤ 18) σ s → L (d + 2) M_R_next 58 [vA 161, vU] [] s Q := by
    intro s q5 hO
    refine s_R_next_58 (fun s1 e1 => ?_)
    have r5 : s1 161 15 = tS f N e := by rw [e1, up_ne (by omega)]; exact q5
    have r6 : s1 161 16 = tS f N e := by rw [e1, up_same]; exact q5
    have hO1 : Off (fun b j => b = 161 ∧ 14 ≤ j ∧ j ≤ 18) σ s1 := Off_trans hO (by rw [e1]; exact Off_up ⟨rfl, by omega, by omega⟩)
    rw [r5, f9 s1 hO1]
    refine ⟨fun hlt => ?_, fun hge s2 e2 => fin s2 (by rw [e2, up_ne (by omega)]; exact r5) (by rw [e2, up_ne (by omega), r6]; unfold tE; rw [if_pos hge]) (by rw [e2, up_same]; exact (tK_0.mpr hge).symm) (fun z => by rw [tK_0.mpr hge] at z; omega) (fun z => by rw [tK_0.mpr hge] at z; omega) (fun z => by rw [tK_0.mpr hge] at z; omega) (Off_trans hO1 (by rw [e2]; exact Off_up ⟨rfl, by omega, by omega⟩))⟩
    have hb := hB (tS f N e) (by omega) (by omega)
    refine R_look2_s hB (ff s1 hO1) (f9 s1 hO1) hN.2 (by omega) (fun _ => ?_) (fun z => by omega)
    have oth : ∀ (s9 : SG) (kk : Int), ¬ (97 ≤ f (tS f N e) ∧ f (tS f N e) ≤ 122) → ¬ (48 ≤ f (tS f N e) ∧ f (tS f N e) ≤ 57) → kk = (if zSg (f (tS f N e)) = true then 3 else 4) → s9 = up (up (up s1 161 16 (w32 (s1 161 15 + 1))) 161 17 (f (tS f N e) % 256)) 161 14 kk → Q 0 s9 := by
      intro s9 kk n1 n2 hkk e9
      rw [r5, w32_id (by omega) (by omega)] at e9
      have hEE : tE f N e = tS f N e + 1 := by unfold tE; rw [if_neg (by omega), if_neg (by rw [zLt_f n1]; exact Bool.false_ne_true), if_neg (by rw [zDg_f n2]; exact Bool.false_ne_true)]
      have hK : tK f N e = kk := by unfold tK; rw [if_neg (by omega), if_neg (by rw [zLt_f n1]; exact Bool.false_ne_true), if_neg (by rw [zDg_f n2]; exact Bool.false_ne_true), hkk]
      refine fin s9 (by rw [e9, up_ne (by omega), up_ne (by omega), up_ne (by omega)]; exact r5) (by rw [e9, up_ne (by omega), up_ne (by omega), up_same, hEE]) (by rw [e9, up_same, hK]) (fun z => by rw [hK, hkk] at z; split at z <;> omega) (fun z => ?_) (fun z => by rw [hK, hkk] at z; split at z <;> omega) (Off_trans hO1 (by rw [e9]; exact Off_trans (Off_up ⟨rfl, by omega, by omega⟩) (Off_trans (Off_up ⟨rfl, by omega, by omega⟩) (Off_up ⟨rfl, by omega, by omega⟩))))
      have := zSg_i (tK_3 z).2.2
      rw [e9, up_ne (by omega), up_same]
      omega
    have sgn : ¬ (97 ≤ f (tS f N e) ∧ f (tS f N e) ≤ 122) → ¬ (48 ≤ f (tS f N e) ∧ f (tS f N e) ≤ 57) → ∀ s8, s8 = up s1 161 16 (w32 (s1 161 15 + 1)) → ∀ s9, s9 = up s8 161 17 (f (tS f N e) % 256) → Tri (d + 1) M_R_isSignByte [vA 161, vI (f (tS f N e) % 256)] s9 (fun r10 σ10 => (r10 = 0 → (∀ σ12, σ12 = up σ10 161 14 4 → Q 0 σ12)) ∧ (r10 ≠ 0 → (∀ σ13, σ13 = up σ10 161 14 3 → Q 0 σ13))) := by
      intro n1 n2 s8 e8 s9 e9
      subst e8
      have y : ∀ x, (x = 59 ∨ x = 60 ∨ x = 61 ∨ x = 62) → x = f (tS f N e) % 256 → (((1 : Int) = 0 → (∀ σ12, σ12 = up s9 161 14 4 → Q 0 σ12)) ∧ ((1 : Int) ≠ 0 → (∀ σ13, σ13 = up s9 161 14 3 → Q 0 σ13))) := fun x hx hxx => ⟨fun z => by omega, fun _ s13 e13 => oth s13 3 n1 n2 (by rw [if_pos (zSg_t (by omega))]) (by rw [e13, e9])⟩
      refine t_R_isSignByte (fun _ => ⟨fun z => y 59 (by omega) z.symm, fun z => ⟨fun z2 => y 60 (by omega) z2.symm, fun z2 => ⟨fun z3 => y 62 (by omega) z3.symm, fun z3 => ⟨fun z4 => ⟨fun _ s12 e12 => oth s12 4 n1 n2 (by rw [if_neg (by rw [zSg_f (by omega)]; exact Bool.false_ne_true)]) (by rw [e12, e9]), fun z5 => absurd rfl z5⟩, fun z4 => y 61 (by omega) z4.symm⟩⟩⟩⟩)
    have dig : ¬ (97 ≤ f (tS f N e) ∧ f (tS f N e) ≤ 122) → Tri (d + 1) M_R_isDigit [vI (f (tS f N e) % 256)] s1 (fun r6 σ6 => (r6 = 0 → (∀ σ8, σ8 = up σ6 161 16 (w32 ((σ6 161 15) + 1)) → (∀ σ9, σ9 = up σ8 161 17 (f (tS f N e) % 256) → Tri (d + 1) M_R_isSignByte [vA 161, vI (f (tS f N e) % 256)] σ9 (fun r10 σ10 => (r10 = 0 → (∀ σ12, σ12 = up σ10 161 14 4 → Q 0 σ12)) ∧ (r10 ≠ 0 → (∀ σ13, σ13 = up σ10 161 14 3 → Q 0 σ13)))))) ∧ (r6 ≠ 0 → (∀ σ14, σ14 = up σ6 161 17 0 → L (d + 2) M_R_next 194 [vA 161, vU] [] σ14 Q))) := fun n1 =>
      t_R_isDigit (fun _ => ⟨fun z => ⟨fun _ => sgn n1 (by omega), fun z2 => absurd rfl z2⟩, fun z => ⟨fun z2 => ⟨fun _ => sgn n1 (by omega), fun z3 => absurd rfl z3⟩, fun z2 => ⟨fun z3 => by omega, fun _ s9 e9 => at194 s9 hlt (zLt_f n1) (zDg_t (by omega)) (by rw [e9, up_ne (by omega)]; exact r5) (by rw [e9, up_ne (by omega)]; exact r6) (by rw [e9, up_same]) (Off_trans hO1 (by rw [e9]; exact Off_up ⟨rfl, by omega, by omega⟩))⟩⟩⟩)
    refine t_R_isLetter (fun _ => ⟨fun z => ⟨fun _ => dig (by omega), fun z2 => absurd rfl z2⟩, fun z => ⟨fun z2 => ⟨fun _ => dig (by omega), fun z3 => absurd rfl z3⟩, fun z2 => ⟨fun z3 => by omega, fun _ s8 e8 s9 e9 => at109 s9 hlt (zLt_t (by omega)) (by rw [e9, up_ne (by omega), e8, up_ne (by omega)]; exact r5) (by rw [e9, up_ne (by omega), e8, up_ne (by omega)]; exact r6) (by rw [e9, up_ne (by omega), e8, up_same]) (by rw [e9, up_same]) (Off_trans hO1 (by rw [e9, e8]; exact Off_trans (Off_up ⟨rfl, by omega, by omega⟩) (Off_up ⟨rfl, by omega, by omega⟩)))⟩⟩⟩)
  refine t_R_next (fun s1 e1 => ?_)
  rw [h16] at e1
  refine loop_up (P := fun q s => L (d + 2) M_R_next 8 [vA 161, vU] [] s Q) (fun q s => e ≤ q ∧ rnn (fun q => zBl (f q)) N e = rnn (fun q => zBl (f q)) N q ∧ s 161 15 = q ∧ Off (fun b j => b = 161 ∧ 14 ≤ j ∧ j ≤ 18) σ s) N ?_ ?_ e (by omega) s1 ⟨by omega, rfl, by rw [e1, up_same], by rw [e1]; exact Off_up ⟨rfl, by omega, by omega⟩⟩
  · rintro s ⟨_, hr, r5, hO⟩
    have e9 := f9 s hO
    exact s_R_next_8 ⟨fun _ => at58 s (by rw [r5]; unfold tS; rw [hr, rnn_end (Int.le_refl _)]) hO, fun z => by omega⟩
  · rintro q s hq ⟨hq0, hr, r5, hO⟩ ih
    have e9 := f9 s hO
    have hb := hB q (by omega) (by omega)
    have yes : (f q = 10 ∨ f q = 32) → ∀ s4, s4 = up s 161 15 (w32 (s 161 15 + 1)) → L (d + 2) M_R_next 8 [vA 161, vU] [] s4 Q := fun z s4 e4 => by
      rw [r5, w32_id (by omega) (by omega)] at e4
      exact ih s4 ⟨by omega, by rw [hr, rnn_go (P := fun q => zBl (f q)) hq (zBl_t z)], by rw [e4, up_same], Off_trans hO (by rw [e4]; exact Off_up ⟨rfl, by omega, by omega⟩)⟩
    refine s_R_next_8 ⟨fun z => by omega, fun _ => ?_⟩
    rw [r5]
    refine R_look2_s hB (ff s hO) e9 hN.2 (by omega) (fun _ => ⟨fun z s4 e4 => yes (by omega) s4 e4, fun z => ?_⟩) (fun z => by omega)
    rw [r5]
    exact R_look2_s hB (ff s hO) e9 hN.2 (by omega) (fun _ => ⟨fun z2 => at58 s (by rw [r5]; unfold tS; rw [hr, rnn_no (P := fun q => zBl (f q)) (zBl_f (by omega))]) hO, fun z2 s4 e4 => yes (by omega) s4 e4⟩) (fun z => by omega)
theorem R_go_s (hB : BYT f) (hT : TR σ f N e) (h : ∀ σ', TR σ' f N (tE f N e) → Off (fun b j => b = 161 ∧ 14 ≤ j ∧ j ≤ 18) σ σ' → Q 0 σ') : Tri (d + 2) M_R_next [vA 161] σ Q := by
  obtain ⟨a1, a2, a3, a4, a5, a6, a7, a8⟩ := hT
  have b1 := tS_b (f := f) a4.2
  have b2 := tE_b (f := f) a4.2
  exact R_next_s hB a1 a2 a3 a6 ⟨by omega, b2.2⟩ h
theorem R_isSign_s {c : Int} (hT : TR σ f N e) (h1 : isS f N e c → Q 1 σ) (h0 : ¬ isS f N e c → Q 0 σ) : Tri (d + 1) M_R_isSign [vA 161, vI c] σ Q := by
  obtain ⟨a1, a2, a3, a4, a5, a6, a7, a8, a9, a10⟩ := hT
  refine t_R_isSign (fun _ => ?_)
  rw [a7]
  refine ⟨fun z => h0 (fun y => z y.1), fun z => ?_⟩
  rw [a9 z]
  exact ⟨fun z2 => h0 (fun y => z2 y.2), fun z2 => h1 ⟨z, z2⟩⟩
/-- the number of a word -/
def encU (u : List Int) : Int := wvN (fun i => u.getD i.toNat 0) 0 u.length
theorem isU_enc {u : List Int} (hu : ∀ i : Nat, i < u.length → zLt (u.getD i 0) = true) (hl : u.length ≤ 9) (he : e ≤ N) : isU f N e u ↔ (tK f N e = 1 ∧ tW f N e = encU u) := by
  have hE := tE_b (f := f) he
  have hg : ∀ i : Nat, i < u.length → zLt ((fun i : Int => u.getD i.toNat 0) (0 + (i : Int))) = true := fun i hi => by
    have := hu i hi
    simp only
    rw [show (0 + (i : Int)).toNat = i by omega]; exact this
  have hub := wvN_b (f := fun i => u.getD i.toNat 0) (s := 0) u.length hg
  constructor
  · rintro ⟨h1, h2, h3⟩
    refine ⟨h1, ?_⟩
    unfold tW encU
    rw [if_pos (by omega), show (tE f N e - tS f N e).toNat = u.length by omega]
    have cg : ∀ k : Nat, k ≤ u.length → wvN f (tS f N e) k = wvN (fun i => u.getD i.toNat 0) 0 k := by
      intro k
      induction k with
      | zero => intro _; rfl
      | succ k ih =>
        intro hk
        show wvN f (tS f N e) k * 32 + (f (tS f N e + k) - 96) = wvN (fun i => u.getD i.toNat 0) 0 k * 32 + (u.getD (0 + (k : Int)).toNat 0 - 96)
        rw [ih (by omega), h3 k (by omega), show (0 + (k : Int)).toNat = k by omega]
    exact cg _ (Nat.le_refl _)
  · rintro ⟨h1, h2⟩
    have hlet : ∀ i : Nat, i < (tE f N e - tS f N e).toNat → zLt (f (tS f N e + i)) = true := fun i hi => by
      rw [(tK_1 h1).2.2] at hi
      exact rnn_in (P := fun q => zLt (f q)) (N := N) (q := tS f N e) (tS f N e + i) (by omega) (by omega)
    unfold tW encU at h2
    by_cases g : tE f N e - tS f N e ≤ 9
    · rw [if_pos g] at h2
      obtain ⟨h4, h5⟩ := wvN_inj _ _ hlet hg h2
      refine ⟨h1, by omega, fun i hi => ?_⟩
      rw [h5 i (by omega)]
      rw [show (0 + (i : Int)).toNat = i by omega]
    · rw [if_neg g] at h2
      omega
theorem R_isWord_s {u : List Int} {v : Int} (hu : ∀ i : Nat, i < u.length → zLt (u.getD i 0) = true) (hl : u.length ≤ 9) (hv : v = encU u) (hT : TR σ f N e) (h1 : isU f N e u → Q 1 σ) (h0 : ¬ isU f N e u → Q 0 σ) : Tri (d + 1) M_R_isWord [vA 161, vJ v] σ Q := by
  obtain ⟨a1, a2, a3, a4, a5, a6, a7, a8, a9, a10⟩ := hT
  have key := isU_enc (f := f) (N := N) (e := e) hu hl a4.2
  refine t_R_isWord (fun _ => ?_)
  rw [a7]
  refine ⟨fun z => h0 (fun y => z y.1), fun z => ?_⟩
  rw [a10 z, hv]
  exact ⟨fun z2 => h0 (fun y => z2 (cmp3_eq.mpr (key.mp y).2)), fun z2 => h1 (key.mpr ⟨z, cmp3_eq.mp z2⟩)⟩
end RTK
