/-! ===== calls on SHELVES: take, sameAs, parted, barred; maps ===== -/
section CSH
variable {d : Nat} {σ : SG} {Q : Int → SG → Prop} {c : Int → Int}
theorem WDs {s : Int} (hK : KC σ 6 c) (hD : DC c) (s0 : 0 ≤ s) (s1 : s < 4) (hc : c (127 * (s + 1)) ≠ 0) : WD (nrm σ) (6 + 5 + 2 * (s + 1)) (c (127 * (s + 1))) (c (127 * (s + 1) + 1)) (TBc c (s + 1)) := KW_WD (ob_sh (by omega) (by omega)) (tbl_sh (by omega) (by omega)) ((hK.2 (s + 1) (by omega) (by omega)).2 hc) (hD.2 _ (by omega) (by omega) hc)
/-- the model's look at a SHELF: both refusals -/
theorem R_shelf {x s : Int} {t t3 t4 : SG} {MM : MR} (hI : IVT σ) (hx : QX σ t s) (e3 : t3 = up t 161 1 0) (e4 : t4 = up t3 161 0 0) (hM : KM σ 0 c) (hs : (s = 2 ∧ ¬ (0 ≤ x ∧ x < 4)) ∨ (s = 8 ∧ (0 ≤ x ∧ x < 4) ∧ c (127 * (x + 1)) = 0)) {F : Int → SG → Prop} {R : SG → Prop} (hR2 : s = 2 → Q 0 t4) (hR8 : s = 8 → 0 ≤ x → x < 4 → Q 1 t4) : Tri (d + 2) M_R_isShelf [vI x] t4 Q := by
  refine R_isShelf_s (fun y1 y2 => ?_) (fun y => ?_)
  · rcases hs with h | h
    · exact absurd ⟨y1, y2⟩ h.2
    · exact hR8 h.1 y1 y2
  · rcases hs with h | h
    · exact hR2 h.1
    · exact absurd h.2.1 y
theorem c_take {x : Int} (hI : IVT σ) : CAL d M_X_take M_R_take [vI x] σ := by
  obtain ⟨c, hK, hM, hD, hS⟩ := hI.2.2.1
  have hW := WD7 hK hD
  have hK' := KC_n hK rfl
  have ref : ∀ s, ((s = 2 ∧ ¬ (0 ≤ x ∧ x < 4)) ∨ (s = 8 ∧ (0 ≤ x ∧ x < 4) ∧ c (127 * (x + 1)) = 0)) → Tri (d + 29) M_X_refuse [vA 0, vI s] (nrm σ) (fun r u => (r = 0 ∨ r = 1) ∧ Tri (d + 30) M_R_take [vA 161, vI x] u (fun r2 u2 => r = r2 ∧ IVT u2)) := fun s hs => X_rf (fun t e => by
    have hx := QXm hI e
    refine t_R_take (fun _ t3 e3 t4 e4 => R_isShelf_s (fun y1 y2 => ⟨fun _ => ?_, fun y => by omega⟩) (fun y => ⟨fun q => absurd rfl q, fun _ => ?_⟩))
    · have h8 : s = 8 ∧ c (127 * (x + 1)) = 0 := by rcases hs with h | h; exact absurd ⟨y1, y2⟩ h.2; exact ⟨h.1, h.2.2⟩
      refine R_isEmpty_s (KM_dr (KM_qx hM hx) (RM0 e3 e4).1) y1 y2 (fun _ => ⟨fun q => by omega, fun _ => R_nr (fun t6 h6 hO6 => ⟨rfl, no_no hI hx e3 e4 (by rw [h6, h8.1]) hO6⟩)⟩) (fun q => absurd h8.2 q)
    · have h2 : s = 2 := by rcases hs with h | h; exact h.1; exact absurd h.2.1 y
      exact R_nr (fun t6 h6 hO6 => ⟨rfl, no_no hI hx e3 e4 (by rw [h6, h2]) hO6⟩))
  refine Tri_n (t_X_take (fun _ => X_shelfTrouble_s hK' (fun hn => ⟨fun y => by omega, fun _ => ref 2 (Or.inl ⟨rfl, hn⟩)⟩) (fun y1 y2 hc => ⟨fun y => by omega, fun _ => ref 8 (Or.inr ⟨rfl, ⟨y1, y2⟩, hc⟩)⟩) (fun y1 y2 hc => ⟨fun _ => ⟨rd_of kd_9 y1 (by omega), ?_⟩, fun y => absurd rfl y⟩)))
  have hB := WDs hK hD y1 y2 hc
  rw [sh_13]
  refine Wd_copyFrom_s ob_7 (ob_sh (by omega) (by omega)) (t_X_agree (fun t2 e2 => ⟨Or.inr rfl, ?_⟩))
  have hO : Off (fun b j => (b = 7 ∧ (j = 1 ∨ j = 2)) ∨ b = 8) (nrm σ) (cpy (up (up (nrm σ) 7 1 (nrm σ (6 + 5 + 2 * (x + 1)) 1)) 7 2 (nrm σ (6 + 5 + 2 * (x + 1)) 2)) (6 + 5 + 2 * (x + 1) + 1) 0 (7 + 1) 0 125) := fun b j w => by
    unfold cpy
    rw [if_neg (by omega), up_ne (by omega), up_ne (by omega)]
  have hO12 : Off (fun b j => (b = 0 ∧ j = 0) ∨ (7 ≤ b ∧ b ≤ 8)) (nrm σ) t2 := Off_trans (Off_mono hO (fun b j q => by omega)) (by rw [e2]; exact Off_up (Or.inl ⟨rfl, rfl⟩))
  have hOa : OffN (fun b j => (b = 0 ∧ j = 0) ∨ b = 4 ∨ b = 5 ∨ (7 ≤ b ∧ b ≤ 8) ∨ (13 ≤ b ∧ b ≤ 20) ∨ (39 ≤ b ∧ b ≤ 113)) σ t2 := OffN_n (Off_mono hO12 (fun b j q => by omega))
  have hK2 : KC t2 6 (ptW c 0 (c (127 * (x + 1))) (c (127 * (x + 1) + 1)) (TBc c (x + 1))) := by
    have h1 := KC_w0 (c := c) (p := c (127 * (x + 1))) (n := c (127 * (x + 1) + 1)) (T := TBc c (x + 1)) hK' (σ' := cpy (up (up (nrm σ) 7 1 (nrm σ (6 + 5 + 2 * (x + 1)) 1)) 7 2 (nrm σ (6 + 5 + 2 * (x + 1)) 2)) (6 + 5 + 2 * (x + 1) + 1) 0 (7 + 1) 0 125) ?_ ?_ (fun q0 t0 t1 => ?_) (OffN_of (Off_mono hO (fun b j w => by omega)))
    · exact h1.off (D := fun b j => b = 0) (OffN_of (by rw [e2]; exact Off_up rfl)) (fun b j q1 q2 => by omega)
    · unfold cpy
      rw [if_neg (by omega), up_ne (by omega), up_same]; exact hB.2.1
    · unfold cpy
      rw [if_neg (by omega), up_same]; exact hB.2.2.1
    · unfold cpy
      rw [if_pos ⟨rfl, t0, by omega⟩, up_ne (by omega), up_ne (by omega), show (0 : Int) + (q0 - 0) = q0 by omega]
      exact congrFun hB.2.2.2.1 q0
  have hM2 := KM_nx hM hOa (fun j => by omega)
  refine t_R_take (fun _ t3 e3 t4 e4 => R_isShelf_s (fun _ _ => ⟨fun _ => ?_, fun y => by omega⟩) (fun y => absurd ⟨y1, y2⟩ y))
  obtain ⟨o1, o2⟩ := RM0 e3 e4
  have hM4 := KM_dr hM2 o1
  have hWs := KM_Ws hM4 hD y1 y2 hc
  refine R_isEmpty_s hM4 y1 y2 (fun q => absurd q hc) (fun _ => ⟨fun _ => ?_, fun q => absurd rfl q⟩)
  rw [w32_id (x := x + 1) (by omega) (by omega), w32_id (x := 127 * (x + 1)) (by omega) (by omega)]
  refine R_move_s kd_166 (by omega) kd_166 (by omega) (by omega) (by omega) (by omega) (by omega) (by omega) (by omega) (fun t5 hcp hO5 => ⟨rfl, ?_⟩)
  refine IVT_2 hI hOa (Off_trans (Off_mono o1 (fun b j q => Or.inl q)) (Off_mono hO5 (fun b j q => Or.inr ⟨q.1, by omega, by omega⟩))) hK2 (KM_pt0 hM4 ⟨?_, ?_, fun u u0 u1 => ?_, hWs.2.2.2⟩ (fun j jj => hO5 166 j (by omega))) (DC_pt hD hWs.2.2.2 (by omega) (by omega)) ((ST_n hI.2.2.2).off hO12 (fun x hx => by have := ech_list hx; omega)) (by rw [e2, up_same]) ((hO5 161 0 (by omega)).trans o2)
  · have := hcp 0 (by omega) (by omega)
    rw [Int.add_zero, Int.add_zero] at this
    exact this.trans hWs.1
  · exact (hcp 1 (by omega) (by omega)).trans hWs.2.1
  · have := hcp (2 + u) (by omega) (by omega)
    rw [show (0 : Int) + (2 + u) = 0 + 2 + u by omega, show 127 * (x + 1) + (2 + u) = 127 * (x + 1) + 2 + u by omega] at this
    exact this.trans (hWs.2.2.1 u u0 u1)
/-- calls that leave TRIES behind -/
theorem IVT_b {t1 t2 : SG} (hI : IVT σ) (hO1 : OffN (fun b j => DX b j ∨ (b = 0 ∧ j = 3)) σ t1) (hS : ST t1) (hO2 : Off (fun b j => DR b j ∨ (b = 161 ∧ j = 44)) t1 t2) (hb : Pb t2) (h0 : t1 0 0 = t2 161 0) : IVT t2 := by
  have e : ∀ b j, ¬ (DR b j ∨ (b = 161 ∧ j = 44)) → ¬ (DX b j ∨ (b = 0 ∧ j = 3)) → (¬ (b = 8 ∨ b = 14 ∨ b = 16 ∨ b = 18 ∨ b = 20) ∨ (0 ≤ j ∧ j < 125)) → t2 b j = σ b j := fun b j q1 q2 q3 => by rw [hO2 b j q1]; exact hO1 b j q2 q3
  have hP : P0 t2 := hI.2.1.gen (fun b j => (b = 0 ∧ j = 3) ∨ (b = 161 ∧ j = 44)) (fun b j q1 q2 => e b j (by unfold PR0 at q1; unfold DR; omega) (by unfold PR0 at q1; unfold DX; omega) (by unfold PR0 at q1; omega)) (Or.inr (fun b j q => by omega)) (Or.inl hb) (Or.inr (fun b j q => by omega)) (Or.inr (fun b j q => by omega)) (Or.inr (fun b j q => by omega)) (Or.inr (fun b j q => by omega)) (Or.inr (fun b j q => by omega)) (Or.inr (fun b j q => by omega)) (Or.inr (fun b j q => by omega)) (fun j => by omega)
  refine ⟨by rw [hO2 0 0 (by unfold DR; omega)]; exact h0, hP, hI.2.2.1.fr (Or.inl rfl) (fun b j q1 q2 q3 => e b j (by unfold DR; omega) (by unfold DX; omega) q3) (fun j q1 q2 => e 166 j (by unfold DR; omega) (by unfold DX; omega) (by omega)), hS.off hO2 (fun x hx => by have := ech_list hx; unfold DR; omega)⟩
theorem c_maps (hI : IVT σ) : CAL d M_X_maps M_R_maps [] σ := by
  obtain ⟨c, hK, hM, hD, hS⟩ := hI.2.2.1
  have hW := WD7 hK hD
  have hS0 := ST_n hI.2.2.2
  refine Tri_n (t_X_maps (Ma_look_s hW hW (Or.inl (by omega)) (Or.inl (by omega)) hS0 (fun _ _ t1 h0 h1 h2 hb hS1 hO1 => fun t2 e2 => ?_) (fun hn => absurd ⟨rfl, rfl⟩ hn)))
  have ed : decide ((0 : Int) ≠ 0) = false := rfl
  rw [ed] at h0 h1 h2 hb
  have hO12 : Off (fun b j => DL b j ∨ (b = 0 ∧ j = 3)) (nrm σ) t2 := Off_trans (Off_mono hO1 (fun b j q => Or.inl q)) (by rw [e2]; exact Off_up (Or.inr ⟨rfl, rfl⟩))
  have s3 : t2 0 3 = (FND (c 0) (c 1) (TBc c 0) (TBc c 0) false).1 := by rw [e2, up_same, h0]
  have mod : ∀ (v s : Int) t, t = up t2 0 0 s → ((FND (c 0) (c 1) (TBc c 0) (TBc c 0) false).2.2 = false → v = (FND (c 0) (c 1) (TBc c 0) (TBc c 0) false).2.1 ∧ s = 0) → ((FND (c 0) (c 1) (TBc c 0) (TBc c 0) false).2.2 = true → v = -1 ∧ s = 9) → Tri (d + 30) M_R_maps [vA 161] t (fun r2 u2 => v = r2 ∧ IVT u2) := fun v s t e hv hv9 => by
    have hOt : OffN (fun b j => DX b j ∨ (b = 0 ∧ j = 3)) σ t := OffN_trans (OffN_n (Off_mono hO12 (fun b j q => by unfold DL at q; unfold DX; omega))) (OffN_of (by rw [e]; exact Off_up (Or.inl (Or.inl ⟨rfl, rfl⟩))))
    have hSt : ST t := fun x hx => by have := ech_list hx; rw [e, up_ne (by omega), e2, up_ne (by omega)]; exact hS1 x hx
    have hMt : KM t 0 c := hM.fr (fun j => hOt 166 j (by unfold DX; omega) (by omega))
    have t03 : t 0 3 = (FND (c 0) (c 1) (TBc c 0) (TBc c 0) false).1 := by rw [e, up_ne (by omega)]; exact s3
    refine t_R_maps (fun t3 e3 t4 e4 => R_now e3 e4 hMt hD (fun t5 hR hO h05 hM5 => R_findMaps_s hR hR.1 (by omega) (by omega) (Or.inl rfl) (KM_W0 hM5 hD).2.2.1 (fun t6 f43 f45 f46 hO6 => fun t7 e7 => ?_)))
    rw [ed] at f43 f45 f46
    have hO6' : Off DR t5 t6 := Off_mono hO6 (fun b j w => by unfold DG at w; unfold DR; omega)
    have r7 : ∀ b j, (b ≠ 161 ∨ j ≠ 44) → t7 b j = t6 b j := fun b j q => by rw [e7, up_ne q]
    have hO57 : Off (fun b j => DR b j ∨ (b = 161 ∧ j = 44)) t t7 := Off_trans (Off_mono (Off_trans hO hO6') (fun b j q => Or.inl q)) (by rw [e7]; exact Off_up (Or.inr ⟨rfl, rfl⟩))
    have hPb : Pb t7 := by
      refine ⟨?_, ?_⟩
      · rw [hO57 0 3 (by unfold DR; omega), t03, e7, up_same, f43]
      · rw [hO57 0 3 (by unfold DR; omega), t03]; omega
    have s00 : t 0 0 = s := by rw [e, up_same]
    rw [r7 161 46 (by omega), r7 161 45 (by omega), f45, f46]
    have z60 : t6 161 0 = 0 := by
      rw [hO6 161 0 (by unfold DG; omega)]; exact h05
    cases hsp : (FND (c 0) (c 1) (TBc c 0) (TBc c 0) false).2.2 with
    | false =>
      obtain ⟨v1, v2⟩ := hv hsp
      exact ⟨fun _ => ⟨v1, IVT_b hI hOt hSt hO57 hPb (by rw [s00, v2, r7 161 0 (by omega), z60])⟩, fun y => absurd rfl y⟩
    | true =>
      obtain ⟨v1, v2⟩ := hv9 hsp
      refine ⟨fun y => absurd y (by decide), fun _ => R_ref (fun t8 h8 hO8 => ⟨v1, ?_⟩)⟩
      refine IVT_b hI hOt hSt (Off_trans hO57 (Off_mono hO8 (fun b j q => Or.inl q))) ⟨?_, ?_⟩ (by rw [s00, v2, h8])
      · rw [hO8 0 3 (by unfold DR; omega), hO8 161 44 (by unfold DR; omega)]; exact hPb.1
      · rw [hO8 0 3 (by unfold DR; omega)]; exact hPb.2
  have g2 : t2 78 2 = (if (FND (c 0) (c 1) (TBc c 0) (TBc c 0) false).2.2 = true then 1 else 0) := by rw [e2, up_ne (by omega)]; exact h2
  have g1 : t2 78 1 = (FND (c 0) (c 1) (TBc c 0) (TBc c 0) false).2.1 := by rw [e2, up_ne (by omega)]; exact h1
  rw [g2, g1]
  refine ⟨fun y => t_X_answer (fun _ t e => mod _ 0 t e (fun _ => ⟨rfl, rfl⟩) (fun q => by rw [if_pos q] at y; omega)), fun y => t_X_fail (fun _ t e => mod _ 9 t e (fun q => by rw [q] at y; exact absurd rfl y) (fun _ => ⟨rfl, rfl⟩))⟩
/-- a search for the first that finds one isn't spent -/
def nsp (s : MS) : Prop := ¬ (s.2.2 = true ∧ 0 < s.2.1)
theorem lcF_nsp {F : Int → (Int → Int) → Prop} {f : (Int → Int) → MS → MS} {l : Int} {xs : Int → Int} (hf : ∀ ys s, s.2.2 = false → nsp (f ys s)) : ∀ (c : Nat) (x : Int) (s : MS), nsp s → nsp (lcF F true f l xs c x s)
  | 0, _, s, h => h
  | c + 1, x, s, h => by
    unfold lcF
    by_cases g : stp true s = true
    · rw [if_pos g]; exact h
    · rw [if_neg g]
      have g1 : s.2.2 = false ∧ ¬ 0 < s.2.1 := by
        unfold stp at g
        simp at g
        exact ⟨g.1, by omega⟩
      by_cases g2 : s.1 = 200000
      · rw [if_pos g2]; exact fun w => g1.2 w.2
      · rw [if_neg g2]
        refine lcF_nsp hf c (x + 1) _ ?_
        by_cases g3 : F l (upx xs l x)
        · rw [if_pos g3]; exact hf _ _ g1.1
        · rw [if_neg g3]; exact fun w => by have := w.1; rw [show (s.1 + 1, s.2).2.2 = s.2.2 from rfl, g1.1] at this; cases this
theorem gmF_nsp {F : Int → (Int → Int) → Prop} {n : Int} {N : Nat} : ∀ (k : Nat) (xs : Int → Int) (s : MS), s.2.2 = false → nsp (gmF F true n N k xs s)
  | 0, xs, s, h => fun w => by have := w.1; rw [show (gmF F true n N 0 xs s).2.2 = s.2.2 from rfl, h] at this; cases this
  | k + 1, xs, s, h => lcF_nsp (fun ys s hs => gmF_nsp k ys s hs) _ _ _ (fun w => by have := w.1; rw [h] at this; cases this)
theorem FND_nsp {p n : Int} {T1 T2 : Int → Int} : nsp (FND p n T1 T2 true) := gmF_nsp _ _ _ rfl
theorem c_sameAs {x : Int} (hI : IVT σ) : CAL d M_X_sameAs M_R_sameAs [vI x] σ := by
  obtain ⟨c, hK, hM, hD, hS⟩ := hI.2.2.1
  have hW := WD7 hK hD
  have hK' := KC_n hK rfl
  have hS0 := ST_n hI.2.2.2
  have ref : ∀ s, ((s = 2 ∧ ¬ (0 ≤ x ∧ x < 4)) ∨ (s = 8 ∧ (0 ≤ x ∧ x < 4) ∧ c (127 * (x + 1)) = 0)) → Tri (d + 29) M_X_fail [vA 0, vI s] (nrm σ) (fun r u => Tri (d + 30) M_R_sameAs [vA 161, vI x] u (fun r2 u2 => r = r2 ∧ IVT u2)) := fun s hs => t_X_fail (fun _ t e => by
    have hx := QXm hI e
    refine t_R_sameAs (fun _ t3 e3 t4 e4 => R_isShelf_s (fun y1 y2 => ⟨fun _ => ?_, fun y => by omega⟩) (fun y => ⟨fun q => absurd rfl q, fun _ => ?_⟩))
    · have h8 : s = 8 ∧ c (127 * (x + 1)) = 0 := by rcases hs with h | h; exact absurd ⟨y1, y2⟩ h.2; exact ⟨h.1, h.2.2⟩
      refine R_isEmpty_s (KM_dr (KM_qx hM hx) (RM0 e3 e4).1) y1 y2 (fun _ => ⟨fun q => by omega, fun _ => R_ref (fun t6 h6 hO6 => ⟨rfl, no_no hI hx e3 e4 (by rw [h6, h8.1]) hO6⟩)⟩) (fun q => absurd h8.2 q)
    · have h2 : s = 2 := by rcases hs with h | h; exact h.1; exact absurd h.2.1 y
      exact R_ref (fun t6 h6 hO6 => ⟨rfl, no_no hI hx e3 e4 (by rw [h6, h2]) hO6⟩))
  refine Tri_n (t_X_sameAs (fun _ => X_shelfTrouble_s hK' (fun hn => ⟨fun y => by omega, fun _ => ref 2 (Or.inl ⟨rfl, hn⟩)⟩) (fun y1 y2 hc => ⟨fun y => by omega, fun _ => ref 8 (Or.inr ⟨rfl, ⟨y1, y2⟩, hc⟩)⟩) (fun y1 y2 hc => ⟨fun _ => ⟨rd_of kd_9 y1 (by omega), ?_⟩, fun y => absurd rfl y⟩)))
  have hB := WDs hK hD y1 y2 hc
  rw [sh_13]
  -- the model's half: v, the STATUS s, the tries n
  have mod : ∀ (v s n : Int) t1 t2 t, ST t1 → Off DL (nrm σ) t1 → t1 78 0 = n → t2 = up t1 0 3 (t1 78 0) → t = up t2 0 0 s → (0 ≤ n ∧ n ≤ 200000) → (¬ (c 0 = c (127 * (x + 1)) ∧ c 1 = c (127 * (x + 1) + 1)) → n = 0 ∧ v = 0 ∧ s = 0) → (c 0 = c (127 * (x + 1)) → c 1 = c (127 * (x + 1) + 1) → n = (FND (c 0) (c 1) (TBc c 0) (TBc c (x + 1)) true).1 ∧ (0 < (FND (c 0) (c 1) (TBc c 0) (TBc c (x + 1)) true).2.1 → v = 1 ∧ s = 0) ∧ (¬ 0 < (FND (c 0) (c 1) (TBc c 0) (TBc c (x + 1)) true).2.1 → (FND (c 0) (c 1) (TBc c 0) (TBc c (x + 1)) true).2.2 = true → v = -1 ∧ s = 9) ∧ (¬ 0 < (FND (c 0) (c 1) (TBc c 0) (TBc c (x + 1)) true).2.1 → (FND (c 0) (c 1) (TBc c 0) (TBc c (x + 1)) true).2.2 = false → v = 0 ∧ s = 0)) → Tri (d + 30) M_R_sameAs [vA 161, vI x] t (fun r2 u2 => v = r2 ∧ IVT u2) := fun v s n t1 t2 t hS1 hO1 h0 e2 e hn hu hl => by
    have hO12 : Off (fun b j => DL b j ∨ (b = 0 ∧ j = 3)) (nrm σ) t2 := Off_trans (Off_mono hO1 (fun b j q => Or.inl q)) (by rw [e2]; exact Off_up (Or.inr ⟨rfl, rfl⟩))
    have hOt : OffN (fun b j => DX b j ∨ (b = 0 ∧ j = 3)) σ t := OffN_trans (OffN_n (Off_mono hO12 (fun b j q => by unfold DL at q; unfold DX; omega))) (OffN_of (by rw [e]; exact Off_up (Or.inl (Or.inl ⟨rfl, rfl⟩))))
    have hSt : ST t := fun x hx => by have := ech_list hx; rw [e, up_ne (by omega), e2, up_ne (by omega)]; exact hS1 x hx
    have hMt : KM t 0 c := hM.fr (fun j => hOt 166 j (by unfold DX; omega) (by omega))
    have t03 : t 0 3 = n := by rw [e, up_ne (by omega), e2, up_same, h0]
    have s00 : t 0 0 = s := by rw [e, up_same]
    refine t_R_sameAs (fun _ t3 e3 t4 e4 => R_isShelf_s (fun _ _ => ⟨fun _ => ?_, fun y => by omega⟩) (fun y => absurd ⟨y1, y2⟩ y))
    obtain ⟨o1, o2⟩ := RM0 e3 e4
    have hM4 := KM_dr hMt o1
    refine R_isEmpty_s hM4 y1 y2 (fun q => absurd q hc) (fun _ => ⟨fun _ => ?_, fun q => absurd rfl q⟩)
    have fin : ∀ (r : Int) t5, t5 161 43 = n → Off DSm t4 t5 → ((r ≠ 9 ∧ v = r ∧ s = 0) ∨ (r = 9 ∧ v = -1 ∧ s = 9)) → ∀ t6, t6 = up t5 161 44 (t5 161 43) → (r ≠ 9 → v = r ∧ IVT t6) ∧ (r = 9 → Tri (d + 29) M_R_refuse [vA 161, vI 9] t6 (fun r10 σ10 => v = r10 ∧ IVT σ10)) := fun r t5 h43 hO5 hr t6 e6 => by
      have hO46 : Off (fun b j => DR b j ∨ (b = 161 ∧ j = 44)) t t6 := Off_trans (Off_mono (Off_trans o1 (Off_mono hO5 (fun b j w => by unfold DSm at w; unfold DR; omega))) (fun b j q => Or.inl q)) (by rw [e6]; exact Off_up (Or.inr ⟨rfl, rfl⟩))
      have hPb : Pb t6 := by
        refine ⟨?_, ?_⟩
        · rw [hO46 0 3 (by unfold DR; omega), t03, e6, up_same, h43]
        · rw [hO46 0 3 (by unfold DR; omega), t03]; omega
      have z6 : t6 161 0 = 0 := by rw [e6, up_ne (by omega), hO5 161 0 (by unfold DSm; omega)]; exact o2
      rcases hr with hr | hr
      · exact ⟨fun _ => ⟨hr.2.1, IVT_b hI hOt hSt hO46 hPb (by rw [s00, hr.2.2, z6])⟩, fun y => absurd y hr.1⟩
      · refine ⟨fun y => absurd hr.1 y, fun _ => R_ref (fun t8 h8 hO8 => ⟨hr.2.1, ?_⟩)⟩
        refine IVT_b hI hOt hSt (Off_trans hO46 (Off_mono hO8 (fun b j q => Or.inl q))) ⟨?_, ?_⟩ (by rw [s00, hr.2.2, h8])
        · rw [hO8 0 3 (by unfold DR; omega), hO8 161 44 (by unfold DR; omega)]; exact hPb.1
        · rw [hO8 0 3 (by unfold DR; omega)]; exact hPb.2
    refine R_same_s hM4 hD y1 y2 hc (fun hne t5 h43 hO5 => ?_) (fun el1 el2 t5 h43 hO5 => ?_)
    · obtain ⟨u1, u2, u3⟩ := hu hne
      exact fin 0 t5 (by rw [h43, u1]) hO5 (Or.inl ⟨by omega, u2, u3⟩)
    · obtain ⟨u1, u2, u3, u4⟩ := hl el1 el2
      refine fin _ t5 (by rw [h43, u1]) hO5 ?_
      by_cases g : 0 < (FND (c 0) (c 1) (TBc c 0) (TBc c (x + 1)) true).2.1
      · rw [if_pos g]; exact Or.inl ⟨by omega, u2 g⟩
      · rw [if_neg g]
        by_cases g2 : (FND (c 0) (c 1) (TBc c 0) (TBc c (x + 1)) true).2.2 = true
        · rw [if_pos g2]; exact Or.inr ⟨rfl, u3 g g2⟩
        · rw [if_neg g2]; exact Or.inl ⟨by omega, u4 g (by simpa using g2)⟩
  have ed : decide ((1 : Int) ≠ 0) = true := rfl
  refine Ma_look_s hW hB (Or.inl (by omega)) (Or.inl (by omega)) hS0 (fun el1 el2 t1 h0 h1 h2 hb hS1 hO1 => fun t2 e2 => ?_) (fun hne t1 h0 h1 h2 hS1 hO1 => fun t2 e2 => ?_)
  · rw [ed] at h0 h1 h2 hb ⊢
    have g2 : t2 78 2 = (if (FND (c 0) (c 1) (TBc c 0) (TBc c (x + 1)) true).2.2 = true then 1 else 0) := by rw [e2, up_ne (by omega)]; exact h2
    rw [g2]
    have nn := FND_nsp (p := c 0) (n := c 1) (T1 := TBc c 0) (T2 := TBc c (x + 1))
    have hnu : ∀ (v s : Int), ¬ (c 0 = c (127 * (x + 1)) ∧ c 1 = c (127 * (x + 1) + 1)) → (FND (c 0) (c 1) (TBc c 0) (TBc c (x + 1)) true).1 = 0 ∧ v = 0 ∧ s = 0 := fun v s z => absurd ⟨el1, el2⟩ z
    refine ⟨fun y => ⟨fun w => t_X_answer (fun _ t e => mod _ 0 _ t1 t2 t hS1 hO1 h0 e2 e (by omega) (hnu _ _) (fun _ _ => ⟨rfl, fun q => ?_, fun q q2 => ?_, fun _ _ => ⟨rfl, rfl⟩⟩)), fun w => t_X_answer (fun _ t e => mod _ 0 _ t1 t2 t hS1 hO1 h0 e2 e (by omega) (hnu _ _) (fun _ _ => ⟨rfl, fun _ => ⟨rfl, rfl⟩, fun q => ?_, fun q => ?_⟩))⟩, fun y => t_X_fail (fun _ t e => mod _ 9 _ t1 t2 t hS1 hO1 h0 e2 e (by omega) (hnu _ _) (fun _ _ => ⟨rfl, fun q => ?_, fun _ _ => ⟨rfl, rfl⟩, fun _ q => ?_⟩))⟩
    · rw [if_pos q] at w; omega
    · rw [if_pos q2] at y; omega
    · rw [if_neg q] at w; exact absurd rfl w
    · rw [if_neg q] at w; exact absurd rfl w
    · have w : (FND (c 0) (c 1) (TBc c 0) (TBc c (x + 1)) true).2.2 = true := by
        by_cases g : (FND (c 0) (c 1) (TBc c 0) (TBc c (x + 1)) true).2.2 = true
        · exact g
        · rw [if_neg g] at y; exact absurd rfl y
      exact absurd ⟨w, q⟩ nn
    · rw [q] at y; exact absurd rfl y
  · rw [show t2 78 2 = 0 by rw [e2, up_ne (by omega)]; exact h2]
    exact ⟨fun _ => ⟨fun _ => t_X_answer (fun _ t e => mod _ 0 0 t1 t2 t hS1 hO1 h0 e2 e (by omega) (fun _ => ⟨rfl, rfl, rfl⟩) (fun u1 u2 => absurd ⟨u1, u2⟩ hne)), fun y => absurd rfl y⟩, fun y => absurd rfl y⟩
end CSH
