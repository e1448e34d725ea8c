/-! ===== BASES changed: the class ===== -/
section CHB
variable {d : Nat} {σ : SG} {Q : Int → SG → Prop}
theorem EC.rowA {p n : Int} {E : ES} (h : EC σ 107 p (2 * n) E) {l z : Int} (l0 : 0 ≤ l) (l1 : l < 2 * n) (hl : E.1 l = true) (z0 : 0 ≤ z) (z1 : z < 2 * n) : σ 108 (l * 25 + z) = E.2 l z ∧ 0 ≤ E.2 l z ∧ E.2 l z < p := by
  obtain ⟨a1, a2, a3, a4, a5, a6, a7, _, a9, hEW, hPR⟩ := h
  exact ⟨a9 l z l0 l1 hl z0 z1, (hEW l l0 l1 hl).1 z z0 z1⟩
theorem Wo_tellByNew_s {p n a b : Int} {E : ES} {w : Int → Int → Int → Int} {u : Int → Int} (hM : WN σ 105 p n w) (hpn : PN p n) (hE : EC σ 107 p (2 * n) E) (hl : ∀ l, 0 ≤ l → l < n → E.1 l = true) (hu : ∀ l, 0 ≤ l → l < n → σ 112 l = u l ∧ 0 ≤ u l ∧ u l < p) (a0 : 0 ≤ a) (ab : a < b) (bm : b < n)
    (h : ∀ σ', WN σ' 105 p n (fun x y z => if x = a ∧ y = b ∧ 0 ≤ z ∧ z < n then sR (fun l => u l * E.2 l (n + z)) 0 n else w x y z) → Off (fun b j => b = 106) σ σ' → Q 0 σ') : Tri (d + 3) M_Wo_tellByNew [vA 104, vI a, vI b] σ Q := by
  obtain ⟨c1, c2, c3, c4⟩ := hpn.b
  refine t_Wo_tellByNew (fun _ _ => ?_)
  rw [hM.2.1]
  refine loop_up (P := fun k t => L (d + 3) M_Wo_tellByNew 11 [vA 104, vI a, vI b, vI n, vI k, vU, vU] [] t Q) (fun k t => 0 ≤ k ∧ (∀ q, 0 ≤ q → q < 125 → t 106 q = MK p n (fun x y z => if x = a ∧ y = b ∧ 0 ≤ z ∧ z < k then sR (fun l => u l * E.2 l (n + z)) 0 n else w x y z) q) ∧ Off (fun b j => b = 106) σ t) n ?_ ?_ 0 (by omega) σ ⟨by omega, fun q q0 q1 => ?_, Off_rfl⟩
  · rintro t ⟨_, ht, hO⟩
    exact s_Wo_tellByNew_11 ⟨fun _ => h t ⟨(hO 105 1 (by omega)).trans hM.1, (hO 105 2 (by omega)).trans hM.2.1, ht⟩ hO, fun q => by omega⟩
  · rintro k t hk2 ⟨k0, ht, hO⟩ ih
    refine s_Wo_tellByNew_11 ⟨fun q => by omega, fun _ => ?_⟩
    have hEt : EC t 107 p (2 * n) E := hE.cg (fun k => hO 107 k (by omega)) (fun k => hO 108 k (by omega))
    have h25 : t 107 0 = 25 := hEt.2.1
    have hsb : ∀ m, 0 ≤ m → m ≤ n → -300 ≤ sR (fun l => u l * E.2 l (n + k)) 0 m ∧ sR (fun l => u l * E.2 l (n + k)) 0 m ≤ 300 := fun m m0 m1 => by
      have := sR_bound (f := fun l => u l * E.2 l (n + k)) (lo := 0) (hi := m) (A := 0) (B := 36) (by omega) (by omega) (fun l l0 l1 => by
        have g1 := hu l l0 (by omega)
        have g2 := (hEt.rowA (z := n + k) l0 (by omega) (hl l l0 (by omega)) (by omega) (by omega)).2
        exact mul_small g1.2.1 (show u l ≤ 6 by omega) g2.1 (show _ ≤ (6 : Int) by omega)) (n := 5) (by omega) (by omega)
      omega
    refine loop_up (P := fun l (v : Int) => L (d + 3) M_Wo_tellByNew 23 [vA 104, vI a, vI b, vI n, vI k, vI v, vI l] [] t Q) (fun l v => 0 ≤ l ∧ v = sR (fun l => u l * E.2 l (n + k)) 0 l) n ?_ ?_ 0 (by omega) 0 ⟨by omega, (sR_nil (by omega)).symm⟩
    · rintro v ⟨_, rfl⟩
      refine s_Wo_tellByNew_23 ⟨fun _ => ?_, fun q => by omega⟩
      have hb := hsb n (by omega) (by omega)
      refine Wd_setMK ob_105 ((hO 105 1 (by omega)).trans hM.1) ((hO 105 2 (by omega)).trans hM.2.1) hpn ht a0 ab bm k0 hk2 (by omega) (fun t4 ht4 hO4 => ?_)
      rw [w32_id (by omega) (by omega)]
      refine ih t4 ⟨by omega, fun q q0 q1 => ?_, Off_trans hO (Off_mono hO4 (fun b j q => by omega))⟩
      have := ht4 q q0 q1
      rw [show (105 : Int) + 1 = 106 from rfl] at this
      rw [this]
      refine MK_cg (fun x y z x0 xy ym z0 zm => ?_) q0 q1
      unfold w3
      show (if x = a ∧ y = b ∧ z = k then sR (fun l => u l * E.2 l (n + k)) 0 n else if x = a ∧ y = b ∧ 0 ≤ z ∧ z < k then sR (fun l => u l * E.2 l (n + z)) 0 n else w x y z) = _
      by_cases g : x = a ∧ y = b ∧ z = k
      · rw [if_pos g, if_pos (by omega), g.2.2]
      · rw [if_neg g]
        by_cases g2 : x = a ∧ y = b ∧ 0 ≤ z ∧ z < k
        · rw [if_pos g2, if_pos (by omega)]
        · rw [if_neg g2, if_neg (by omega)]
    · rintro l v hln ⟨l0, rfl⟩ ih2
      have g1 := hu l l0 hln
      obtain ⟨g3, g2⟩ := hEt.rowA (z := n + k) l0 (by omega) (hl l l0 hln) (by omega) (by omega)
      have hm := mul_small g1.2.1 (show u l ≤ 6 by omega) g2.1 (show _ ≤ (6 : Int) by omega)
      have hb := hsb l l0 (by omega)
      refine s_Wo_tellByNew_23 ⟨fun q => by omega, fun _ => ?_⟩
      rw [h25, w32_id (x := l * 25) (by omega) (by omega), w32_id (x := l * 25 + n) (by omega) (by omega), w32_id (x := l * 25 + n + k) (by omega) (by omega), show l * 25 + n + k = l * 25 + (n + k) by omega, g3, hO 112 l (by omega), g1.1, w32_id (x := u l * E.2 l (n + k)) (by omega) (by omega), w32_id (x := _ + _) (by omega) (by omega), w32_id (x := l + 1) (by omega) (by omega)]
      exact ⟨⟨l0, by omega⟩, ⟨by omega, by omega⟩, ih2 _ ⟨by omega, by rw [sR_succ l0]⟩⟩
  · have := hM.2.2 q q0 q1
    rw [show (105 : Int) + 1 = 106 from rfl] at this
    rw [this]
    refine MK_cg (fun x y z x0 xy ym z0 zm => ?_) q0 q1
    rw [if_neg (by omega)]
theorem Wo_changeBase_s {a p n : Int} {T : Int → Int} {B : Int → Int → Int} (hW : WD σ a p n T) (ha : a ≤ 20) (hs : σ 107 0 = 25) (hB : ∀ i c, 0 ≤ i → i < n → 0 ≤ c → c < n → σ 110 (i * 5 + c) = B i c ∧ 0 ≤ B i c ∧ B i c < p)
    (h1 : (∀ l, 0 ≤ l → l < n → (AUG p n B).1 l = true) → ∀ σ', WN σ' a p n (CHG p n T B (fun l k => (AUG p n B).2 l (n + k))) → Off (fun b j => (b = a ∧ (j = 1 ∨ j = 2)) ∨ b = a + 1 ∨ (b = 105 ∧ (j = 1 ∨ j = 2)) ∨ b = 106 ∨ (b = 107 ∧ 3 ≤ j ∧ j ≤ 6) ∨ b = 108 ∨ b = 109 ∨ b = 111 ∨ b = 112) σ σ' → Q 1 σ')
    (h0 : ¬ (∀ l, 0 ≤ l → l < n → (AUG p n B).1 l = true) → ∀ σ', Off (fun b j => (b = 107 ∧ 3 ≤ j ∧ j ≤ 6) ∨ b = 108 ∨ b = 109 ∨ b = 111) σ σ' → Q 0 σ') : Tri (d + 4) M_Wo_changeBase [vA 104, vA a] σ Q := by
  obtain ⟨b1, b2, b3, b4⟩ := hW.pn.b
  obtain ⟨ho, hp, hn, hTe, hT⟩ := id hW
  obtain ⟨kw1, _, _⟩ := kd_world ho
  refine t_Wo_changeBase ⟨ho, ho, ?_⟩
  rw [hp, hn, w32_id (by omega) (by omega)]
  refine Ec_begin_s (e := 107) ob_107 hs hW.pn.pr (by omega) (show 2 * n ≤ 25 by omega) (fun s1 hE1 hO1 => ?_)
  refine loop_up (P := fun i t => L (d + 4) M_Wo_changeBase 21 [vA 104, vA a, vI n, vI i, vU] [] t Q)
    (fun i t => 0 ≤ i ∧ EC t 107 p (2 * n) (lp (fun i E => ins p (2 * n) E (aug B n i)) 0 i E0) ∧ Off (fun b j => (b = 107 ∧ 3 ≤ j ∧ j ≤ 6) ∨ b = 108 ∨ b = 109 ∨ b = 111) σ t) n ?_ ?_ 0 (by omega) s1 ⟨by omega, by rw [lp_nil (by omega)]; exact hE1, Off_mono hO1 (fun b j q => by omega)⟩
  · rintro t ⟨_, hE, hO⟩
    change EC t 107 p (2 * n) (AUG p n B) at hE
    obtain ⟨a1, a2, a3, a4, a5, a6, a7, ⟨l1, l2, l3⟩, a9, hEW, hPR⟩ := id hE
    have hpw : (2 : Int) ^ (2 * n).toNat ≤ 1024 := by
      have : n = 1 ∨ n = 2 ∨ n = 3 ∨ n = 4 ∨ n = 5 := by omega
      rcases this with rfl | rfl | rfl | rfl | rfl <;> decide
    have hfull : (and32 (t 107 6) (w32 ((shl32 1 n) - 1)) = w32 ((shl32 1 n) - 1)) ↔ ∀ l, 0 ≤ l → l < n → (AUG p n B).1 l = true := (low_full l1 (by omega) (by omega) b4).trans ⟨fun z l l0 l1' => by rw [← l3 l l0 (by omega)]; exact z l l0 l1', fun z l l0 l1' => by rw [l3 l l0 (by omega)]; exact z l l0 l1'⟩
    refine s_Wo_changeBase_21 ⟨fun _ => ⟨fun q => ⟨ho, ?_⟩, fun q => h0 (fun z => q (hfull.mpr z)) t hO⟩, fun q => by omega⟩
    have hl := hfull.mp q
    rw [hO a 1 (by omega), hp]
    refine Wd_empty_s hW.pn (fun s2 hM2 hO2 => ?_)
    have hO2' : Off (fun b j => (b = 105 ∧ (j = 1 ∨ j = 2)) ∨ b = 106 ∨ (b = 107 ∧ 3 ≤ j ∧ j ≤ 6) ∨ b = 108 ∨ b = 109 ∨ b = 111) σ s2 := Off_trans (Off_mono hO (fun b j q => by omega)) (Off_mono hO2 (fun b j q => by omega))
    have hcur : ∀ t, Off (fun b j => b = 106 ∨ b = 112) s2 t → WD t a p n T ∧ EC t 107 p (2 * n) (AUG p n B) ∧ (∀ i, 0 ≤ i → i < n → ∀ c, 0 ≤ c → c < n → t 110 (i * 5 + c) = B i c ∧ 0 ≤ B i c ∧ B i c < p) := fun t2 ht => ⟨hW.cg (fun k => (ht a k (by omega)).trans (hO2' a k (by omega))) (fun k => (ht (a + 1) k (by omega)).trans (hO2' (a + 1) k (by omega))), hE.cg (fun k => (ht 107 k (by omega)).trans (hO2 107 k (by omega))) (fun k => (ht 108 k (by omega)).trans (hO2 108 k (by omega))), fun i i0 i1 c c0 c1' => by
      rw [ht 110 _ (by omega), hO2' 110 _ (by omega)]; exact hB i c i0 i1 c0 c1'⟩
    generalize hvv : CHG p n T B (fun l k => (AUG p n B).2 l (n + k)) = V at h1
    refine loop_up (P := fun x t => L (d + 4) M_Wo_changeBase 135 [vA 104, vA a, vI n, vI x, vU] [] t Q)
      (fun x t => 0 ≤ x ∧ WN t 105 p n (fun i j k => if i < x then V i j k else 0) ∧ Off (fun b j => b = 106 ∨ b = 112) s2 t) n ?_ ?_ 0 (by omega) s2 ⟨by omega, ⟨hM2.1, hM2.2.1, fun q q0 q1 => by
        rw [hM2.2.2 q q0 q1]
        refine MK_cg (fun i j k i0 ij jm k0 km => ?_) q0 q1
        rw [if_neg (by omega)]⟩, Off_rfl⟩
    · rintro t ⟨_, hN, hO⟩
      refine s_Wo_changeBase_135 ⟨fun _ => ⟨ho, Wd_back_s (v := V) ho ha ⟨hN.1, hN.2.1, fun q q0 q1 => ?_⟩ (fun t2 hN2 hO3 => h1 hl t2 hN2 ?_)⟩, fun q => by omega⟩
      · rw [hN.2.2 q q0 q1]
        refine MK_cg (fun i j k i0 ij jm k0 km => ?_) q0 q1
        rw [if_pos (by omega)]
      · exact Off_trans (Off_mono hO2' (fun b j q => by omega)) (Off_trans (Off_mono hO (fun b j q => by omega)) (Off_mono hO3 (fun b j q => by omega)))
    · rintro x t hx ⟨x0, hN, hO⟩ ih
      refine s_Wo_changeBase_135 ⟨fun q => by omega, fun _ => ?_⟩
      rw [w32_id (by omega) (by omega)]
      refine loop_up (P := fun y t => L (d + 4) M_Wo_changeBase 145 [vA 104, vA a, vI n, vI x, vI y] [] t Q)
        (fun y t => x + 1 ≤ y ∧ WN t 105 p n (fun i j k => if i < x ∨ (i = x ∧ j < y) then V i j k else 0) ∧ Off (fun b j => b = 106 ∨ b = 112) s2 t) n ?_ ?_ (x + 1) (by omega) t ⟨by omega, ⟨hN.1, hN.2.1, fun q q0 q1 => by
          rw [hN.2.2 q q0 q1]
          refine MK_cg (fun i j k i0 ij jm k0 km => ?_) q0 q1
          by_cases g : i < x
          · rw [if_pos g, if_pos (Or.inl g)]
          · rw [if_neg g, if_neg (by omega)]⟩, hO⟩
      · rintro t2 ⟨_, hN2, hO2t⟩
        refine s_Wo_changeBase_145 ⟨fun _ => ?_, fun q => by omega⟩
        rw [w32_id (by omega) (by omega)]
        refine ih t2 ⟨by omega, ⟨hN2.1, hN2.2.1, fun q q0 q1 => ?_⟩, hO2t⟩
        rw [hN2.2.2 q q0 q1]
        refine MK_cg (fun i j k i0 ij jm k0 km => ?_) q0 q1
        by_cases g : i < x ∨ (i = x ∧ j < n)
        · rw [if_pos g, if_pos (by omega)]
        · rw [if_neg g, if_neg (by omega)]
      · rintro y t2 hy ⟨y0, hN2, hO2t⟩ ih2
        obtain ⟨hW2, hE2, hB2⟩ := hcur t2 hO2t
        refine s_Wo_changeBase_145 ⟨fun q => by omega, fun _ => ⟨ho, ?_⟩⟩
        rw [w32_id (x := x * 5) (by omega) (by omega), w32_id (x := y * 5) (by omega) (by omega), w32_id (x := y + 1) (by omega) (by omega)]
        refine Wd_br_s hW2 kd_110 kd_110 (by omega) kd_112 (by omega) (by omega) (by omega) (by omega) (by omega) (by omega) (by omega) (by omega) (by omega) (by omega) (by omega) (hB2 x x0 hx) (hB2 y (by omega) hy) (fun t3 hb3 hO3 => ?_)
        have hO4' : Off (fun b j => b = 106 ∨ b = 112) s2 t3 := Off_trans hO2t (Off_mono hO3 (fun b j q => by omega))
        refine Wo_tellByNew_s (hN2.fr (fun k => hO3 105 k (by omega)) (fun k => hO3 106 k (by omega))) hW.pn (hcur t3 hO4').2.1 hl (fun l l0 l1 => hb3 l l0 l1) x0 (by omega) hy (fun t5 hN5 hO5 => ih2 t5 ⟨by omega, ⟨hN5.1, hN5.2.1, fun q q0 q1 => ?_⟩, Off_trans hO4' (Off_mono hO5 (fun b j q => by omega))⟩)
        rw [hN5.2.2 q q0 q1]
        refine MK_cg (fun i j k i0 ij jm k0 km => ?_) q0 q1
        by_cases g : i = x ∧ j = y
        · rw [if_pos ⟨g.1, g.2, k0, km⟩, if_pos (by omega), g.1, g.2, ← hvv]; rfl
        · rw [if_neg (fun z => g ⟨z.1, z.2.1⟩)]
          by_cases g2 : i < x ∨ (i = x ∧ j < y)
          · rw [if_pos g2, if_pos (by omega)]
          · rw [if_neg g2, if_neg (by omega)]
  · rintro i t hi ⟨i0, hE, hO⟩ ih
    refine s_Wo_changeBase_21 ⟨fun q => by omega, fun _ => ?_⟩
    refine loop_up (P := fun c t => L (d + 4) M_Wo_changeBase 29 [vA 104, vA a, vI n, vI i, vI c] [] t Q)
      (fun c t2 => 0 ≤ c ∧ (∀ k, 0 ≤ k → k < c → t2 111 k = aug B n i k ∧ t2 111 (n + k) = aug B n i (n + k)) ∧ Off (fun b j => b = 111) t t2) n ?_ ?_ 0 (by omega) t ⟨by omega, fun k _ _ => by omega, Off_rfl⟩
    · rintro t2 ⟨_, hv, hO2⟩
      refine s_Wo_changeBase_29 ⟨fun _ => ?_, fun q => by omega⟩
      have hval : ∀ c, 0 ≤ c → c < 2 * n → t2 111 (0 + c) = aug B n i c := fun c c0 c1 => by
        rw [Int.zero_add]
        by_cases g : c < n
        · exact (hv c c0 g).1
        · have := (hv (c - n) (by omega) (by omega)).2
          rw [show n + (c - n) = c by omega] at this
          exact this
      refine Ec_add_s (hE.cg (fun k => hO2 107 k (by omega)) (fun k => hO2 108 k (by omega))) kd_111 (by omega) (by omega) (by omega) (by omega) (fun c c0 c1 => ?_) (fun r t3 hE3 _ hO3 => ?_)
      · rw [hval c c0 c1]
        unfold aug
        split
        · rename_i g; exact (hB i c i0 hi c0 g).2
        · split <;> omega
      · rw [w32_id (by omega) (by omega)]
        refine ih t3 ⟨by omega, ?_, Off_trans hO (Off_trans (Off_mono hO2 (fun b j q => by omega)) (Off_mono hO3 (fun b j q => by omega)))⟩
        rw [lp_succ i0]
        exact hE3.to (ESm.rfl'.insv (by omega) hval)
    · rintro c t2 hc ⟨c0, hv, hO2⟩ ih2
      refine s_Wo_changeBase_29 ⟨fun q => by omega, fun _ => ?_⟩
      rw [w32_id (x := i * 5) (by omega) (by omega), w32_id (x := i * 5 + c) (by omega) (by omega), w32_id (x := n + c) (by omega) (by omega), w32_id (x := c + 1) (by omega) (by omega)]
      have eB : t2 110 (i * 5 + c) = B i c := by rw [hO2 110 _ (by omega), hO 110 _ (by omega)]; exact (hB i c i0 hi c0 hc).1
      have aug1 : aug B n i c = B i c := by unfold aug; rw [if_pos hc]
      have go : ∀ v t3, v = aug B n i (n + c) → t3 = up (up t2 111 c (B i c)) 111 (n + c) v → L (d + 4) M_Wo_changeBase 29 [vA 104, vA a, vI n, vI i, vI (c + 1)] [] t3 Q := fun v t3 hv3 e3 => by
        refine ih2 t3 ⟨by omega, fun k k0 k1 => ?_, fun b j hb => by rw [e3, up_ne (by omega), up_ne (by omega)]; exact hO2 b j hb⟩
        by_cases g : k = c
        · subst g
          refine ⟨?_, ?_⟩
          · rw [e3, up_ne (by omega), up_same]; exact aug1.symm
          · rw [e3, up_same]; exact hv3
        · refine ⟨?_, ?_⟩
          · rw [e3, up_ne (by omega), up_ne (by omega)]; exact (hv k k0 (by omega)).1
          · rw [e3, up_ne (by omega), up_ne (by omega)]; exact (hv k k0 (by omega)).2
      refine ⟨⟨by omega, by omega⟩, ⟨by omega, by omega⟩, fun s3 e3 => ⟨fun q => ⟨⟨by omega, by omega⟩, fun s5 e5 => go 0 s5 ?_ (by rw [e5, e3, eB])⟩, fun q => ⟨⟨by omega, by omega⟩, fun s5 e5 => go 1 s5 ?_ (by rw [e5, e3, eB])⟩⟩⟩
      · unfold aug; rw [if_neg (by omega), if_neg (by omega)]
      · unfold aug; rw [if_neg (by omega), if_pos (by omega)]
end CHB
