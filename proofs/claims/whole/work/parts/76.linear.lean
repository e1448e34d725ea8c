/-! ===== BASES changed: both told alike ===== -/
def BOK (p n : Int) (B : Int → Int → Int) : Prop := ∀ l, 0 ≤ l → l < n → (AUG p n B).1 l = true
def BCH (p n : Int) (T : Int → Int) (B : Int → Int → Int) : Int → Int → Int → Int := CHG p n T B (fun l k => (AUG p n B).2 l (n + k))
theorem BCH_inv {p n : Int} {T : Int → Int} {B P : Int → Int → Int} (hp : PR p) (hn : 0 ≤ n) (hI : INV p n B P) {i j k : Int} (k0 : 0 ≤ k) (k1 : k < n) : CHG p n T B P i j k = BCH p n T B i j k := by
  unfold BCH CHG
  apply sR_congr
  intro l l0 l1
  show _ = br p n T (B i) (B j) l * (AUG p n B).2 l (n + k)
  rw [(AUG_ok hp hn hI).2 l k l0 l1 k0 k1]
theorem aug_cg {B B' : Int → Int → Int} {n i c : Int} (h : ∀ c, 0 ≤ c → c < n → B i c = B' i c) (c0 : 0 ≤ c) : aug B n i c = aug B' n i c := by
  unfold aug
  by_cases g : c < n
  · rw [if_pos g, if_pos g, h c c0 g]
  · rw [if_neg g, if_neg g]
theorem AUG_cg {p n : Int} {B B' : Int → Int → Int} (hn : 0 ≤ n) (h : ∀ i c, 0 ≤ i → i < n → 0 ≤ c → c < n → B i c = B' i c) : ESm (2 * n) (AUG p n B) (AUG p n B') := by
  unfold AUG
  exact lp_rel (R := ESm (2 * n)) ESm.rfl' (fun k t t' k0 k1 ht => ht.insv (by omega) (fun c c0 c1 => aug_cg (fun c c0 c1 => h k c k0 k1 c0 c1) c0))
section LIN
variable {d : Nat} {σ : SG} {Q : Int → SG → Prop}
theorem R_changeInto_s {p n : Int} {T : Int → Int} {B : Int → Int → Int} (hR : RW σ p n T) (hB : ∀ i c, 0 ≤ i → i < n → 0 ≤ c → c < n → σ 193 (5 * i + c) = B i c ∧ 0 ≤ B i c ∧ B i c < p)
    (h1 : BOK p n B → ∀ σ', σ' 168 0 = p → σ' 168 1 = n → (∀ t, 0 ≤ t → t < 125 → σ' 168 (0 + 2 + t) = MK p n (BCH p n T B) t) → Off (fun b j => b = 168 ∨ b = 178 ∨ b = 190 ∨ b = 194) σ σ' → Q 1 σ')
    (h0 : ¬ BOK p n B → ∀ σ', Off (fun b j => b = 168 ∨ b = 178 ∨ b = 190 ∨ b = 194) σ σ' → Q 0 σ') : Tri (d + 4) M_R_changeInto [vA 161] σ Q := by
  obtain ⟨b1, b2, b3, b4⟩ := hR.1.1.b
  have hfr : ∀ t, Off (fun b j => b = 168 ∨ b = 178 ∨ b = 190 ∨ b = 194) σ t → RW t p n T := fun t ht => hR.fr (fun k _ _ => ht 161 k (by omega)) (fun k => ht 166 k (by omega)) (fun k => ht 196 k (by omega))
  refine t_R_changeInto (R_turnsBack_s hR hB (fun s1 hI hO1 => ⟨fun _ => ?_, fun q => by omega⟩) (fun hS s1 hO1 => ⟨fun q => absurd rfl q, fun _ => h0 (AUG_no hR.1.1.pr (by omega) hS) s1 (Off_mono hO1 (fun b j q => by omega))⟩))
  have hO1' : Off (fun b j => b = 168 ∨ b = 178 ∨ b = 190 ∨ b = 194) σ s1 := Off_mono hO1 (fun b j q => by omega)
  rw [(hfr s1 hO1').2.1, (hfr s1 hO1').2.2.1]
  refine R_clear_s (by omega) kd_168 (by omega) (by omega) (by omega) (fun s2 z0 z1 z2 hO2 => ?_)
  have hO2' : Off (fun b j => b = 168 ∨ b = 178 ∨ b = 190 ∨ b = 194) σ s2 := Off_trans hO1' (Off_mono hO2 (fun b j q => by omega))
  have hok : BOK p n B := (AUG_ok hR.1.1.pr (by omega) hI).1
  have hP : ∀ t, Off (fun b j => b = 178 ∨ (b = 168 ∧ 2 ≤ j)) s2 t → ∀ l k, 0 ≤ l → l < n → 0 ≤ k → k < n → t 194 (5 * l + k) = mt s1 194 l k ∧ 0 ≤ mt s1 194 l k ∧ mt s1 194 l k < p := fun t ht l k l0 l1 k0 k1 => ⟨by rw [ht 194 _ (by omega), hO2 194 _ (by omega)]; rfl, (hI.1 l k l0 l1 k0 k1)⟩
  have hBt : ∀ t, Off (fun b j => b = 178 ∨ (b = 168 ∧ 2 ≤ j)) s2 t → ∀ i c, 0 ≤ i → i < n → 0 ≤ c → c < n → t 193 (5 * i + c) = B i c ∧ 0 ≤ B i c ∧ B i c < p := fun t ht i c i0 i1 c0 c1 => by
    rw [ht 193 _ (by omega), hO2 193 _ (by omega), hO1 193 _ (by omega)]; exact hB i c i0 i1 c0 c1
  have hfr2 : ∀ t, Off (fun b j => b = 178 ∨ (b = 168 ∧ 2 ≤ j)) s2 t → Off (fun b j => b = 168 ∨ b = 178 ∨ b = 190 ∨ b = 194) σ t := fun t ht => Off_trans hO2' (Off_mono ht (fun b j q => by omega))
  generalize hV : CHG p n T B (mt s1 194) = V
  have hVk : ∀ t, 0 ≤ t → t < 125 → MK p n V t = MK p n (BCH p n T B) t := fun t t0 t1 => MK_cg (fun i j k i0 ij jm k0 km => by rw [← hV]; exact BCH_inv hR.1.1.pr (by omega) hI k0 km) t0 t1
  refine loop_up (P := fun i t => L (d + 4) M_R_changeInto 27 [vA 161, vI i, vU, vU, vU, vU] [] t Q) (fun i t => 0 ≤ i ∧ (∀ q, 0 ≤ q → q < 125 → t 168 (0 + 2 + q) = MK p n (wl V (fun _ _ _ => 0) i (i + 1) 0) q) ∧ Off (fun b j => b = 178 ∨ (b = 168 ∧ 2 ≤ j)) s2 t) n ?_ ?_ 0 (by omega) s2 ⟨by omega, fun q q0 q1 => by rw [z2 q q0 q1, wl_0 q0 q1, MK_0], Off_rfl⟩
  · rintro t ⟨_, ht, hO⟩
    refine s_R_changeInto_27 ⟨fun _ => h1 hok t ((hO 168 0 (by omega)).trans z0) ((hO 168 1 (by omega)).trans z1) (fun q q0 q1 => by rw [ht q q0 q1, wl_m (Int.le_refl _) q0 q1]; exact hVk q q0 q1) (hfr2 t hO), fun q => ?_⟩
    rw [(hfr t (hfr2 t hO)).2.2.1] at q; omega
  · rintro i t hi ⟨i0, ht, hO⟩ ih
    refine s_R_changeInto_27 ⟨fun q => by rw [(hfr t (hfr2 t hO)).2.2.1] at q; omega, fun _ => ?_⟩
    rw [w32_id (by omega) (by omega)]
    refine loop_up (P := fun j t => L (d + 4) M_R_changeInto 39 [vA 161, vI i, vI j, vU, vU, vU] [] t Q) (fun j t => i + 1 ≤ j ∧ (∀ q, 0 ≤ q → q < 125 → t 168 (0 + 2 + q) = MK p n (wl V (fun _ _ _ => 0) i j 0) q) ∧ Off (fun b j => b = 178 ∨ (b = 168 ∧ 2 ≤ j)) s2 t) n ?_ ?_ (i + 1) (by omega) t ⟨by omega, ht, hO⟩
    · rintro t2 ⟨_, ht2, hO2t⟩
      refine s_R_changeInto_39 ⟨fun _ => ?_, fun q => by rw [(hfr t2 (hfr2 t2 hO2t)).2.2.1] at q; omega⟩
      rw [w32_id (by omega) (by omega)]
      exact ih t2 ⟨by omega, fun q q0 q1 => by rw [ht2 q q0 q1]; exact wl_j (Int.le_refl _) q0 q1, hO2t⟩
    · rintro j t2 hj ⟨j0, ht2, hO2t⟩ ih2
      refine s_R_changeInto_39 ⟨fun q => by rw [(hfr t2 (hfr2 t2 hO2t)).2.2.1] at q; omega, fun _ => ?_⟩
      rw [w32_id (x := 5 * i) (by omega) (by omega), w32_id (x := 5 * j) (by omega) (by omega)]
      refine R_bracketOf_s (hfr t2 (hfr2 t2 hO2t)) kd_193 kd_193 (by omega) kd_178 (by omega) (by omega) (by omega) (by omega) (by omega) (by omega) (by omega) (by omega) (by omega) (by omega) (by omega) (by omega) (fun c c0 c1 => by have := hBt t2 hO2t i c i0 hi c0 c1; rw [this.1]; exact this.2) (fun c c0 c1 => by have := hBt t2 hO2t j c (by omega) hj c0 c1; rw [this.1]; exact this.2) (fun t3 hb3 hO3 => ?_)
      have hu3 : ∀ c, 0 ≤ c → c < n → t3 178 c = br p n T (B i) (B j) c := fun c c0 c1 => (hb3 c c0 c1).trans (br_cg (fun c c0 c1 => (hBt t2 hO2t i c i0 hi c0 c1).1) (fun c c0 c1 => (hBt t2 hO2t j c (by omega) hj c0 c1).1))
      have hO3t : Off (fun b j => b = 178 ∨ (b = 168 ∧ 2 ≤ j)) s2 t3 := Off_trans hO2t (Off_mono hO3 (fun b j q => by omega))
      refine loop_up (P := fun k t => L (d + 4) M_R_changeInto 71 [vA 161, vI i, vI j, vI k, vU, vU] [] t Q) (fun k t => 0 ≤ k ∧ (∀ q, 0 ≤ q → q < 125 → t 168 (0 + 2 + q) = MK p n (wl V (fun _ _ _ => 0) i j k) q) ∧ (∀ c, 0 ≤ c → c < n → t 178 c = br p n T (B i) (B j) c) ∧ Off (fun b j => b = 178 ∨ (b = 168 ∧ 2 ≤ j)) s2 t) n ?_ ?_ 0 (by omega) t3 ⟨by omega, fun q q0 q1 => by rw [hO3 168 _ (by omega)]; exact ht2 q q0 q1, hu3, hO3t⟩
      · rintro t4 ⟨_, ht4, hu4, hO4⟩
        refine s_R_changeInto_71 ⟨fun _ => ?_, fun q => by rw [(hfr t4 (hfr2 t4 hO4)).2.2.1] at q; omega⟩
        rw [w32_id (by omega) (by omega)]
        exact ih2 t4 ⟨by omega, fun q q0 q1 => by rw [ht4 q q0 q1]; exact wl_k (Int.le_refl _) q0 q1, hO4⟩
      · rintro k t4 hk ⟨k0, ht4, hu4, hO4⟩ ih4
        refine s_R_changeInto_71 ⟨fun q => by rw [(hfr t4 (hfr2 t4 hO4)).2.2.1] at q; omega, fun _ => ?_⟩
        have hsm : ∀ l, 0 ≤ l → l < n → 0 ≤ br p n T (B i) (B j) l * mt s1 194 l k ∧ br p n T (B i) (B j) l * mt s1 194 l k ≤ 36 := fun l l0 l1 => by
          have g2 := (hP t4 hO4 l k l0 l1 k0 hk).2
          have g1 : 0 ≤ br p n T (B i) (B j) l ∧ br p n T (B i) (B j) l < p := ⟨Int.emod_nonneg _ (by omega), Int.emod_lt_of_pos _ (by omega)⟩
          exact mul_small g1.1 (show _ ≤ (6 : Int) by omega) g2.1 (show _ ≤ (6 : Int) by omega)
        have hsb : ∀ m, 0 ≤ m → m ≤ n → -300 ≤ sR (fun l => br p n T (B i) (B j) l * mt s1 194 l k) 0 m ∧ sR (fun l => br p n T (B i) (B j) l * mt s1 194 l k) 0 m ≤ 300 := fun m m0 m1 => by
          have := sR_bound (f := fun l => br p n T (B i) (B j) l * mt s1 194 l k) (lo := 0) (hi := m) (A := 0) (B := 36) (by omega) (by omega) (fun l l0 l1 => hsm l l0 (by omega)) (n := 5) (by omega) (by omega)
          omega
        have e27 := (hfr t4 (hfr2 t4 hO4)).2.2.1
        refine loop_up (P := fun l (v : Int) => L (d + 4) M_R_changeInto 85 [vA 161, vI i, vI j, vI k, vI v, vI l] [] t4 Q) (fun l v => 0 ≤ l ∧ v = sR (fun l => br p n T (B i) (B j) l * mt s1 194 l k) 0 l) n ?_ ?_ 0 (by omega) 0 ⟨by omega, (sR_nil (by omega)).symm⟩
        · rintro v ⟨_, rfl⟩
          refine s_R_changeInto_85 ⟨fun _ => ?_, fun q => by omega⟩
          have hb := hsb n (by omega) (by omega)
          refine R_setMK (by omega) kd_168 (by omega) (by omega) (by omega) ((hO4 168 0 (by omega)).trans z0) hR.1.1 ht4 i0 (by omega) hj k0 hk (by omega) (fun t5 ht5 hO5 => ?_)
          rw [w32_id (by omega) (by omega)]
          refine ih4 t5 ⟨by omega, fun q q0 q1 => ?_, fun c c0 c1 => by rw [hO5 178 _ (by omega)]; exact hu4 c c0 c1, Off_trans hO4 (Off_mono hO5 (fun b j q => by omega))⟩
          rw [ht5 q q0 q1, ← wl_next, ← hV]; rfl
        · rintro l v hl ⟨l0, rfl⟩ ih5
          refine s_R_changeInto_85 ⟨fun q => by omega, fun _ => ?_⟩
          have hm := hsm l l0 hl
          have hb := hsb l l0 (by omega)
          rw [w32_id (x := 5 * l) (by omega) (by omega), w32_id (x := 5 * l + k) (by omega) (by omega), (hP t4 hO4 l k l0 hl k0 hk).1, hu4 l l0 hl, w32_id (x := br p n T (B i) (B j) l * mt s1 194 l k) (by omega) (by omega), w32_id (x := _ + _) (by omega) (by omega), w32_id (x := l + 1) (by omega) (by omega)]
          exact ⟨⟨l0, by omega⟩, ⟨by omega, by omega⟩, ih5 _ ⟨by omega, by rw [sR_succ l0]⟩⟩
end LIN
