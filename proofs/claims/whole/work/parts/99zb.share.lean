/-! ===== call: share ===== -/
def eg : Nat → Int → Int → Int
  | 0, a, _ => a
  | k + 1, a, b => if b ≤ 0 then a else eg k b (a % b)
def en : Nat → Int → Int → Prop
  | 0, _, b => b = 0
  | k + 1, a, b => b = 0 ∨ en k b (a % b)
theorem eg_0 {a : Int} : ∀ k, eg k a 0 = a
  | 0 => rfl
  | k + 1 => by unfold eg; rw [if_pos (Int.le_refl _)]
theorem en_0 {a : Int} : ∀ k, en k a 0
  | 0 => rfl
  | k + 1 => Or.inl rfl
theorem en_s : ∀ (k : Nat) (a b : Int), en k a b → en (k + 1) a b
  | 0, a, b, h => Or.inl h
  | k + 1, a, b, h => h.elim Or.inl (fun q => Or.inr (en_s k b (a % b) q))
theorem en_le {k j : Nat} {a b : Int} (h : en k a b) (hk : k ≤ j) : en j a b := by
  induction hk with
  | refl => exact h
  | step _ ih => exact en_s _ a b ih
theorem en_h : ∀ (k : Nat) (a b : Int), 0 ≤ b → b ≤ a → a < 2 ^ k → en (2 * k) a b
  | 0, a, b, b0, b1, h => by
    have h' : a < 1 := h
    show b = 0; omega
  | k + 1, a, b, b0, b1, h => by
    rw [show 2 * (k + 1) = 2 * k + 1 + 1 by omega]
    by_cases z : b = 0
    · exact Or.inl z
    · refine Or.inr ?_
      have r0 := Int.emod_nonneg a z
      have r1 := Int.emod_lt_of_pos a (b := b) (by omega)
      by_cases y : a % b = 0
      · exact Or.inl y
      · refine Or.inr (en_h k (a % b) (b % (a % b)) (Int.emod_nonneg _ y) ?_ ?_)
        · have := Int.emod_lt_of_pos b (b := a % b) (by omega); omega
        · have q1 : 1 ≤ a / b := by
            have := (Int.le_ediv_iff_mul_le (a := 1) (b := a) (c := b) (by omega)).mpr (by omega); exact this
          have e := Int.emod_add_mul_ediv a b
          have m := Int.mul_le_mul_of_nonneg_left q1 b0
          rw [Int.mul_one] at m
          have h2 : a < 2 ^ k * 2 := by rw [← Int.pow_succ]; exact h
          omega
theorem eg_p : ∀ (k : Nat) (a b : Int), 0 ≤ a → 0 ≤ b → (1 ≤ a ∨ 1 ≤ b) → en k a b → 1 ≤ eg k a b
  | 0, a, b, a0, b0, h, hn => by
    have : b = 0 := hn
    show 1 ≤ a; omega
  | k + 1, a, b, a0, b0, h, hn => by
    unfold eg
    by_cases z : b ≤ 0
    · rw [if_pos z]; omega
    · rw [if_neg z]
      exact eg_p k b (a % b) b0 (Int.emod_nonneg _ (by omega)) (Or.inl (by omega)) (hn.elim (fun q => by omega) id)
section CSH
variable {d : Nat} {σ : SG} {Q : Int → SG → Prop} {c : Int → Int}
theorem X_cd_l : ∀ (j : Nat) (a b : Int), 0 ≤ a → 0 ≤ b → j ≤ 64 → Q (eg j a b) σ → L (d + 1) M_X_commonDivisor 7 [vU, vU, vI a, vI b, vI (64 - (j : Int)), vU] [] σ Q
  | 0, a, b, a0, b0, hj, h => s_X_commonDivisor_7 ⟨fun _ => h, fun y => by omega⟩
  | j + 1, a, b, a0, b0, hj, h => by
    refine s_X_commonDivisor_7 ⟨fun y => by omega, fun _ => ⟨fun z => ?_, fun z => ⟨by omega, ?_⟩⟩⟩
    · unfold eg at h; rw [if_pos z] at h; exact h
    · unfold eg at h; rw [if_neg (by omega)] at h
      rw [w32_id (by omega) (by omega), Int.tmod_eq_emod_of_nonneg a0, show 64 - ((j + 1 : Nat) : Int) + 1 = 64 - (j : Int) by omega]
      exact X_cd_l j b (a % b) b0 (Int.emod_nonneg _ (by omega)) (by omega) h
theorem X_cd_s {a b : Int} (a0 : 0 ≤ a) (b0 : 0 ≤ b) (h : Q (eg 64 a b) σ) : Tri (d + 1) M_X_commonDivisor [vI a, vI b] σ Q := t_X_commonDivisor (fun _ _ => X_cd_l (d := d) 64 a b a0 b0 (Nat.le_refl _) h)
theorem R_fr_l {A B : Int} (A0 : 0 ≤ A) (A1 : A ≤ 100000) (B0 : 0 ≤ B) (B1 : B ≤ 100000) : ∀ (j : Nat) (a b : Int), 0 ≤ a → 0 ≤ b → en j a b → 1 ≤ eg j a b → (∀ t, t = up (up σ 161 2 (A / eg j a b)) 161 3 (B / eg j a b) → Q 1 t) → L (d + 1) M_R_fraction 9 [vA 161, vJ A, vU, vJ B, vU, vJ a, vU, vJ b, vU, vU, vU] [] σ Q := by
  have fin : ∀ (j : Nat) (a : Int), 1 ≤ eg j a 0 → (∀ t, t = up (up σ 161 2 (A / eg j a 0)) 161 3 (B / eg j a 0) → Q 1 t) → L (d + 1) M_R_fraction 9 [vA 161, vJ A, vU, vJ B, vU, vJ a, vU, vJ 0, vU, vU, vU] [] σ Q := fun j a h1 h => by
    rw [eg_0] at h1 h
    have q1 := Int.ediv_nonneg A0 (b := a) (by omega)
    have q2 := Int.ediv_le_self a A0
    have q3 := Int.ediv_nonneg B0 (b := a) (by omega)
    have q4 := Int.ediv_le_self a B0
    refine s_R_fraction_9 ⟨fun _ => ⟨by omega, fun s1 e1 => ⟨by omega, fun s2 e2 => h s2 ?_⟩⟩, fun y => absurd (cmp3_eq.mpr rfl) y⟩
    rw [Int.tdiv_eq_ediv_of_nonneg A0, w64_id (by omega) (by omega)] at e1
    rw [Int.tdiv_eq_ediv_of_nonneg B0, w64_id (by omega) (by omega)] at e2
    rw [e2, e1]
  intro j
  induction j with
  | zero => intro a b a0 b0 hn h1 h; have e : b = 0 := hn; subst e; exact fin 0 a h1 h
  | succ j ih =>
    intro a b a0 b0 hn h1 h
    by_cases z : b = 0
    · subst z; exact fin (j + 1) a h1 h
    · refine s_R_fraction_9 ⟨fun y => absurd (cmp3_eq.mp y) z, fun _ => ⟨z, ?_⟩⟩
      unfold eg at h1 h
      rw [if_neg (by omega)] at h1 h
      rw [Int.tmod_eq_emod_of_nonneg a0]
      exact ih b (a % b) b0 (Int.emod_nonneg _ z) (hn.elim (fun q => absurd q z) id) h1 h
noncomputable def shA (p n : Int) (T : Int → Int) (what k : Int) : Int := sR (fun z => TT p n z (fun m x => ind (KD p n T what (spn p n (tb m) x)))) 0 k
theorem shA_s {p n what k : Int} {T : Int → Int} (k0 : 0 ≤ k) : shA p n T what (k + 1) = shA p n T what k + TT p n k (fun m x => ind (KD p n T what (spn p n (tb m) x))) := sR_succ k0
theorem shA_b {p n what : Int} {T : Int → Int} (h : PN p n) : ∀ k : Nat, 0 ≤ shA p n T what k ∧ shA p n T what k ≤ 4000 * (k : Int)
  | 0 => by have e : shA p n T what ((0 : Nat) : Int) = 0 := sR_nil (Int.le_refl _); rw [e]; omega
  | k + 1 => by
    have ih := shA_b (what := what) (T := T) h k
    have t1 := TT_ind_b (z := (k : Int)) (G := fun m x => KD p n T what (spn p n (tb m) x)) h
    have t2 : 0 ≤ TT p n (k : Int) (fun m x => ind (KD p n T what (spn p n (tb m) x))) := TT_nn (fun m x => ind_nn.1)
    rw [show ((k + 1 : Nat) : Int) = (k : Int) + 1 by omega, shA_s (by omega)]
    have t1' : TT p n (k : Int) (fun m x => ind (KD p n T what (spn p n (tb m) x))) < 4000 := t1
    omega
theorem shA_1 {p n k : Int} {T : Int → Int} (h : PN p n) (k0 : 0 ≤ k) : 1 ≤ shA p n T (-1) (k + 1) := by
  obtain ⟨b1, b2, b3, b4⟩ := h.b
  have one : 1 ≤ shA p n T (-1) 1 := by
    have e := shA_s (p := p) (n := n) (what := -1) (T := T) (Int.le_refl 0)
    have z0 : shA p n T (-1) 0 = 0 := sR_nil (Int.le_refl _)
    have e1 : (0 : Int) + 1 = 1 := rfl
    rw [e1, z0] at e
    have t2 : 0 ≤ TT p n 0 (fun m x => ind (KD p n T (-1) (spn p n (tb m) x))) := TT_nn (fun m x => ind_nn.1)
    by_cases y : TT p n 0 (fun m x => ind (KD p n T (-1) (spn p n (tb m) x))) = 0
    · have hp : (0 : Int) < 2 ^ n.toNat := Int.pow_pos (by omega)
      have hb0 : bt 0 = 0 := by
        unfold bt; unfold cd; exact sR_zero' (fun k k0 k1 => by
          have hk : k = 0 ∨ k = 1 ∨ k = 2 ∨ k = 3 ∨ k = 4 := by omega
          rcases hk with q | q | q | q | q <;> subst q <;> decide)
      have := TT_zero (F := fun m x => ind (KD p n T (-1) (spn p n (tb m) x))) (fun m x => ind_nn.1) y (m := 0) (x := 0) (Int.le_refl _) hp hb0 (Int.le_refl _) (by have := (cds_b h (Int.le_refl 0) hp).1; omega)
      have k1 : KD p n T (-1) (spn p n (tb 0) 0) := by unfold KD; rw [if_pos rfl]; trivial
      rw [ind_t k1] at this
      omega
    · omega
  have mono : ∀ j : Nat, 1 ≤ shA p n T (-1) ((j : Int) + 1) := fun j => by
    induction j with
    | zero => exact one
    | succ j ih =>
      have t2 : 0 ≤ TT p n ((j : Int) + 1) (fun m x => ind (KD p n T (-1) (spn p n (tb m) x))) := TT_nn (fun m x => ind_nn.1)
      rw [show ((j + 1 : Nat) : Int) + 1 = ((j : Int) + 1) + 1 by omega, shA_s (by omega)]
      omega
  have := mono k.toNat
  rw [show ((k.toNat : Nat) : Int) = k by omega] at this
  exact this
theorem c_share (hI : IVT σ) : CAL d M_X_share M_R_share [] σ := by
  obtain ⟨c, hK, hM, hD, hS⟩ := hI.2.2.1
  have hW := WD7 hK hD
  have hpn := hW.pn
  obtain ⟨b1, b2, b3, b4⟩ := hpn.b
  have hS0 := ST_n hI.2.2.2
  have bd : ∀ what k, 0 ≤ k → k ≤ 6 → 0 ≤ shA (c 0) (c 1) (TBc c 0) what k ∧ shA (c 0) (c 1) (TBc c 0) what k ≤ 24000 := fun what k k0 k1 => by
    have := shA_b (what := what) (T := TBc c 0) hpn k.toNat
    rw [show ((k.toNat : Nat) : Int) = k by omega] at this
    omega
  have bA := bd 0 (c 1 + 1) (by omega) (by omega)
  have bB := bd (-1) (c 1 + 1) (by omega) (by omega)
  have pB := shA_1 (T := TBc c 0) hpn (k := c 1) (by omega)
  have hen : en 64 (shA (c 0) (c 1) (TBc c 0) 0 (c 1 + 1)) (shA (c 0) (c 1) (TBc c 0) (-1) (c 1 + 1)) := by
    refine Or.inr ?_
    have r0 := Int.emod_nonneg (shA (c 0) (c 1) (TBc c 0) 0 (c 1 + 1)) (b := shA (c 0) (c 1) (TBc c 0) (-1) (c 1 + 1)) (by omega)
    have r1 := Int.emod_lt_of_pos (shA (c 0) (c 1) (TBc c 0) 0 (c 1 + 1)) (b := shA (c 0) (c 1) (TBc c 0) (-1) (c 1 + 1)) (by omega)
    refine en_le (k := 2 * 20) (en_h 20 _ _ r0 (by omega) ?_) (by decide)
    have : (2 : Int) ^ 20 = 1048576 := by decide
    omega
  have pg := eg_p 64 _ _ bA.1 bB.1 (Or.inr pB) hen
  generalize hA : shA (c 0) (c 1) (TBc c 0) 0 (c 1 + 1) = A at *
  generalize hB : shA (c 0) (c 1) (TBc c 0) (-1) (c 1 + 1) = B at *
  generalize hg : eg 64 A B = g at *
  have q1 := Int.ediv_nonneg bA.1 (b := g) (by omega)
  have q2 := Int.ediv_le_self g bA.1
  have q3 := Int.ediv_nonneg bB.1 (b := g) (by omega)
  have q4 := Int.ediv_le_self g bB.1
  -- the model
  have mod : ∀ t, OffN (fun b j => (b = 0 ∧ (j = 0 ∨ j = 1 ∨ j = 2)) ∨ (43 ≤ b ∧ b ≤ 67)) σ t → ST t → t 0 0 = 0 → t 0 1 = A / g → t 0 2 = B / g → Tri (d + 30) M_R_share [vA 161] t (fun r2 u2 => 1 = r2 ∧ IVT u2) := fun t hOt hSt h00 h01 h02 => by
    refine t_R_share (fun t3 e3 t4 e4 => R_now e3 e4 (hM.fr (fun j => hOt 166 j (by omega) (by omega))) hD (fun t5 hR hO h0 hM5 => ?_))
    refine loop_up (S := Int × Int × SG) (P := fun k s => L (d + 30) M_R_share 20 [vA 161, vI s.1, vI s.2.1, vI k] [] s.2.2 (fun r2 u2 => 1 = r2 ∧ IVT u2)) (fun k s => 0 ≤ k ∧ s.1 = shA (c 0) (c 1) (TBc c 0) (-1) k ∧ s.2.1 = shA (c 0) (c 1) (TBc c 0) 0 k ∧ Off DM t5 s.2.2) (c 1 + 1) ?_ ?_ 0 (by omega) (0, 0, t5) ⟨Int.le_refl _, (sR_nil (Int.le_refl _)).symm, (sR_nil (Int.le_refl _)).symm, Off_rfl⟩
    · rintro ⟨v1, v2, s⟩ ⟨k0, a1, a2, a3⟩
      have a1' : v1 = B := a1.trans hB
      have a2' : v2 = A := a2.trans hA
      have a3' : Off DM t5 s := a3
      have hR6 := hR.dm a3
      have e27 : s 161 27 = c 1 := hR6.2.2.1
      show L (d + 30) M_R_share 20 [vA 161, vI v1, vI v2, vI (c 1 + 1)] [] s _
      rw [a1', a2']
      refine s_R_share_20 ⟨fun _ => t_R_fraction (fun _ _ => ?_), fun y => by omega⟩
      have ea : (if 0 < A then A else w64 (-A)) = A := by
        by_cases z : 0 < A
        · rw [if_pos z]
        · rw [if_neg z, w64_id (by omega) (by omega)]; omega
      rw [ea]
      refine R_fr_l bA.1 (by omega) bB.1 (by omega) 64 A B bA.1 bB.1 hen (by rw [hg]; exact pg) (fun t6 e6 => ⟨Or.inr rfl, rfl, ?_⟩)
      rw [hg] at e6
      have hO6 : Off (fun b j => DR b j ∨ (b = 161 ∧ (j = 2 ∨ j = 3))) t t6 := Off_trans (Off_mono hO (fun b j q => Or.inl q)) (Off_trans (Off_mono (Off_dm a3) (fun b j q => Or.inl q)) (by rw [e6]; exact Off_trans (Off_up (Or.inr ⟨rfl, Or.inl rfl⟩)) (Off_up (Or.inr ⟨rfl, Or.inr rfl⟩))))
      have e : ∀ b j, ¬ (DR b j ∨ (b = 161 ∧ (j = 2 ∨ j = 3))) → ¬ ((b = 0 ∧ (j = 0 ∨ j = 1 ∨ j = 2)) ∨ (43 ≤ b ∧ b ≤ 67)) → (¬ (b = 8 ∨ b = 14 ∨ b = 16 ∨ b = 18 ∨ b = 20) ∨ (0 ≤ j ∧ j < 125)) → t6 b j = σ b j := fun b j y1 y2 y3 => (hO6 b j y1).trans (hOt b j y2 y3)
      refine ⟨?_, ?_, ?_, ?_⟩
      · rw [hO6 0 0 (by unfold DR; omega), h00, e6, up_ne (by omega), up_ne (by omega), a3' 161 0 (by unfold DM; omega), h0]
      · refine hI.2.1.gen (fun b j => (b = 0 ∧ (j = 1 ∨ j = 2)) ∨ (b = 161 ∧ (j = 2 ∨ j = 3))) (fun b j y1 y2 => e b j (by unfold PR0 at y1; unfold DR; omega) (by unfold PR0 at y1; omega) (by unfold PR0 at y1; omega)) (Or.inl ⟨?_, ?_⟩) (Or.inr (fun b j q => by omega)) (Or.inr (fun b j q => by omega)) (Or.inr (fun b j q => by omega)) (Or.inr (fun b j q => by omega)) (Or.inr (fun b j q => by omega)) (Or.inr (fun b j q => by omega)) (Or.inr (fun b j q => by omega)) (Or.inr (fun b j q => by omega)) (fun j => by omega)
        · rw [hO6 0 1 (by unfold DR; omega), h01, e6, up_ne (by omega), up_same]
        · rw [hO6 0 2 (by unfold DR; omega), h02, e6, up_same]
      · exact hI.2.2.1.fr (Or.inl rfl) (fun b j y1 y2 y3 => e b j (by unfold DR; omega) (by omega) y3) (fun j y1 y2 => e 166 j (by unfold DR; omega) (by omega) (by omega))
      · exact hSt.off hO6 (fun y hy => by have := ech_list hy; unfold DR; omega)
    · rintro k ⟨v1, v2, s⟩ hk ⟨k0, a1, a2, a3⟩ next
      have a1' : v1 = shA (c 0) (c 1) (TBc c 0) (-1) k := a1
      have a2' : v2 = shA (c 0) (c 1) (TBc c 0) 0 k := a2
      have hR6 := hR.dm a3
      have e27 : s 161 27 = c 1 := hR6.2.2.1
      show L (d + 30) M_R_share 20 [vA 161, vI v1, vI v2, vI k] [] s _
      refine s_R_share_20 ⟨fun y => by omega, fun _ => R_countSpans_s hR6 (by omega) (fun s2 hO2 => R_countSpans_s (hR6.dm hO2) (by omega) (fun s3 hO3 => ?_))⟩
      have w1 := shA_s (p := c 0) (n := c 1) (what := -1) (T := TBc c 0) k0
      have w2 := shA_s (p := c 0) (n := c 1) (what := 0) (T := TBc c 0) k0
      have z1 := bd (-1) (k + 1) (by omega) (by omega)
      have z2 := bd 0 (k + 1) (by omega) (by omega)
      rw [a1', a2', ← w1, ← w2, w32_id (by omega) (by omega), w32_id (by omega) (by omega), w32_id (by omega) (by omega)]
      exact next (shA (c 0) (c 1) (TBc c 0) (-1) (k + 1), shA (c 0) (c 1) (TBc c 0) 0 (k + 1), s3) ⟨by omega, rfl, rfl, Off_trans a3 (Off_trans hO2 hO3)⟩
  refine Tri_n (t_X_share ?_)
  refine loop_up (S := Int × Int × SG) (P := fun k s => L (d + 30) M_X_share 6 [vA 0, vI s.1, vI s.2.1, vI k] [] s.2.2 (fun r u => Tri (d + 30) M_R_share [vA 161] u (fun r2 u2 => r = r2 ∧ IVT u2))) (fun k s => 0 ≤ k ∧ s.1 = shA (c 0) (c 1) (TBc c 0) 0 k ∧ s.2.1 = shA (c 0) (c 1) (TBc c 0) (-1) k ∧ ST s.2.2 ∧ Off (fun b j => 43 ≤ b ∧ b ≤ 67) (nrm σ) s.2.2) (c 1 + 1) ?_ ?_ 0 (by omega) (0, 0, nrm σ) ⟨Int.le_refl _, (sR_nil (Int.le_refl _)).symm, (sR_nil (Int.le_refl _)).symm, hS0, Off_rfl⟩
  · rintro ⟨v1, v2, s⟩ ⟨k0, a1, a2, a3, a4⟩
    have a1' : v1 = A := a1.trans hA
    have a2' : v2 = B := a2.trans hB
    have hWs : WD s 7 (c 0) (c 1) (TBc c 0) := hW.cg (fun k => a4 7 k (by omega)) (fun k => a4 (7 + 1) k (by omega))
    have e72 : s 7 2 = c 1 := hWs.2.2.1
    show L (d + 30) M_X_share 6 [vA 0, vI v1, vI v2, vI (c 1 + 1)] [] s _
    rw [a1', a2']
    refine s_X_share_6 ⟨fun _ => X_cd_s bA.1 bB.1 ?_, fun y => by omega⟩
    rw [hg]
    refine ⟨fun _ => ⟨by omega, s_X_share_84 (fun s1 e1 => ⟨fun _ => ⟨by omega, fun s2 e2 => t_X_agree (fun t e => ⟨Or.inr rfl, ?_⟩)⟩, fun y => by omega⟩)⟩, fun y => by omega⟩
    rw [Int.tdiv_eq_ediv_of_nonneg bA.1, w32_id (by omega) (by omega)] at e1
    rw [Int.tdiv_eq_ediv_of_nonneg bB.1, w32_id (by omega) (by omega)] at e2
    have hOt : Off (fun b j => (b = 0 ∧ (j = 0 ∨ j = 1 ∨ j = 2)) ∨ (43 ≤ b ∧ b ≤ 67)) (nrm σ) t := Off_trans (Off_mono a4 (fun b j q => Or.inr q)) (by rw [e, e2, e1]; exact Off_trans (Off_up (Or.inl ⟨rfl, by omega⟩)) (Off_trans (Off_up (Or.inl ⟨rfl, by omega⟩)) (Off_up (Or.inl ⟨rfl, by omega⟩))))
    refine mod t (OffN_n hOt) (fun y hy => ?_) (by rw [e, up_same]) (by rw [e, up_ne (by omega), e2, up_ne (by omega), e1, up_same]) (by rw [e, up_ne (by omega), e2, up_same])
    have := ech_list hy
    rw [e, up_ne (by omega), e2, up_ne (by omega), e1, up_ne (by omega)]; exact a3 y hy
  · rintro k ⟨v1, v2, s⟩ hk ⟨k0, a1, a2, a3, a4⟩ next
    have a1' : v1 = shA (c 0) (c 1) (TBc c 0) 0 k := a1
    have a2' : v2 = shA (c 0) (c 1) (TBc c 0) (-1) k := a2
    have hWs : WD s 7 (c 0) (c 1) (TBc c 0) := hW.cg (fun k => a4 7 k (by omega)) (fun k => a4 (7 + 1) k (by omega))
    have e72 : s 7 2 = c 1 := hWs.2.2.1
    show L (d + 30) M_X_share 6 [vA 0, vI v1, vI v2, vI k] [] s _
    refine s_X_share_6 ⟨fun y => by omega, fun _ => An_countSpans_s hWs (by omega) a3 (by omega) (fun s2 hS2 hO2 => ?_)⟩
    have hW2 : WD s2 7 (c 0) (c 1) (TBc c 0) := hWs.cg (fun k => hO2 7 k (by omega)) (fun k => hO2 (7 + 1) k (by omega))
    refine An_countSpans_s hW2 (by omega) hS2 (by omega) (fun s3 hS3 hO3 => ?_)
    have w1 := shA_s (p := c 0) (n := c 1) (what := -1) (T := TBc c 0) k0
    have w2 := shA_s (p := c 0) (n := c 1) (what := 0) (T := TBc c 0) k0
    have z1 := bd (-1) (k + 1) (by omega) (by omega)
    have z2 := bd 0 (k + 1) (by omega) (by omega)
    rw [a1', a2', ← w1, ← w2, w32_id (by omega) (by omega), w32_id (by omega) (by omega), w32_id (by omega) (by omega)]
    exact next (shA (c 0) (c 1) (TBc c 0) 0 (k + 1), shA (c 0) (c 1) (TBc c 0) (-1) (k + 1), s3) ⟨by omega, rfl, rfl, hS3, Off_trans a4 (Off_trans hO2 hO3)⟩
end CSH
