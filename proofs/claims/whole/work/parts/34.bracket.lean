/-! ===== the class's WORLD: brackets, laws ===== -/
theorem emod_cg {a b p q : Int} (h : a = b + p * q) : a % p = b % p := by rw [h, Int.add_mul_emod_self_left]
theorem emod_ex (x p : Int) : ∃ q, x % p = x + p * q := ⟨-(x / p), by have := Int.emod_add_mul_ediv x p; grind⟩
theorem mul_sg {m t A B : Int} (h1 : -A ≤ m) (h2 : m ≤ A) (h3 : 0 ≤ t) (h4 : t ≤ B) (hA : 0 ≤ A) : -(A * B) ≤ m * t ∧ m * t ≤ A * B := by
  have a1 : m * t ≤ A * t := Int.mul_le_mul_of_nonneg_right h2 h3
  have a2 : A * t ≤ A * B := Int.mul_le_mul_of_nonneg_left h4 hA
  have a3 : (-A) * t ≤ m * t := Int.mul_le_mul_of_nonneg_right h1 h3
  have a4 : (-A) * t = -(A * t) := Int.neg_mul _ _
  omega
theorem br_tri {p n k : Int} {T X Y : Int → Int} (hT : TW p n T) (hk : 0 ≤ k ∧ k < n) : (sR (fun i => sR (fun j => (X i * Y j - X j * Y i) * T (25 * i + 5 * j + k)) (i + 1) n) 0 n) % p = br p n T X Y k := by
  obtain ⟨hpn, h1, h2, h3, h4⟩ := hT
  obtain ⟨b1, b2, b3, b4⟩ := hpn.b
  unfold br
  rw [sR_tri (by omega), sR_zero' (f := fun i => X i * Y i * T (25 * i + 5 * i + k)) (fun i hi hi2 => by rw [h3 i k (by omega) (by omega) (by omega) (by omega)]; simp), Int.add_zero]
  apply sR_mod
  intro i hi hi2
  apply sR_mod
  intro j hj hj2
  rw [h2 i j k (by omega) (by omega) (by omega) (by omega) (by omega) (by omega)]
  obtain ⟨q, hq⟩ := emod_ex (-(T (25 * i + 5 * j + k))) p
  rw [hq]
  refine (emod_cg (q := X j * Y i * q) ?_).symm
  grind
section BRK
variable {d : Nat} {σ : SG} {Q : Int → SG → Prop}
theorem Wd_addCells_s {a i j m o : Int} {len : Nat} (ho : obok 10 a) (hn : 1 ≤ σ a 2 ∧ σ a 2 ≤ 5) (h0 : 0 ≤ o) (hko : kd o = (100, len)) (hol : σ a 2 ≤ (len : Int)) (hoa : o ≠ a + 1) (hoa2 : o ≠ a) (hi : 0 ≤ i ∧ i < 5) (hj : 0 ≤ j ∧ j < 5) (hm : -36 ≤ m ∧ m ≤ 36) (hT : ∀ t, 0 ≤ t → t < 125 → 0 ≤ σ (a + 1) t ∧ σ (a + 1) t ≤ 6) (hb : ∀ k, 0 ≤ k → k < σ a 2 → -1000000 ≤ σ o k ∧ σ o k ≤ 1000000)
    (h : ∀ σ', (∀ k, 0 ≤ k → k < σ a 2 → σ' o k = σ o k + m * σ (a + 1) (25 * i + 5 * j + k)) → Off (fun b l => b = o ∧ 0 ≤ l ∧ l < σ a 2) σ σ' → Q 0 σ') : Tri (d + 1) M_Wd_addCells [vA a, vI i, vI j, vI m, vA o] σ Q := by
  obtain ⟨ha0, hka, _⟩ := kd_world ho
  refine t_Wd_addCells (fun _ _ _ => ?_)
  simp (disch := omega) only [w32_id]
  refine loop_up (P := fun k s => L (d + 1) M_Wd_addCells 12 [vA a, vU, vU, vI m, vA o, vI ((i * 5 + j) * 5), vI k] [] s Q)
    (fun k s => 0 ≤ k ∧ (∀ t, 0 ≤ t → t < k → s o t = σ o t + m * σ (a + 1) (25 * i + 5 * j + t)) ∧ (∀ t, k ≤ t → s o t = σ o t) ∧ Off (fun b l => b = o ∧ 0 ≤ l ∧ l < σ a 2) σ s) (σ a 2) ?_ ?_ 0 (by omega) σ ⟨by omega, fun t _ _ => by omega, fun _ _ => rfl, Off_rfl⟩
  · rintro s ⟨_, hd, _, hO⟩
    have e2 : s a 2 = σ a 2 := hO a 2 (by omega)
    exact s_Wd_addCells_12 ⟨ho, fun _ => h s hd hO, fun q => by omega⟩
  · rintro k s hk ⟨hk0, hd, hd2, hO⟩ ih
    have e2 : s a 2 = σ a 2 := hO a 2 (by omega)
    have eT : ∀ t, s (a + 1) t = σ (a + 1) t := fun t => hO (a + 1) t (by omega)
    obtain ⟨q1, q2⟩ := hb k hk0 hk
    obtain ⟨q3, q4⟩ := hT (25 * i + 5 * j + k) (by omega) (by omega)
    obtain ⟨q5, q6⟩ := mul_sg (m := m) (t := σ (a + 1) (25 * i + 5 * j + k)) (A := 36) (B := 6) (by omega) (by omega) q3 q4 (by omega)
    refine s_Wd_addCells_12 ⟨ho, fun q => by omega, fun _ => ?_⟩
    rw [w32_id (x := (i * 5 + j) * 5 + k) (by omega) (by omega), show (i * 5 + j) * 5 + k = 25 * i + 5 * j + k by omega, eT, hd2 k (by omega), w32_id (x := m * σ (a + 1) (25 * i + 5 * j + k)) (by omega) (by omega), w32_id (x := σ o k + m * σ (a + 1) (25 * i + 5 * j + k)) (by omega) (by omega), w32_id (x := k + 1) (by omega) (by omega)]
    refine ⟨rd_of hko (by omega) (by omega), ho, rd_of hka (by omega) (by omega), wr_of h0 hko (by omega) (by omega), fun s2 e => ih s2 ⟨by omega, fun t h1 h2 => ?_, fun t h1 => ?_, ?_⟩⟩
    · by_cases htk : t = k
      · subst htk; rw [e, up_same]
      · rw [e, up_ne (by omega)]; exact hd t h1 (by omega)
    · rw [e, up_ne (by omega)]; exact hd2 t (by omega)
    · refine Off_trans hO ?_
      rw [e]
      exact Off_up ⟨rfl, by omega, by omega⟩
theorem Wd_bracketInto_s {a x at_ y by_ o : Int} {lx ly lo : Nat} (hW : WC σ a) (hkx : kd x = (100, lx)) (hky : kd y = (100, ly)) (h0 : 0 ≤ o) (hko : kd o = (100, lo)) (hat : 0 ≤ at_) (hby : 0 ≤ by_) (hlx : at_ + σ a 2 ≤ (lx : Int)) (hly : by_ + σ a 2 ≤ (ly : Int)) (hlo : σ a 2 ≤ (lo : Int)) (hl1 : lx ≤ 5000) (hl2 : ly ≤ 5000) (hox : o ≠ x) (hoy : o ≠ y) (hoa : o ≠ a + 1) (hoa2 : o ≠ a)
    (hX : ∀ i, 0 ≤ i → i < σ a 2 → 0 ≤ σ x (at_ + i) ∧ σ x (at_ + i) < σ a 1) (hY : ∀ i, 0 ≤ i → i < σ a 2 → 0 ≤ σ y (by_ + i) ∧ σ y (by_ + i) < σ a 1)
    (h : ∀ σ', (∀ k, 0 ≤ k → k < σ a 2 → σ' o k = br (σ a 1) (σ a 2) (σ (a + 1)) (fun i => σ x (at_ + i)) (fun i => σ y (by_ + i)) k) → Off (fun b l => b = o ∧ 0 ≤ l ∧ l < σ a 2) σ σ' → Q 0 σ') : Tri (d + 3) M_Wd_bracketInto [vA a, vA x, vI at_, vA y, vI by_, vA o] σ Q := by
  obtain ⟨ho, hT⟩ := hW
  obtain ⟨hpn, hT1, _⟩ := hT
  obtain ⟨b1, b2, b3, b4⟩ := hpn.b
  obtain ⟨ha0, hka, _⟩ := kd_world ho
  refine t_Wd_bracketInto (fun _ _ => ?_)
  rw [w32_id (x := at_ + σ a 2) (by omega) (by omega), w32_id (x := by_ + σ a 2) (by omega) (by omega)]
  refine ⟨fun q => by omega, fun _ => ⟨fun q => by omega, fun _ => ⟨ho, by rw [hkx], fun q => ?_, fun _ => ⟨ho, by rw [hky], fun q => ?_, fun _ => ⟨ho, by rw [hko], fun _ => ⟨ho, ?_⟩, fun q => ?_⟩⟩⟩⟩⟩
  · rw [hkx] at q; simp only at q; omega
  · rw [hky] at q; simp only at q; omega
  · refine JA_fillR_s h0 hko (by omega) (by omega) (by omega) ?_
    -- the sum of what the couples give, so far
    have main : ∀ s6, (∀ k, 0 ≤ k → k < σ a 2 → s6 o k = 0) → Off (fun b l => b = o ∧ 0 ≤ l ∧ l < σ a 2) σ s6 → L (d + 3) M_Wd_bracketInto 57 [vA a, vA x, vI at_, vA y, vI by_, vA o, vI 0, vU, vU] [] s6 Q := by
      intro s6 hz hO6
      refine loop_up (P := fun i s => L (d + 3) M_Wd_bracketInto 57 [vA a, vA x, vI at_, vA y, vI by_, vA o, vI i, vU, vU] [] s Q)
        (fun i s => 0 ≤ i ∧ (∀ k, 0 ≤ k → k < σ a 2 → s o k = sR (fun i => sR (fun j => (σ x (at_ + i) * σ y (by_ + j) - σ x (at_ + j) * σ y (by_ + i)) * σ (a + 1) (25 * i + 5 * j + k)) (i + 1) (σ a 2)) 0 i) ∧ (∀ k, 0 ≤ k → k < σ a 2 → -(1500 * i) ≤ s o k ∧ s o k ≤ 1500 * i) ∧ Off (fun b l => b = o ∧ 0 ≤ l ∧ l < σ a 2) σ s) (σ a 2) ?_ ?_ 0 (by omega) s6 ⟨by omega, fun k h1 h2 => by rw [hz k h1 h2, sR_nil (by omega)], fun k h1 h2 => by rw [hz k h1 h2]; omega, hO6⟩
      · rintro s ⟨_, hs, hbd, hO⟩
        have e2 : s a 2 = σ a 2 := hO a 2 (by omega)
        have e1 : s a 1 = σ a 1 := hO a 1 (by omega)
        refine s_Wd_bracketInto_57 ⟨ho, fun _ => ?_, fun q => by omega⟩
        refine loop_up (P := fun k s => L (d + 3) M_Wd_bracketInto 144 [vA a, vU, vU, vU, vU, vA o, vI k, vU, vU] [] s Q)
          (fun k t => 0 ≤ k ∧ (∀ l, 0 ≤ l → l < k → t o l = s o l % σ a 1) ∧ (∀ l, k ≤ l → t o l = s o l) ∧ Off (fun b l => b = o ∧ 0 ≤ l ∧ l < σ a 2) σ t) (σ a 2) ?_ ?_ 0 (by omega) s ⟨by omega, fun _ _ _ => by omega, fun _ _ => rfl, hO⟩
        · rintro t ⟨_, ht, _, hO2⟩
          have e2 : t a 2 = σ a 2 := hO2 a 2 (by omega)
          refine s_Wd_bracketInto_144 ⟨ho, fun _ => h t (fun k h1 h2 => ?_) hO2, fun q => by omega⟩
          rw [ht k h1 h2, hs k h1 h2]
          exact br_tri (X := fun i => σ x (at_ + i)) (Y := fun i => σ y (by_ + i)) ⟨hpn, hT1, by assumption⟩ ⟨h1, h2⟩
        · rintro k t hk ⟨hk0, ht, ht2, hO2⟩ ih
          have e2 : t a 2 = σ a 2 := hO2 a 2 (by omega)
          have e1 : t a 1 = σ a 1 := hO2 a 1 (by omega)
          refine s_Wd_bracketInto_144 ⟨ho, fun q => by omega, fun _ => ⟨rd_of hko (by omega) (by omega), ho, ?_⟩⟩
          rw [e1]
          refine X_mod_s (by omega) ⟨wr_of h0 hko (by omega) (by omega), fun t3 e3 => ?_⟩
          rw [w32_id (by omega) (by omega)]
          refine ih t3 ⟨by omega, fun l h1 h2 => ?_, fun l h1 => ?_, ?_⟩
          · by_cases hlk : l = k
            · subst hlk; rw [e3, up_same, ht2 l (by omega)]
            · rw [e3, up_ne (by omega)]; exact ht l h1 (by omega)
          · rw [e3, up_ne (by omega)]; exact ht2 l (by omega)
          · refine Off_trans hO2 ?_
            rw [e3]
            exact Off_up ⟨rfl, by omega, by omega⟩
      · rintro i s hi ⟨hi0, hs, hbd, hO⟩ ih
        have e2 : s a 2 = σ a 2 := hO a 2 (by omega)
        refine s_Wd_bracketInto_57 ⟨ho, fun q => by omega, fun _ => ?_⟩
        rw [w32_id (by omega) (by omega)]
        refine loop_up (P := fun j s => L (d + 3) M_Wd_bracketInto 72 [vA a, vA x, vI at_, vA y, vI by_, vA o, vI i, vI j, vU] [] s Q)
          (fun j t => i + 1 ≤ j ∧ (∀ k, 0 ≤ k → k < σ a 2 → t o k = s o k + sR (fun j => (σ x (at_ + i) * σ y (by_ + j) - σ x (at_ + j) * σ y (by_ + i)) * σ (a + 1) (25 * i + 5 * j + k)) (i + 1) j) ∧ (∀ k, 0 ≤ k → k < σ a 2 → -(1500 * i + 300 * (j - i - 1)) ≤ t o k ∧ t o k ≤ 1500 * i + 300 * (j - i - 1)) ∧ Off (fun b l => b = o ∧ 0 ≤ l ∧ l < σ a 2) σ t) (σ a 2) ?_ ?_ (i + 1) (by omega) s ⟨by omega, fun k h1 h2 => by rw [sR_nil (by omega)]; omega, fun k h1 h2 => by have := hbd k h1 h2; omega, hO⟩
        · rintro t ⟨_, ht, htb, hO2⟩
          have e2 : t a 2 = σ a 2 := hO2 a 2 (by omega)
          refine s_Wd_bracketInto_72 ⟨ho, fun _ => ?_, fun q => by omega⟩
          rw [w32_id (by omega) (by omega)]
          refine ih t ⟨by omega, fun k h1 h2 => ?_, fun k h1 h2 => ?_, hO2⟩
          · rw [sR_succ hi0, ← hs k h1 h2]; exact ht k h1 h2
          · have := htb k h1 h2; omega
        · rintro j t hj ⟨hj0, ht, htb, hO2⟩ ih2
          have e2 : t a 2 = σ a 2 := hO2 a 2 (by omega)
          have ex : ∀ i, t x i = σ x i := fun i => hO2 x i (by omega)
          have ey : ∀ i, t y i = σ y i := fun i => hO2 y i (by omega)
          have eT : ∀ i, t (a + 1) i = σ (a + 1) i := fun i => hO2 (a + 1) i (by omega)
          obtain ⟨x1, x2⟩ := hX i hi0 hi
          obtain ⟨x3, x4⟩ := hX j (by omega) hj
          obtain ⟨y1, y2⟩ := hY i hi0 hi
          obtain ⟨y3, y4⟩ := hY j (by omega) hj
          obtain ⟨m1, m2⟩ := mul_small (A := 6) (B := 6) x1 (by omega) y3 (by omega)
          obtain ⟨m3, m4⟩ := mul_small (A := 6) (B := 6) x3 (by omega) y1 (by omega)
          refine s_Wd_bracketInto_72 ⟨ho, fun q => by omega, fun _ => ?_⟩
          rw [w32_id (x := at_ + i) (by omega) (by omega), w32_id (x := by_ + j) (by omega) (by omega), w32_id (x := at_ + j) (by omega) (by omega), w32_id (x := by_ + i) (by omega) (by omega), ex, ex, ey, ey, w32_id (x := σ x (at_ + i) * σ y (by_ + j)) (by omega) (by omega), w32_id (x := σ x (at_ + j) * σ y (by_ + i)) (by omega) (by omega), w32_id (x := σ x (at_ + i) * σ y (by_ + j) - σ x (at_ + j) * σ y (by_ + i)) (by omega) (by omega), w32_id (x := j + 1) (by omega) (by omega)]
          refine ⟨rd_of hkx (by omega) (by omega), rd_of hky (by omega) (by omega), rd_of hkx (by omega) (by omega), rd_of hky (by omega) (by omega), fun q => ih2 t ⟨by omega, fun k h1 h2 => ?_, fun k h1 h2 => ?_, hO2⟩, fun q => ⟨ho, ?_⟩⟩
          · rw [sR_succ hj0, q, ht k h1 h2]; simp
          · have := htb k h1 h2; omega
          · refine Wd_addCells_s ho (by omega) h0 hko (by omega) hoa hoa2 (by omega) (by omega) (by omega) (fun u h1 h2 => by rw [eT]; have := hT1 u h1 h2; omega) (fun k h1 h2 => by have := htb k h1 (by omega); omega) (fun t3 h3 hO3 => ih2 t3 ⟨by omega, fun k h1 h2 => ?_, fun k h1 h2 => ?_, ?_⟩)
            · rw [h3 k h1 (by omega), eT, sR_succ hj0, ht k h1 h2]; omega
            · rw [h3 k h1 (by omega), eT]
              obtain ⟨q3, q4⟩ := hT1 (25 * i + 5 * j + k) (by omega) (by omega)
              obtain ⟨q5, q6⟩ := mul_sg (m := σ x (at_ + i) * σ y (by_ + j) - σ x (at_ + j) * σ y (by_ + i)) (t := σ (a + 1) (25 * i + 5 * j + k)) (A := 36) (B := 6) (by omega) (by omega) q3 (by omega) (by omega)
              have := htb k h1 h2
              omega
            · refine Off_trans hO2 ?_
              rw [← e2]
              exact hO3
    refine main _ (fun k h1 h2 => fil_in (by omega) (by omega)) (fun b l hb => fil_ne (by omega))
  · rw [hko] at q; simp only at q; omega
end BRK
