/-! ===== the start: what stands in the cells is within the invariant ===== -/
theorem fo_tag {c j : Nat} {o : Int} (h : fo c j = some o) : c < 13 ∧ ftg c j = 2 := by
  unfold fo at h
  split at h <;> first | exact ⟨by decide, by decide⟩ | cases h
theorem ao_tag {t n j : Nat} {o : Int × Int} (h : ao t = some o) : t ≠ 100 ∧ 13 ≤ t ∧ ktg (t, n) j = 2 := by
  unfold ao at h
  split at h
  · exact ⟨by decide, by decide, rfl⟩
  · exact ⟨by decide, by decide, rfl⟩
  · exact ⟨by decide, by decide, rfl⟩
  · cases h
theorem c1_b (c : Nat) (b j : Int) : -1 ≤ c1 c b j ∧ c1 c b j ≤ 25 := by
  unfold c1
  (repeat' split) <;> omega
theorem s0_b {a j : Nat} (ht : ktg (kdn a) j ≠ 2) : -1 ≤ s0 a j ∧ s0 a j ≤ 25 := by
  unfold s0
  rw [if_neg (by omega)]
  by_cases h1 : (a : Int) = 3 ∨ (a : Int) = 163
  · rw [if_pos h1]; omega
  · rw [if_neg h1]
    by_cases h2 : (a : Int) = 166
    · rw [if_pos h2]
      by_cases h3 : (j : Int) = 0
      · rw [if_pos h3]; omega
      · rw [if_neg h3]
        by_cases h4 : (j : Int) = 1
        · rw [if_pos h4]; omega
        · rw [if_neg h4]; omega
    · rw [if_neg h2, kd_nat]
      generalize kdn a = k at ht ⊢
      obtain ⟨c, N⟩ := k
      cases hf : fo c j with
      | none =>
        cases ha : ao c with
        | none =>
          rw [s1_c hf ha, if_neg ht]
          exact c1_b _ _ _
        | some o => exact absurd (ao_tag ha).2.2 ht
      | some o => exact absurd ((ktg_obj (k := (c, N)) (fo_tag hf).1).trans (fo_tag hf).2) ht
theorem Rng0 : Rng s0 := by
  intro a j
  by_cases ht : ktg (kdn a) j = 2
  · rw [ht]
    exact True.intro
  · have hb := s0_b ht
    generalize ktg (kdn a) j = t
    unfold okv
    split
    · show inI (s0 a j); unfold inI; omega
    · show inJ (s0 a j); unfold inJ; omega
    · exact True.intro
theorem Fin0 : Fin2 s0 := by
  intro a j
  refine ⟨fun o ho => ?_, fun o ho hj => ?_⟩
  · rcases hk : kdn a with ⟨c, N⟩
    rw [hk] at ho
    simp only at ho
    have h13 := (fo_tag ho).1
    rw [s0_k hk (Or.inl (by omega)), s1_fo ho]
  · rcases hk : kdn a with ⟨c, N⟩
    rw [hk] at ho
    simp only at ho
    obtain ⟨o1, o2⟩ := o
    have h13 := ao_tag (n := N) (j := j) ho
    have hf : fo c j = none := by
      cases hf : fo c j with
      | none => rfl
      | some q => have := (fo_tag hf).1; omega
    rw [s0_k hk (Or.inl h13.1), s1_ao hf ho]
theorem UN0 : UN s0 := fun j _ _ => by unfold s0; rw [if_pos rfl]
theorem RN_Rp {g : GG} {σ : SG} {H : Heap} (hR : RN g 197 σ H) (h : ∀ b : Nat, b < 197 → ∀ j : Nat, j < (kdn b).2 → σ b j = s0 b j) : Rp g s0 H := by
  have hR2 := RN_cg hR (Nat.le_refl _) h
  have e : wsO g s0 = wsN g 197 s0 := by unfold wsO wsN; rw [kf_len]
  exact ⟨by rw [e]; exact hR2.1, hR2.2.2, Rng0, fun j hj => UN0 j (by omega) (by omega), Fin0⟩
/-! the invariant -/
def c00 : Int → Int := fun j => if j = 0 then 2 else if j = 1 then 1 else 0
theorem c00_z {j : Int} (h : 2 ≤ j) : c00 j = 0 := by unfold c00; rw [if_neg (by omega), if_neg (by omega)]
theorem s0_c00 (j : Int) : s0 166 j = c00 j := by unfold s0 c00; rw [if_neg (by decide), if_neg (by decide), if_pos rfl]
theorem KM0 : KM s0 0 c00 := fun j _ _ => by rw [Int.zero_add]; exact s0_c00 j
theorem TBc0 {t : Int} (t0 : 0 ≤ t) (t1 : t < 125) : TBc c00 0 t = 0 := by rw [TBc_in t0 t1]; exact c00_z (by omega)
theorem DC0 : DC c00 := by
  have hz : ∀ t, 0 ≤ t → t < 125 → TBc c00 0 t = 0 := fun t t0 t1 => TBc0 t0 t1
  refine ⟨⟨Or.inl ⟨rfl, by decide, by decide⟩, fun t t0 t1 => ?_, fun i j k i0 i1 j0 j1 k0 k1 => ?_, fun i k i0 i1 k0 k1 => hz _ (by omega) (by omega), fun i j k i0 i1 j0 j1 k0 k1 _ => hz _ (by omega) (by omega)⟩, fun i i0 i1 hc => absurd (c00_z (by omega)) hc⟩
  · rw [hz t t0 t1]; decide
  · rw [hz _ (by omega) (by omega), hz _ (by omega) (by omega)]; decide
theorem z8 (j : Int) : s0 8 j = 0 := s0_arr (b := 8) (t := 100) (N := 125) (by decide +kernel) (by decide) (by decide)
theorem KC0 : KC s0 6 c00 := by
  refine ⟨⟨by decide +kernel, by decide +kernel, fun t t0 t1 => (z8 t).trans (c00_z (by omega)).symm⟩, fun i i0 i1 => ?_⟩
  have hc : c00 (127 * i) = 0 := c00_z (by omega)
  refine ⟨?_, fun h => absurd hc h⟩
  rw [if_pos hc]
  have h : i = 1 ∨ i = 2 ∨ i = 3 ∨ i = 4 := by omega
  rcases h with rfl | rfl | rfl | rfl <;> decide +kernel
theorem ST0 : ST s0 := by
  intro e he
  rcases ech_list he with rfl | rfl | rfl | rfl | rfl | rfl | rfl | rfl | rfl | rfl | rfl | rfl | rfl | rfl | rfl <;> decide +kernel
theorem z1 (j : Int) : s0 1 j = 0 := s0_arr (b := 1) (t := 101) (N := 240) (by decide +kernel) (by decide) (by decide)
theorem z164 (j : Int) : s0 164 j = 0 := s0_arr (b := 164) (t := 101) (N := 240) (by decide +kernel) (by decide) (by decide)
theorem z23 (j : Int) : s0 23 j = 0 := s0_arr (b := 23) (t := 102) (N := 600) (by decide +kernel) (by decide) (by decide)
theorem z165 (j : Int) : s0 165 j = 0 := s0_arr (b := 165) (t := 102) (N := 600) (by decide +kernel) (by decide) (by decide)
theorem z115 (j : Int) : s0 115 j = 0 := s0_arr (b := 115) (t := 100) (N := 60) (by decide +kernel) (by decide) (by decide)
theorem P00 : P0 s0 := by
  have h4 : s0 0 4 = 0 := by decide +kernel
  refine ⟨⟨by decide +kernel, by decide +kernel⟩, ⟨by decide +kernel, by decide +kernel, by decide +kernel⟩, ⟨by decide +kernel, by decide +kernel, by decide +kernel⟩, fun i i0 i1 => ?_, fun j _ _ => (z1 j).trans (z164 j).symm, ⟨fun q _ _ => ⟨(z23 q).trans (z165 q).symm, ?_⟩, by decide +kernel, by decide +kernel, by decide +kernel⟩, ⟨by decide +kernel, by decide +kernel⟩, fun i i0 i1 => ?_, ⟨by decide +kernel, fun h => absurd (show s0 114 0 = 0 by decide +kernel) h, fun j _ _ => ?_⟩, UN0⟩
  · have h : i = 0 ∨ i = 1 ∨ i = 2 ∨ i = 3 := by omega
    rcases h with rfl | rfl | rfl | rfl <;> decide +kernel
  · rw [z23]; decide
  · omega
  · rw [z115]; decide
theorem IVT0 : IVT s0 := ⟨by decide +kernel, P00, ⟨c00, KC0, KM0, DC0, Or.inl ⟨by decide +kernel, by decide +kernel⟩⟩, ST0⟩
