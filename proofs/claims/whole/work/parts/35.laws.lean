/-! ===== the class's WORLD: packing, counting, JACOBI ===== -/
theorem horN_b {p : Int} {f : Int → Int} : ∀ (k : Nat) (a : Int), horN p f (k + 1) a = horN p f k (a * p + f k) := fun _ _ => rfl
/-- the first three that break: nothing, or i, j, k as one number -/
def FB (p n : Int) (T : Int → Int) (r : Int) : Prop :=
  (r = -1 ∧ ∀ i j k, 0 ≤ i → i < j → j < k → k < n → Jz p n T i j k) ∨
  (∃ i j k, 0 ≤ i ∧ i < j ∧ j < k ∧ k < n ∧ r = 25 * i + 5 * j + k ∧ ¬ Jz p n T i j k ∧ ∀ i' j' k', 0 ≤ i' → i' < j' → j' < k' → k' < n → 25 * i' + 5 * j' + k' < 25 * i + 5 * j + k → Jz p n T i' j' k')
theorem FB_uniq {p n : Int} {T : Int → Int} {r r' : Int} (hn : n ≤ 5) (h : FB p n T r) (h' : FB p n T r') : r = r' := by
  rcases h with ⟨e, h⟩ | ⟨i, j, k, a1, a2, a3, a4, e, hb, hf⟩ <;> rcases h' with ⟨e', h'⟩ | ⟨i', j', k', a1', a2', a3', a4', e', hb', hf'⟩
  · omega
  · exact absurd (h i' j' k' a1' a2' a3' a4') hb'
  · exact absurd (h' i j k a1 a2 a3 a4) hb
  · rcases Int.lt_trichotomy (25 * i + 5 * j + k) (25 * i' + 5 * j' + k') with q | q | q
    · exact absurd (hf' i j k a1 a2 a3 a4 q) hb
    · omega
    · exact absurd (hf i' j' k' a1' a2' a3' a4' q) hb'
section LAWS
variable {d : Nat} {σ : SG} {Q : Int → SG → Prop}
theorem Wd_pack_s {a o : Int} {len : Nat} (ho : obok 10 a) (hpn : PN (σ a 1) (σ a 2)) (hk : kd o = (100, len)) (hl : σ a 2 ≤ (len : Int)) (hf : ∀ k, 0 ≤ k → k < σ a 2 → 0 ≤ σ o k ∧ σ o k < σ a 1) (h : Q (horN (σ a 1) (σ o) (σ a 2).toNat 0) σ) : Tri (d + 1) M_Wd_pack [vA a, vA o] σ Q := by
  obtain ⟨b1, b2, b3, b4⟩ := hpn.b
  have hpw := hpn.pow
  refine t_Wd_pack ⟨ho, by rw [hk], ?_⟩
  rw [hk, show min (σ a 2) ((len : Nat) : Int) = σ a 2 by omega, w32_id (by omega) (by omega)]
  have key : ∀ (m : Nat) (acc : Int), (m : Int) ≤ σ a 2 → 0 ≤ acc → acc < σ a 1 ^ ((σ a 2).toNat - m) → horN (σ a 1) (σ o) m acc = horN (σ a 1) (σ o) (σ a 2).toNat 0 → L (d + 1) M_Wd_pack 14 [vA a, vA o, vI acc, vI ((m : Int) - 1)] [] σ Q := by
    intro m
    induction m with
    | zero =>
      intro acc _ h0 h1 he
      refine s_Wd_pack_14 ⟨fun _ => ?_, fun q => by omega⟩
      rw [← he] at h
      exact h
    | succ m ih =>
      intro acc hm h0 h1 he
      obtain ⟨f0, f1⟩ := hf m (by omega) (by omega)
      have e1 : σ a 1 ^ ((σ a 2).toNat - m) = σ a 1 ^ ((σ a 2).toNat - (m + 1)) * σ a 1 := by
        rw [← Int.pow_succ]; congr 1; omega
      have hle := pow_le (p := σ a 1) (k := (σ a 2).toNat - m) (n := (σ a 2).toNat) (by omega) (by omega)
      have m1 : acc * σ a 1 ≤ (σ a 1 ^ ((σ a 2).toNat - (m + 1)) - 1) * σ a 1 := Int.mul_le_mul_of_nonneg_right (by omega) (by omega)
      have m2 : (σ a 1 ^ ((σ a 2).toNat - (m + 1)) - 1) * σ a 1 = σ a 1 ^ ((σ a 2).toNat - (m + 1)) * σ a 1 - σ a 1 := by rw [Int.sub_mul]; omega
      have m3 : 0 ≤ acc * σ a 1 := Int.mul_nonneg h0 (by omega)
      refine s_Wd_pack_14 ⟨fun q => by omega, fun _ => ⟨ho, rd_of hk (by omega) (by omega), ?_⟩⟩
      rw [show ((m + 1 : Nat) : Int) - 1 = (m : Int) by omega, w32_id (x := acc * σ a 1) (by omega) (by omega), w32_id (x := acc * σ a 1 + σ o m) (by omega) (by omega), w32_id (by omega) (by omega)]
      exact ih (acc * σ a 1 + σ o m) (by omega) (by omega) (by rw [e1]; omega) he
  have := key (σ a 2).toNat 0 (by omega) (by omega) (by simp) rfl
  rw [show (((σ a 2).toNat : Nat) : Int) - 1 = σ a 2 - 1 by omega] at this
  exact this
theorem cnt_le {f : Int → Int} {lo hi n : Int} (h : ∀ k, lo ≤ k → k < hi → 0 ≤ f k ∧ f k ≤ n) (hn : 0 ≤ n) (hb : hi - lo ≤ 5) : 0 ≤ sR f lo hi ∧ sR f lo hi ≤ 5 * n := by
  have := sR_bound (A := 0) (B := n) (n := 5) (by omega) hn h hb (by omega)
  omega
theorem cnt3 {T : Int → Int} {i j m : Int} (hm : m ≤ 5) : 0 ≤ sR (fun k => if T (25 * i + 5 * j + k) = 0 then 0 else 1) 0 m ∧ sR (fun k => if T (25 * i + 5 * j + k) = 0 then 0 else 1) 0 m ≤ 5 := by
  have := cnt_le (f := fun k => if T (25 * i + 5 * j + k) = 0 then 0 else 1) (lo := 0) (hi := m) (n := 1) (fun k _ _ => by split <;> omega) (by omega) (by omega)
  omega
theorem cnt2 {T : Int → Int} {i m n : Int} (hi : 0 ≤ i) (hm : m ≤ 5) (hn : n ≤ 5) : 0 ≤ sR (fun j => sR (fun k => if T (25 * i + 5 * j + k) = 0 then 0 else 1) 0 n) (i + 1) m ∧ sR (fun j => sR (fun k => if T (25 * i + 5 * j + k) = 0 then 0 else 1) 0 n) (i + 1) m ≤ 25 := by
  have := cnt_le (f := fun j => sR (fun k => if T (25 * i + 5 * j + k) = 0 then 0 else 1) 0 n) (lo := i + 1) (hi := m) (n := 5) (fun k _ _ => cnt3 hn) (by omega) (by omega)
  omega
theorem cnt1 {T : Int → Int} {m n : Int} (hm : m ≤ 5) (hn : n ≤ 5) : 0 ≤ sR (fun i => sR (fun j => sR (fun k => if T (25 * i + 5 * j + k) = 0 then 0 else 1) 0 n) (i + 1) n) 0 m ∧ sR (fun i => sR (fun j => sR (fun k => if T (25 * i + 5 * j + k) = 0 then 0 else 1) 0 n) (i + 1) n) 0 m ≤ 125 := by
  have := cnt_le (f := fun i => sR (fun j => sR (fun k => if T (25 * i + 5 * j + k) = 0 then 0 else 1) 0 n) (i + 1) n) (lo := 0) (hi := m) (n := 25) (fun k h1 _ => cnt2 h1 hn hn) (by omega) (by omega)
  omega
theorem Wd_countCells_s {a : Int} (ho : obok 10 a) (hn : 1 ≤ σ a 2 ∧ σ a 2 ≤ 5) (h : Q (cnt (σ a 2) (σ (a + 1))) σ) : Tri (d + 2) M_Wd_countCells [vA a] σ Q := by
  refine t_Wd_countCells ?_
  refine loop_up (P := fun i c => L (d + 2) M_Wd_countCells 4 [vA a, vI c, vI i, vU, vU] [] σ Q) (fun i c => 0 ≤ i ∧ c = sR (fun i => sR (fun j => sR (fun k => if σ (a + 1) (25 * i + 5 * j + k) = 0 then 0 else 1) 0 (σ a 2)) (i + 1) (σ a 2)) 0 i) (σ a 2) ?_ ?_ 0 (by omega) 0 ⟨by omega, by rw [sR_nil (by omega)]⟩
  · rintro c ⟨_, rfl⟩
    exact s_Wd_countCells_4 ⟨ho, fun _ => h, fun q => by omega⟩
  · rintro i c hi ⟨hi0, rfl⟩ ih
    have hb1 := cnt1 (T := σ (a + 1)) (m := i) (n := σ a 2) (by omega) (by omega)
    refine s_Wd_countCells_4 ⟨ho, fun q => by omega, fun _ => ?_⟩
    rw [w32_id (x := i + 1) (by omega) (by omega)]
    generalize hC : sR (fun i => sR (fun j => sR (fun k => if σ (a + 1) (25 * i + 5 * j + k) = 0 then 0 else 1) 0 (σ a 2)) (i + 1) (σ a 2)) 0 i = C at hb1 ih ⊢
    refine loop_up (P := fun j c => L (d + 2) M_Wd_countCells 16 [vA a, vI c, vI i, vI j, vU] [] σ Q) (fun j c => i + 1 ≤ j ∧ c = C + sR (fun j => sR (fun k => if σ (a + 1) (25 * i + 5 * j + k) = 0 then 0 else 1) 0 (σ a 2)) (i + 1) j) (σ a 2) ?_ ?_ (i + 1) (by omega) C ⟨by omega, by rw [sR_nil (by omega)]; omega⟩
    · rintro c ⟨_, rfl⟩
      refine s_Wd_countCells_16 ⟨ho, fun _ => ?_, fun q => by omega⟩
      rw [w32_id (x := i + 1) (by omega) (by omega)]
      exact ih _ ⟨by omega, by rw [sR_succ hi0, hC]⟩
    · rintro j c hj ⟨hj0, rfl⟩ ih2
      have hb2 := cnt2 (T := σ (a + 1)) (i := i) (m := j) (n := σ a 2) hi0 (by omega) (by omega)
      refine s_Wd_countCells_16 ⟨ho, fun q => by omega, fun _ => ?_⟩
      generalize hE : sR (fun j => sR (fun k => if σ (a + 1) (25 * i + 5 * j + k) = 0 then 0 else 1) 0 (σ a 2)) (i + 1) j = E at hb2 ih2 ⊢
      refine loop_up (P := fun k c => L (d + 2) M_Wd_countCells 27 [vA a, vI c, vI i, vI j, vI k] [] σ Q) (fun k c => 0 ≤ k ∧ c = C + E + sR (fun k => if σ (a + 1) (25 * i + 5 * j + k) = 0 then 0 else 1) 0 k) (σ a 2) ?_ ?_ 0 (by omega) (C + E) ⟨by omega, by rw [sR_nil (by omega)]; omega⟩
      · rintro c ⟨_, rfl⟩
        refine s_Wd_countCells_27 ⟨ho, fun _ => ?_, fun q => by omega⟩
        rw [w32_id (x := j + 1) (by omega) (by omega)]
        exact ih2 _ ⟨by omega, by rw [sR_succ hj0, hE]; omega⟩
      · rintro k c hk ⟨hk0, rfl⟩ ih3
        have hb3 := cnt3 (T := σ (a + 1)) (i := i) (j := j) (m := k) (by omega)
        refine s_Wd_countCells_27 ⟨ho, fun q => by omega, fun _ => ⟨ho, ?_⟩⟩
        refine Wd_cell_s ho (by omega) ⟨by omega, by omega⟩ ⟨by omega, by omega⟩ ⟨by omega, by omega⟩ ⟨fun q => ?_, fun q => ?_⟩
        · rw [w32_id (x := k + 1) (by omega) (by omega), w32_id (by omega) (by omega)]
          exact ih3 _ ⟨by omega, by rw [sR_succ hk0, if_neg q]; omega⟩
        · rw [w32_id (x := k + 1) (by omega) (by omega), w32_id (by omega) (by omega)]
          exact ih3 _ ⟨by omega, by rw [sR_succ hk0, if_pos q]; omega⟩
theorem jac_b {T : Int → Int} {i j k m n t : Int} (hT : ∀ t, 0 ≤ t → t < 125 → 0 ≤ T t ∧ T t ≤ 6) (hi : 0 ≤ i ∧ i < 5) (hj : 0 ≤ j ∧ j < 5) (hk : 0 ≤ k ∧ k < 5) (hm : 0 ≤ m ∧ m < 5) (ht : 0 ≤ t ∧ t < 5) : 0 ≤ T (25 * j + 5 * k + t) * T (25 * i + 5 * t + m) ∧ T (25 * j + 5 * k + t) * T (25 * i + 5 * t + m) ≤ 36 := by
  obtain ⟨a1, a2⟩ := hT (25 * j + 5 * k + t) (by omega) (by omega)
  obtain ⟨a3, a4⟩ := hT (25 * i + 5 * t + m) (by omega) (by omega)
  exact mul_small (A := 6) (B := 6) a1 a2 a3 a4
theorem Wd_isJacobi_s {a i j k : Int} (hW : WC σ a) (hi : 0 ≤ i ∧ i < σ a 2) (hj : 0 ≤ j ∧ j < σ a 2) (hk : 0 ≤ k ∧ k < σ a 2) (h1 : Jz (σ a 1) (σ a 2) (σ (a + 1)) i j k → Q 1 σ) (h0 : ¬ Jz (σ a 1) (σ a 2) (σ (a + 1)) i j k → Q 0 σ) : Tri (d + 2) M_Wd_isJacobi [vA a, vI i, vI j, vI k] σ Q := by
  obtain ⟨ho, hpn, hT1, _⟩ := hW
  obtain ⟨b1, b2, b3, b4⟩ := hpn.b
  have hT6 : ∀ t, 0 ≤ t → t < 125 → 0 ≤ σ (a + 1) t ∧ σ (a + 1) t ≤ 6 := fun t q1 q2 => by have := hT1 t q1 q2; omega
  refine t_Wd_isJacobi (fun _ _ _ => ?_)
  refine loop_up (S := Unit) (P := fun m _ => L (d + 2) M_Wd_isJacobi 3 [vA a, vI i, vI j, vI k, vI m, vU, vU] [] σ Q) (fun m _ => 0 ≤ m ∧ ∀ m', 0 ≤ m' → m' < m → jac (σ a 1) (σ a 2) (σ (a + 1)) i j k m' = 0) (σ a 2) ?_ ?_ 0 (by omega) () ⟨by omega, fun _ _ _ => by omega⟩
  · rintro _ ⟨_, hz⟩
    exact s_Wd_isJacobi_3 ⟨ho, fun _ => h1 hz, fun q => by omega⟩
  · rintro m _ hm ⟨hm0, hz⟩ ih
    refine s_Wd_isJacobi_3 ⟨ho, fun q => by omega, fun _ => ?_⟩
    refine loop_up (P := fun t c => L (d + 2) M_Wd_isJacobi 18 [vA a, vI i, vI j, vI k, vI m, vI c, vI t] [] σ Q) (fun t c => 0 ≤ t ∧ (0 ≤ c ∧ c ≤ 108 * t) ∧ c = sR (fun t => σ (a + 1) (25 * j + 5 * k + t) * σ (a + 1) (25 * i + 5 * t + m) + σ (a + 1) (25 * k + 5 * i + t) * σ (a + 1) (25 * j + 5 * t + m) + σ (a + 1) (25 * i + 5 * j + t) * σ (a + 1) (25 * k + 5 * t + m)) 0 t) (σ a 2) ?_ ?_ 0 (by omega) 0 ⟨by omega, by omega, by rw [sR_nil (by omega)]⟩
    · rintro c ⟨_, _, rfl⟩
      refine s_Wd_isJacobi_18 ⟨ho, fun _ => ⟨ho, X_mod_s (by omega) ⟨fun q => ?_, fun q => ?_⟩⟩, fun q => by omega⟩
      · rw [w32_id (by omega) (by omega)]
        refine ih () ⟨by omega, fun m' g1 g2 => ?_⟩
        by_cases hmm : m' = m
        · subst hmm; exact q
        · exact hz m' g1 (by omega)
      · exact h0 (fun hJ => q (hJ m hm0 hm))
    · rintro t c ht ⟨ht0, hcb, hc⟩ ih2
      have q1 := jac_b (m := m) (n := 0) (t := t) (i := i) (j := j) (k := k) hT6 (by omega) (by omega) (by omega) (by omega) (by omega)
      have q2 := jac_b (m := m) (n := 0) (t := t) (i := j) (j := k) (k := i) hT6 (by omega) (by omega) (by omega) (by omega) (by omega)
      have q3 := jac_b (m := m) (n := 0) (t := t) (i := k) (j := i) (k := j) hT6 (by omega) (by omega) (by omega) (by omega) (by omega)
      refine s_Wd_isJacobi_18 ⟨ho, fun q => by omega, fun _ => ⟨ho, ?_⟩⟩
      refine Wd_cell_s ho (by omega) hj hk ⟨ht0, ht⟩ ⟨ho, Wd_cell_s ho (by omega) hi ⟨ht0, ht⟩ ⟨hm0, hm⟩ ⟨ho, Wd_cell_s ho (by omega) hk hi ⟨ht0, ht⟩ ⟨ho, Wd_cell_s ho (by omega) hj ⟨ht0, ht⟩ ⟨hm0, hm⟩ ⟨ho, Wd_cell_s ho (by omega) hi hj ⟨ht0, ht⟩ ⟨ho, Wd_cell_s ho (by omega) hk ⟨ht0, ht⟩ ⟨hm0, hm⟩ ?_⟩⟩⟩⟩⟩
      simp (disch := omega) only [w32_id]
      exact ih2 _ ⟨by omega, by omega, by rw [sR_succ ht0, ← hc]; omega⟩
theorem Wd_firstBreak_s {a : Int} (hW : WC σ a) (h : ∀ r, FB (σ a 1) (σ a 2) (σ (a + 1)) r → Q r σ) : Tri (d + 3) M_Wd_firstBreak [vA a] σ Q := by
  have hW0 := hW
  obtain ⟨ho, hpn, _⟩ := hW
  obtain ⟨b1, b2, b3, b4⟩ := hpn.b
  refine t_Wd_firstBreak ?_
  refine loop_up (S := Unit) (P := fun i _ => L (d + 3) M_Wd_firstBreak 2 [vA a, vI i, vU, vU] [] σ Q) (fun i _ => 0 ≤ i ∧ ∀ i' j' k', 0 ≤ i' → i' < j' → j' < k' → k' < σ a 2 → i' < i → Jz (σ a 1) (σ a 2) (σ (a + 1)) i' j' k') (σ a 2) ?_ ?_ 0 (by omega) () ⟨by omega, fun _ _ _ _ _ _ _ _ => by omega⟩
  · rintro _ ⟨_, hz⟩
    exact s_Wd_firstBreak_2 ⟨ho, fun _ => h _ (Or.inl ⟨rfl, fun i j k g1 g2 g3 g4 => hz i j k g1 g2 g3 g4 (by omega)⟩), fun q => by omega⟩
  · rintro i _ hi ⟨hi0, hz⟩ ih
    refine s_Wd_firstBreak_2 ⟨ho, fun q => by omega, fun _ => ?_⟩
    rw [w32_id (by omega) (by omega)]
    refine loop_up (S := Unit) (P := fun j _ => L (d + 3) M_Wd_firstBreak 14 [vA a, vI i, vI j, vU] [] σ Q) (fun j _ => i + 1 ≤ j ∧ ∀ j' k', i < j' → j' < k' → k' < σ a 2 → j' < j → Jz (σ a 1) (σ a 2) (σ (a + 1)) i j' k') (σ a 2) ?_ ?_ (i + 1) (by omega) () ⟨by omega, fun _ _ _ _ _ _ => by omega⟩
    · rintro _ ⟨_, hz2⟩
      refine s_Wd_firstBreak_14 ⟨ho, fun _ => ?_, fun q => by omega⟩
      rw [w32_id (by omega) (by omega)]
      refine ih () ⟨by omega, fun i' j' k' g1 g2 g3 g4 g5 => ?_⟩
      by_cases hii : i' = i
      · subst hii; exact hz2 j' k' g2 g3 g4 (by omega)
      · exact hz i' j' k' g1 g2 g3 g4 (by omega)
    · rintro j _ hj ⟨hj0, hz2⟩ ih2
      refine s_Wd_firstBreak_14 ⟨ho, fun q => by omega, fun _ => ?_⟩
      rw [w32_id (by omega) (by omega)]
      refine loop_up (S := Unit) (P := fun k _ => L (d + 3) M_Wd_firstBreak 26 [vA a, vI i, vI j, vI k] [] σ Q) (fun k _ => j + 1 ≤ k ∧ ∀ k', j < k' → k' < σ a 2 → k' < k → Jz (σ a 1) (σ a 2) (σ (a + 1)) i j k') (σ a 2) ?_ ?_ (j + 1) (by omega) () ⟨by omega, fun _ _ _ _ => by omega⟩
      · rintro _ ⟨_, hz3⟩
        refine s_Wd_firstBreak_26 ⟨ho, fun _ => ?_, fun q => by omega⟩
        rw [w32_id (by omega) (by omega)]
        refine ih2 () ⟨by omega, fun j' k' g2 g3 g4 g5 => ?_⟩
        by_cases hjj : j' = j
        · subst hjj; exact hz3 k' g3 g4 (by omega)
        · exact hz2 j' k' g2 g3 g4 (by omega)
      · rintro k _ hk ⟨hk0, hz3⟩ ih3
        refine s_Wd_firstBreak_26 ⟨ho, fun q => by omega, fun _ => ⟨ho, ?_⟩⟩
        refine Wd_isJacobi_s hW0 ⟨hi0, hi⟩ ⟨by omega, by omega⟩ ⟨by omega, by omega⟩ (fun hJ => ⟨fun _ => ?_, fun q => by omega⟩) (fun hJ => ⟨fun q => by omega, fun _ => ?_⟩)
        · rw [w32_id (by omega) (by omega)]
          refine ih3 () ⟨by omega, fun k' g3 g4 g5 => ?_⟩
          by_cases hkk : k' = k
          · subst hkk; exact hJ
          · exact hz3 k' g3 g4 (by omega)
        · simp (disch := omega) only [w32_id]
          refine h _ (Or.inr ⟨i, j, k, hi0, by omega, by omega, hk, by omega, hJ, fun i' j' k' g1 g2 g3 g4 g5 => ?_⟩)
          by_cases hii : i' = i
          · subst hii
            by_cases hjj : j' = j
            · subst hjj; exact hz3 k' g3 g4 (by omega)
            · exact hz2 j' k' g2 g3 g4 (by omega)
          · exact hz i' j' k' g1 g2 g3 g4 (by omega)
end LAWS
