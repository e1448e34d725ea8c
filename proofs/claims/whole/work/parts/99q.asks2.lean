/-! ===== calls that ask: is, bracket, failing, power, maps, sameAs; keep, take ===== -/
section CA2
variable {d : Nat} {σ : SG} {Q : Int → SG → Prop} {c : Int → Int}
theorem c_is {x : Int} (hI : IVT σ) : CAL d M_X_is M_R_is [vI x] σ := by
  obtain ⟨c, hK, hM, hD, hS⟩ := hI.2.2.1
  have hW := WD7 hK hD
  have hT := hW.2.2.2.2
  obtain ⟨b1, b2, b3, b4⟩ := hW.pn.b
  have ref : ¬ (0 ≤ x ∧ x ≤ 5) → Tri (d + 29) M_X_fail [vA 0, vI 5] (nrm σ) (fun r u => Tri (d + 30) M_R_is [vA 161, vI x] u (fun r2 u2 => r = r2 ∧ IVT u2)) := fun hn => t_X_fail (fun _ t e => by
    have hx := QXm hI e
    exact t_R_is (fun _ t3 e3 t4 e4 => R_now e3 e4 (KM_qx hM hx) hD (fun t5 hR hO h0 hM5 => R_isIn_s (fun y1 y2 => absurd ⟨y1, y2⟩ hn) (fun _ => ⟨fun y => absurd rfl y, fun _ => R_ref (fun t6 h6 hO6 => ⟨rfl, IVT_q hI hx (Off_trans hO hO6) h6⟩)⟩))))
  have yes : ∀ t1, (0 ≤ x ∧ x ≤ 5) → SO (c 0) (c 1) (TBc c 0) x → ST t1 → Off (fun b j => 43 ≤ b ∧ b ≤ 77) (nrm σ) t1 → Tri (d + 29) M_X_answer [vA 0, vI 1] t1 (fun r u => Tri (d + 30) M_R_is [vA 161, vI x] u (fun r2 u2 => r = r2 ∧ IVT u2)) := fun t1 hb hso hS1 hO1 => t_X_answer (fun _ t e => by
    have hx : QX σ t 0 := QXn hS1 hO1 (fun b j q => by unfold DX; omega) e
    exact t_R_is (fun _ t3 e3 t4 e4 => R_now e3 e4 (KM_qx hM hx) hD (fun t5 hR hO h0 hM5 => R_isIn_s (fun _ _ => ⟨fun _ => R_isSo_s hR hb (fun t6 _ hO6 => ⟨fun y => by omega, fun _ => ⟨rfl, IVT_m hI hx hO hO6 h0⟩⟩) (fun t6 hno => absurd hso hno), fun y => by omega⟩) (fun y => by omega))))
  have no : ∀ t1, (0 ≤ x ∧ x ≤ 5) → ¬ SO (c 0) (c 1) (TBc c 0) x → ST t1 → Off (fun b j => 43 ≤ b ∧ b ≤ 77) (nrm σ) t1 → Tri (d + 29) M_X_answer [vA 0, vI 0] t1 (fun r u => Tri (d + 30) M_R_is [vA 161, vI x] u (fun r2 u2 => r = r2 ∧ IVT u2)) := fun t1 hb hso hS1 hO1 => t_X_answer (fun _ t e => by
    have hx : QX σ t 0 := QXn hS1 hO1 (fun b j q => by unfold DX; omega) e
    exact t_R_is (fun _ t3 e3 t4 e4 => R_now e3 e4 (KM_qx hM hx) hD (fun t5 hR hO h0 hM5 => R_isIn_s (fun _ _ => ⟨fun _ => R_isSo_s hR hb (fun t6 hy => absurd hy hso) (fun t6 _ hO6 => ⟨fun _ => ⟨rfl, IVT_m hI hx hO hO6 h0⟩, fun y => absurd rfl y⟩), fun y => by omega⟩) (fun y => by omega))))
  have n27 : nrm σ 7 2 = c 1 := hW.2.2.1
  have n8 : nrm σ (7 + 1) = TBc c 0 := hW.2.2.2.1
  have hS0 := ST_n hI.2.2.2
  refine Tri_n (t_X_is (fun _ => ⟨fun z => ref (by omega), fun z => ⟨fun z2 => ⟨fun q => ?_, fun q => ?_, fun q => ?_, fun q => ?_, fun q => ?_, fun q => ?_⟩, fun z2 => ref (by omega)⟩⟩))
  · have es : SO (c 0) (c 1) (TBc c 0) x ↔ UNI (c 0) (c 1) (TBc c 0) := by unfold SO; rw [if_neg (by omega), if_neg (by omega), if_neg (by omega), if_neg (by omega), if_neg (by omega)]
    exact Me_isUnimodular_s hW (fun w => ⟨fun y => by omega, fun _ => yes _ ⟨z, z2⟩ (es.mpr w) hS0 Off_rfl⟩) (fun w => ⟨fun _ => no _ ⟨z, z2⟩ (fun v => w (es.mp v)) hS0 Off_rfl, fun y => absurd rfl y⟩)
  · have es : SO (c 0) (c 1) (TBc c 0) x ↔ cd (brk (c 0) (c 1) (TBc c 0) EU EU).1 (c 1) = 0 := by unfold SO; rw [if_pos q]
    have hz := cnt_zero hT
    refine Wd_countCells_s hW.1 (by rw [n27]; omega) ?_
    rw [n27, n8]
    exact ⟨fun w => ⟨fun _ => no _ ⟨z, z2⟩ (fun v => w (hz.mpr (es.mp v))) hS0 Off_rfl, fun y => absurd rfl y⟩, fun w => ⟨fun y => by omega, fun _ => yes _ ⟨z, z2⟩ (es.mpr (hz.mp w)) hS0 Off_rfl⟩⟩
  · have es : SO (c 0) (c 1) (TBc c 0) x ↔ cd (ser (c 0) (c 1) (TBc c 0) ((1 : Int) ≠ 0) EU (5 : Int).toNat).1 (c 1) = 0 := by
      unfold SO
      rw [if_neg (by omega), if_pos q, ← ser_five hT, ser_cgp (a := ((1 : Int) ≠ 0)) (b := True) (by simp)]
      exact Iff.rfl
    refine An_wholeSeries_s hW (by omega) hS0 (by omega) (fun t1 hS1 hO1 => ?_)
    have hO' : Off (fun b j => 43 ≤ b ∧ b ≤ 77) (nrm σ) t1 := Off_mono hO1 (fun b j w => by omega)
    exact ⟨fun w => ⟨fun _ => no _ ⟨z, z2⟩ (fun v => w (es.mp v)) hS1 hO', fun y => absurd rfl y⟩, fun w => ⟨fun y => by omega, fun _ => yes _ ⟨z, z2⟩ (es.mpr w) hS1 hO'⟩⟩
  · have es : SO (c 0) (c 1) (TBc c 0) x ↔ cd (ser (c 0) (c 1) (TBc c 0) ((0 : Int) ≠ 0) EU (5 : Int).toNat).1 (c 1) = 0 := by
      unfold SO
      rw [if_neg (by omega), if_neg (by omega), if_pos q, ← ser_five hT, ser_cgp (a := ((0 : Int) ≠ 0)) (b := False) (by simp)]
      exact Iff.rfl
    refine An_wholeSeries_s hW (by omega) hS0 (by omega) (fun t1 hS1 hO1 => ?_)
    have hO' : Off (fun b j => 43 ≤ b ∧ b ≤ 77) (nrm σ) t1 := Off_mono hO1 (fun b j w => by omega)
    exact ⟨fun w => ⟨fun _ => no _ ⟨z, z2⟩ (fun v => w (es.mp v)) hS1 hO', fun y => absurd rfl y⟩, fun w => ⟨fun y => by omega, fun _ => yes _ ⟨z, z2⟩ (es.mpr w) hS1 hO'⟩⟩
  · have es : SO (c 0) (c 1) (TBc c 0) x ↔ cd (ser (c 0) (c 1) (TBc c 0) ((0 : Int) ≠ 0) EU (1 : Int).toNat).1 (c 1) = c 1 := by
      unfold SO
      rw [if_neg (by omega), if_neg (by omega), if_neg (by omega), if_pos q, show (1 : Int).toNat = 1 from rfl, ser1]
    refine An_wholeSeries_s hW (by omega) hS0 (by omega) (fun t1 hS1 hO1 => ?_)
    have hO' : Off (fun b j => 43 ≤ b ∧ b ≤ 77) (nrm σ) t1 := Off_mono hO1 (fun b j w => by omega)
    rw [hO1 7 2 (by omega), n27]
    exact ⟨fun w => ⟨fun _ => no _ ⟨z, z2⟩ (fun v => w (es.mp v)) hS1 hO', fun y => absurd rfl y⟩, fun w => ⟨fun y => by omega, fun _ => yes _ ⟨z, z2⟩ (es.mpr w) hS1 hO'⟩⟩
  · have es : SO (c 0) (c 1) (TBc c 0) x ↔ SIM (c 0) (c 1) (TBc c 0) := by
      unfold SO
      rw [if_neg (by omega), if_neg (by omega), if_neg (by omega), if_neg (by omega), if_pos q]
      exact (simple_iff hT).symm
    exact An_isSimple_s hW (by omega) hS0 (fun t1 w hS1 hO1 => ⟨fun y => by omega, fun _ => yes _ ⟨z, z2⟩ (es.mpr w) hS1 (Off_mono hO1 (fun b j w => by omega))⟩) (fun t1 w hS1 hO1 => ⟨fun _ => no _ ⟨z, z2⟩ (fun v => w (es.mp v)) hS1 (Off_mono hO1 (fun b j w => by omega)), fun y => absurd rfl y⟩)
/-- the number of a VECTOR, the model's -/
theorem R_numberOfVector_s {p n a : Int} {T : Int → Int} {len : Nat} (hR : RW σ p n T) (hk : kd a = (100, len)) (hl : n ≤ (len : Int)) (hf : ∀ k, 0 ≤ k → k < n → 0 ≤ σ a k ∧ σ a k < p) (h : Q (horN p (σ a) n.toNat 0) σ) : Tri (d + 1) M_R_numberOfVector [vA 161, vA a, vI 0] σ Q := by
  obtain ⟨b1, b2, b3, b4⟩ := hR.1.1.b
  have hpw := hR.1.1.pow
  have e26 := hR.2.1
  have e27 := hR.2.2.1
  refine t_R_numberOfVector (fun _ => ?_)
  rw [e27, w32_id (by omega) (by omega)]
  have key : ∀ (m : Nat) (acc : Int), (m : Int) ≤ n → 0 ≤ acc → acc < p ^ (n.toNat - m) → horN p (σ a) m acc = horN p (σ a) n.toNat 0 → L (d + 1) M_R_numberOfVector 10 [vA 161, vA a, vI 0, vI acc, vI ((m : Int) - 1)] [] σ Q := by
    intro m
    induction m with
    | zero =>
      intro acc _ h0 h1 he
      refine s_R_numberOfVector_10 ⟨fun _ => ?_, fun q => by omega⟩
      rw [← he] at h
      exact h
    | succ m ih =>
      intro acc hm h0 h1 he
      obtain ⟨f0, f1⟩ := hf m (by omega) (by omega)
      have e1 : p ^ (n.toNat - m) = p ^ (n.toNat - (m + 1)) * p := by
        rw [← Int.pow_succ]; congr 1; omega
      have hle := pow_le (p := p) (k := n.toNat - m) (n := n.toNat) (by omega) (by omega)
      have m1 : acc * p ≤ (p ^ (n.toNat - (m + 1)) - 1) * p := Int.mul_le_mul_of_nonneg_right (by omega) (by omega)
      have m2 : (p ^ (n.toNat - (m + 1)) - 1) * p = p ^ (n.toNat - (m + 1)) * p - p := by rw [Int.sub_mul]; omega
      have m3 : 0 ≤ acc * p := Int.mul_nonneg h0 (by omega)
      refine s_R_numberOfVector_10 ⟨fun q => by omega, fun _ => ?_⟩
      rw [e26, show ((m + 1 : Nat) : Int) - 1 = (m : Int) by omega, w32_id (x := 0 + (m : Int)) (by omega) (by omega), Int.zero_add, w32_id (x := acc * p) (by omega) (by omega), w32_id (x := acc * p + σ a m) (by omega) (by omega), w32_id (by omega) (by omega)]
      exact ⟨rd_of hk (by omega) (by omega), ih (acc * p + σ a m) (by omega) (by omega) (by rw [e1]; omega) he⟩
  have := key n.toNat 0 (by omega) (by omega) (by simp) rfl
  rw [show ((n.toNat : Nat) : Int) - 1 = n - 1 by omega] at this
  exact this
theorem horN_cg {p : Int} {f g : Int → Int} : ∀ (k : Nat) (a : Int), (∀ j : Int, 0 ≤ j → j < k → f j = g j) → horN p f k a = horN p g k a
  | 0, _, _ => rfl
  | k + 1, a, h => by
    show horN p f k (a * p + f k) = horN p g k (a * p + g k)
    rw [h k (by omega) (by omega)]
    exact horN_cg k _ (fun j j0 j1 => h j j0 (by omega))
theorem dgIn {p x k : Int} (hp : 2 ≤ p) : 0 ≤ dg p x k ∧ dg p x k < p := ⟨Int.emod_nonneg _ (by omega), Int.emod_lt_of_pos _ (by omega)⟩
theorem brIn {p n k : Int} {T x y : Int → Int} (hp : 2 ≤ p) : 0 ≤ br p n T x y k ∧ br p n T x y k < p := ⟨Int.emod_nonneg _ (by omega), Int.emod_lt_of_pos _ (by omega)⟩
theorem c_bracket {x y : Int} (hI : IVT σ) : CAL d M_X_bracket M_R_bracket [vI x, vI y] σ := by
  obtain ⟨c, hK, hM, hD, hS⟩ := hI.2.2.1
  have hW := WD7 hK hD
  obtain ⟨b1, b2, b3, b4⟩ := hW.pn.b
  have hS0 := ST_n hI.2.2.2
  have ref : ¬ ((0 ≤ x ∧ x < c 0 ^ (c 1).toNat) ∧ 0 ≤ y ∧ y < c 0 ^ (c 1).toNat) → Tri (d + 29) M_X_fail [vA 0, vI 2] (nrm σ) (fun r u => Tri (d + 30) M_R_bracket [vA 161, vI x, vI y] u (fun r2 u2 => r = r2 ∧ IVT u2)) := fun hn => t_X_fail (fun _ t e => by
    have hx := QXm hI e
    refine t_R_bracket (fun _ _ t3 e3 t4 e4 => R_now e3 e4 (KM_qx hM hx) hD (fun t5 hR hO h0 hM5 => ?_))
    have rf : Tri (d + 29) M_R_refuse [vA 161, vI 2] t5 (fun r6 σ6 => -1 = r6 ∧ IVT σ6) := R_ref (fun t6 h6 hO6 => ⟨rfl, IVT_q hI hx (Off_trans hO hO6) h6⟩)
    exact R_isVector_s hR (fun y1 y2 => ⟨fun q => by omega, fun _ => R_isVector_s hR (fun y3 y4 => absurd ⟨⟨y1, y2⟩, y3, y4⟩ hn) (fun _ => ⟨fun q => absurd rfl q, fun _ => rf⟩)⟩) (fun _ => ⟨fun _ => rf, fun q => absurd rfl q⟩))
  refine Tri_n (t_X_bracket (fun _ _ => X_isVector_s hW (fun x0 x1 => ⟨fun q => by omega, fun _ => X_isVector_s hW (fun y0 y1 => ⟨fun _ => ?_, fun q => by omega⟩) (fun hn => ⟨fun q => absurd rfl q, fun _ => ref (by omega)⟩)⟩) (fun hn => ⟨fun _ => ref (by omega), fun q => absurd rfl q⟩)))
  have n71 : nrm σ 7 1 = c 0 := hW.2.1
  have n72 : nrm σ 7 2 = c 1 := hW.2.2.1
  refine Wd_unpack_s (len := 25) ob_7 (by rw [n71, n72]; exact hW.pn) (by omega) kd_4 (by omega) (by omega) (by rw [n72]; show 0 + c 1 ≤ (25 : Int); omega) (by omega) x0 (fun t1 h1 hO1 => ?_)
  rw [n71, n72] at h1
  rw [n72] at hO1
  have hW1 : WD t1 7 (c 0) (c 1) (TBc c 0) := hW.cg (fun k => hO1 7 k (by omega)) (fun k => hO1 (7 + 1) k (by omega))
  refine Wd_unpack_s (len := 25) ob_7 (by rw [hW1.2.1, hW1.2.2.1]; exact hW.pn) (by omega) kd_4 (by omega) (by omega) (by rw [hW1.2.2.1]; show 5 + c 1 ≤ (25 : Int); omega) (by omega) y0 (fun t2 h2 hO2 => ?_)
  rw [hW1.2.1, hW1.2.2.1] at h2
  rw [hW1.2.2.1] at hO2
  have hW2 : WD t2 7 (c 0) (c 1) (TBc c 0) := hW1.cg (fun k => hO2 7 k (by omega)) (fun k => hO2 (7 + 1) k (by omega))
  refine Wd_br_s (lx := 25) (ly := 25) (lo := 5) hW2 kd_4 kd_4 (by omega) kd_5 (by omega) (by omega) (by show 0 + c 1 ≤ (25 : Int); omega) (by show 5 + c 1 ≤ (25 : Int); omega) (by show c 1 ≤ (5 : Int); omega) (by omega) (by omega) (by omega) (by omega) (by omega) (by omega) (X := dg (c 0) x) (Y := dg (c 0) y) (fun i i0 i1 => ⟨by rw [hO2 4 _ (by omega)]; exact h1 i i0 i1, dgIn b1⟩) (fun i i0 i1 => ⟨h2 i i0 i1, dgIn b1⟩) (fun t3 h3 hO3 => ?_)
  have hW3 : WD t3 7 (c 0) (c 1) (TBc c 0) := hW2.cg (fun k => hO3 7 k (by omega)) (fun k => hO3 (7 + 1) k (by omega))
  refine Wd_pack_s (len := 5) ob_7 (by rw [hW3.2.1, hW3.2.2.1]; exact hW.pn) kd_5 (by rw [hW3.2.2.1]; show c 1 ≤ (5 : Int); omega) (by rw [hW3.2.1, hW3.2.2.1]; exact fun k k0 k1 => by rw [(h3 k k0 k1).1]; exact (h3 k k0 k1).2) (t_X_answer (fun _ t e => ?_))
  rw [hW3.2.1, hW3.2.2.1]
  have hO' : Off (fun b j => b = 4 ∨ b = 5) (nrm σ) t3 := Off_trans (Off_mono hO1 (fun b j q => by omega)) (Off_trans (Off_mono hO2 (fun b j q => by omega)) (Off_mono hO3 (fun b j q => by omega)))
  have hx : QX σ t 0 := QXn (hS0.off hO' (fun e he => by have := ech_list he; omega)) hO' (fun b j q => by unfold DX; omega) e
  refine t_R_bracket (fun _ _ u3 e3 u4 e4 => R_now e3 e4 (KM_qx hM hx) hD (fun u5 hR hO h0 hM5 => R_isVector_s hR (fun _ _ => ⟨fun q => by omega, fun _ => R_isVector_s hR (fun _ _ => ⟨fun _ => ?_, fun q => by omega⟩) (fun q => absurd q (by omega))⟩) (fun q => absurd q (by omega))))
  refine R_parts2_s (len := 5) hR (by omega) kd_175 (by omega) (by omega) (by show 0 + c 1 ≤ (5 : Int); omega) (by omega) x0 (fun u6 g6 o6 => ?_)
  have hR6 := hR.fr (σ' := u6) (fun k _ _ => o6 161 k (by omega)) (fun k => o6 166 k (by omega)) (fun k => o6 196 k (by omega))
  refine R_parts2_s (len := 5) hR6 (by omega) kd_176 (by omega) (by omega) (by show 0 + c 1 ≤ (5 : Int); omega) (by omega) y0 (fun u7 g7 o7 => ?_)
  have hR7 := hR6.fr (σ' := u7) (fun k _ _ => o7 161 k (by omega)) (fun k => o7 166 k (by omega)) (fun k => o7 196 k (by omega))
  have gx : ∀ i, 0 ≤ i → i < c 1 → u7 175 (0 + i) = dg (c 0) x i := fun i i0 i1 => by rw [o7 175 _ (by omega)]; exact g6 i i0 i1
  refine R_bracketOf_s (lx := 5) (ly := 5) (lo := 5) hR7 kd_175 kd_176 (by omega) kd_177 (by omega) (by omega) (by show 0 + c 1 ≤ (5 : Int); omega) (by show 0 + c 1 ≤ (5 : Int); omega) (by show c 1 ≤ (5 : Int); omega) (by omega) (by omega) (by omega) (by omega) (by omega) (by omega) (by omega) (fun i i0 i1 => by rw [gx i i0 i1]; exact dgIn b1) (fun i i0 i1 => by rw [g7 i i0 i1]; exact dgIn b1) (fun u8 g8 o8 => ?_)
  have hR8 := hR7.fr (σ' := u8) (fun k _ _ => o8 161 k (by omega)) (fun k => o8 166 k (by omega)) (fun k => o8 196 k (by omega))
  have g9 : ∀ k, 0 ≤ k → k < c 1 → u8 177 k = br (c 0) (c 1) (TBc c 0) (dg (c 0) x) (dg (c 0) y) k := fun k k0 k1 => by rw [g8 k k0 k1]; exact br_cg (fun i i0 i1 => gx i i0 i1) (fun i i0 i1 => g7 i i0 i1)
  refine R_numberOfVector_s (len := 5) hR8 kd_177 (by show c 1 ≤ (5 : Int); omega) (fun k k0 k1 => by rw [g9 k k0 k1]; exact brIn b1) ⟨?_, ?_⟩
  · exact horN_cg _ _ (fun j j0 j1 => by rw [(h3 j j0 (by omega)).1, g9 j j0 (by omega)])
  · refine IVT_q hI hx (Off_trans hO (Off_trans (Off_mono o6 (fun b j q => by unfold DR; omega)) (Off_trans (Off_mono o7 (fun b j q => by unfold DR; omega)) (Off_mono o8 (fun b j q => by unfold DR; omega))))) ?_
    rw [o8 161 0 (by omega), o7 161 0 (by omega), o6 161 0 (by omega)]; exact h0
end CA2
