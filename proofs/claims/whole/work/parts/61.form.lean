/-! ===== the form's rank, powers: of both ===== -/
theorem frm_b {p n : Int} {T : Int → Int} (hT : TW p n T) {i j a t : Int} (i0 : 0 ≤ i) (i1 : i < n) (j0 : 0 ≤ j) (j1 : j < n) (a0 : 0 ≤ a) (a1 : a < n) (t0 : 0 ≤ t) (t1 : t < n) : 0 ≤ T (25 * i + 5 * a + t) * T (25 * j + 5 * t + a) ∧ T (25 * i + 5 * a + t) * T (25 * j + 5 * t + a) ≤ 36 := by
  obtain ⟨b1, b2, b3, b4⟩ := hT.1.b
  have h1 := hT.2.1 (25 * i + 5 * a + t) (by omega) (by omega)
  have h2 := hT.2.1 (25 * j + 5 * t + a) (by omega) (by omega)
  exact mul_small (A := 6) (B := 6) h1.1 (by omega) h2.1 (by omega)
/-- powers of a square -/
def mpw (p n : Int) (M : Int → Int → Int) : Nat → Int → Int → Int
  | 0 => M
  | k + 1 => fun i j => sR (fun m => mpw p n M k i m * M m j) 0 n % p
def Zm (n : Int) (M : Int → Int → Int) : Prop := ∀ i j, 0 ≤ i → i < n → 0 ≤ j → j < n → M i j = 0
def LPw (p n : Int) (M : Int → Int → Int) (r : Int) : Prop := (r = 0 ∧ ∀ e : Nat, (e : Int) < n → ¬ Zm n (mpw p n M e)) ∨ (1 ≤ r ∧ r ≤ n ∧ Zm n (mpw p n M (r - 1).toNat) ∧ ∀ e : Nat, (e : Int) < r - 1 → ¬ Zm n (mpw p n M e))
theorem LPw_uniq {p n r r' : Int} {M : Int → Int → Int} (h : LPw p n M r) (h' : LPw p n M r') : r = r' := by
  rcases h with ⟨h1, h2⟩ | ⟨h1, h2, h3, h4⟩ <;> rcases h' with ⟨g1, g2⟩ | ⟨g1, g2, g3, g4⟩
  · omega
  · exact absurd g3 (h2 (r' - 1).toNat (by omega))
  · exact absurd h3 (g2 (r - 1).toNat (by omega))
  · rcases Int.lt_trichotomy r r' with q | q | q
    · exact absurd h3 (g4 (r - 1).toNat (by omega))
    · exact q
    · exact absurd g3 (h4 (r' - 1).toNat (by omega))
theorem mpw_in {p n : Int} {M : Int → Int → Int} (hp : 2 ≤ p) (hM : ∀ i j, 0 ≤ i → i < n → 0 ≤ j → j < n → 0 ≤ M i j ∧ M i j < p) : ∀ (k : Nat) i j, 0 ≤ i → i < n → 0 ≤ j → j < n → 0 ≤ mpw p n M k i j ∧ mpw p n M k i j < p
  | 0, i, j, i0, i1, j0, j1 => hM i j i0 i1 j0 j1
  | k + 1, i, j, _, _, _, _ => ⟨Int.emod_nonneg _ (by omega), Int.emod_lt_of_pos _ (by omega)⟩
/-- the MATRIX of a VECTOR -/
def mtx (p n : Int) (T v : Int → Int) (j k : Int) : Int := br p n T v (EU.2 j) k
section FRM
variable {d : Nat} {σ : SG} {Q : Int → SG → Prop}
theorem Me_formRank_s {a p n : Int} {T : Int → Int} (hW : WD σ a p n T) (ha : a ≤ 20) (hST : ST σ) (h : ∀ σ', ST σ' → Off (fun b j => 69 ≤ b ∧ b ≤ 77) σ σ' → Q (cd (FRM p n T).1 n) σ') : Tri (d + 3) M_Me_formRank [vA 68, vA a] σ Q := by
  obtain ⟨b1, b2, b3, b4⟩ := hW.pn.b
  obtain ⟨ho, hp, hn, _, hT⟩ := id hW
  obtain ⟨kw1, _, _⟩ := kd_world ho
  refine t_Me_formRank ⟨ho, ho, ?_⟩
  rw [hp, hn]
  refine Ec_begin_s ob_69 (hST 69 ob_69) hW.pn.pr (by omega) (by unfold stl; rw [if_pos (by omega)]; omega) (fun s1 hE1 hO1 => ?_)
  refine loop_up (P := fun i s => L (d + 3) M_Me_formRank 19 [vA 68, vA a, vI n, vI i, vU, vU, vU, vU] [] s Q)
    (fun i s => 0 ≤ i ∧ EC s 69 p n (lp (fun i E => ins p n E (frm p n T i)) 0 i E0) ∧ Off (fun b j => (b = 69 ∧ 3 ≤ j ∧ j ≤ 6) ∨ b = 70 ∨ b = 71 ∨ b = 72) σ s) n ?_ ?_ 0 (by omega) s1 ⟨by omega, by rw [lp_nil (by omega)]; exact hE1, Off_mono hO1 (fun b j q => by omega)⟩
  · rintro s ⟨_, hE, hO⟩
    refine s_Me_formRank_19 ⟨fun _ => ?_, fun q => by omega⟩
    rw [hE.2.2.2.2.1]
    exact h s (hST.off hO (fun e h' => by have := ech_list h'; omega)) (Off_mono hO (fun b j q => by omega))
  · rintro i s hi ⟨i0, hE, hO⟩ ih
    refine s_Me_formRank_19 ⟨fun q => by omega, fun _ => ?_⟩
    refine loop_up (P := fun j s => L (d + 3) M_Me_formRank 27 [vA 68, vA a, vI n, vI i, vI j, vU, vU, vU] [] s Q)
      (fun j s2 => 0 ≤ j ∧ (∀ c, 0 ≤ c → c < j → s2 72 c = frm p n T i c) ∧ Off (fun b j => b = 72) s s2) n ?_ ?_ 0 (by omega) s ⟨by omega, fun c _ _ => by omega, Off_rfl⟩
    · rintro s2 ⟨_, hv, hO2⟩
      refine s_Me_formRank_27 ⟨fun _ => ?_, fun q => by omega⟩
      have hval : ∀ c, 0 ≤ c → c < n → s2 72 (0 + c) = frm p n T i c := fun c c0 c1 => by rw [show (0 : Int) + c = c by omega]; exact hv c c0 c1
      rw [w32_id (by omega) (by omega)]
      refine Ec_add_s (hE.cg (fun k => hO2 69 k (by omega)) (fun k => hO2 70 k (by omega))) kd_72 (by omega) (by omega) (by omega) (by omega) (fun c c0 c1 => by rw [hval c c0 c1]; exact ⟨Int.emod_nonneg _ (by omega), Int.emod_lt_of_pos _ (by omega)⟩) (fun r s3 hE3 _ hO3 => ih s3 ⟨by omega, ?_, Off_trans hO (Off_trans (Off_mono hO2 (fun b j q => by omega)) (Off_mono hO3 (fun b j q => by omega)))⟩)
      rw [lp_succ i0]
      exact hE3.to (ESm.rfl'.insv (by omega) hval)
    · rintro j s2 hj ⟨j0, hv, hO2⟩ ih2
      have hW2 : WD s2 a p n T := hW.cg (fun k => (hO2 a k (by omega)).trans (hO a k (by omega))) (fun k => (hO2 (a + 1) k (by omega)).trans (hO (a + 1) k (by omega)))
      refine s_Me_formRank_27 ⟨fun q => by omega, fun _ => ?_⟩
      refine loop_up (P := fun x c => L (d + 3) M_Me_formRank 39 [vA 68, vA a, vI n, vI i, vI j, vI c, vI x, vU] [] s2 Q)
        (fun x c => 0 ≤ x ∧ (0 ≤ c ∧ c ≤ 180 * x) ∧ c = sR (fun a => sR (fun b => T (25 * i + 5 * a + b) * T (25 * j + 5 * b + a)) 0 n) 0 x) n ?_ ?_ 0 (by omega) 0 ⟨by omega, by omega, by rw [sR_nil (by omega)]⟩
      · rintro c ⟨_, hcb, hc⟩
        refine s_Me_formRank_39 ⟨fun _ => ⟨ho, ?_⟩, fun q => by omega⟩
        rw [hW2.2.1]
        refine X_mod_s b1 ⟨⟨j0, by omega⟩, fun s3 e3 => ?_⟩
        rw [w32_id (by omega) (by omega)]
        refine ih2 s3 ⟨by omega, fun c' c0 c1 => ?_, fun b k hb => by rw [e3, up_ne (by omega)]; exact hO2 b k hb⟩
        by_cases g : c' = j
        · subst g; rw [e3, up_same, hc]; rfl
        · rw [e3, up_ne (by omega)]; exact hv c' c0 (by omega)
      · rintro x c hx ⟨x0, hcb, hc⟩ ih3
        refine s_Me_formRank_39 ⟨fun q => by omega, fun _ => ?_⟩
        refine loop_up (P := fun y c => L (d + 3) M_Me_formRank 48 [vA 68, vA a, vI n, vI i, vI j, vI c, vI x, vI y] [] s2 Q)
          (fun y c' => 0 ≤ y ∧ (0 ≤ c' ∧ c' ≤ 180 * x + 36 * y) ∧ c' = c + sR (fun b => T (25 * i + 5 * x + b) * T (25 * j + 5 * b + x)) 0 y) n ?_ ?_ 0 (by omega) c ⟨by omega, by omega, by rw [sR_nil (by omega)]; omega⟩
        · rintro c' ⟨_, hcb', hc'⟩
          refine s_Me_formRank_48 ⟨fun _ => ?_, fun q => by omega⟩
          rw [w32_id (by omega) (by omega)]
          exact ih3 c' ⟨by omega, by omega, by rw [sR_succ x0, hc', hc]⟩
        · rintro y c' hy ⟨y0, hcb', hc'⟩ ih4
          have hb := frm_b hT i0 hi j0 hj x0 hx y0 hy
          refine s_Me_formRank_48 ⟨fun q => by omega, fun _ => ⟨ho, hW2.cell ⟨i0, hi⟩ ⟨x0, hx⟩ ⟨y0, hy⟩ ⟨ho, hW2.cell ⟨j0, hj⟩ ⟨y0, hy⟩ ⟨x0, hx⟩ ?_⟩⟩⟩
          rw [w32_id (x := T (25 * i + 5 * x + y) * T (25 * j + 5 * y + x)) (by omega) (by omega), w32_id (by omega) (by omega), w32_id (by omega) (by omega)]
          exact ih4 _ ⟨by omega, by omega, by rw [sR_succ y0, hc']; omega⟩
theorem R_formRank_s {p n : Int} {T : Int → Int} (hR : RW σ p n T) (h : ∀ σ', Off DM σ σ' → Q (cd (FRM p n T).1 n) σ') : Tri (d + 3) M_R_formRank [vA 161] σ Q := by
  obtain ⟨b1, b2, b3, b4⟩ := hR.1.1.b
  have hT := hR.1
  refine t_R_formRank (R_noRows_s (p := p) (w := n) (fun s1 hR1 hO1 => ?_))
  refine loop_up (P := fun i s => L (d + 3) M_R_formRank 6 [vA 161, vI i, vU, vU, vU, vU] [] s Q)
    (fun i s => 0 ≤ i ∧ RR s p n (lp (fun i E => ins p n E (frm p n T i)) 0 i E0) ∧ Off DM σ s) n ?_ ?_ 0 (by omega) s1 ⟨by omega, by rw [lp_nil (by omega)]; exact hR1, Off_mono hO1 (fun b j q => by unfold DM; omega)⟩
  · rintro s ⟨_, hE, hO⟩
    have e27 : s 161 27 = n := (hR.dm hO).2.2.1
    refine s_R_formRank_6 ⟨fun _ => ?_, fun q => by omega⟩
    rw [hE.1]
    exact h s hO
  · rintro i s hi ⟨i0, hE, hO⟩ ih
    have e27 : s 161 27 = n := (hR.dm hO).2.2.1
    refine s_R_formRank_6 ⟨fun q => by omega, fun _ => ?_⟩
    have up18 : ∀ t, Off (fun b j => b = 180) s t → RW t p n T := fun t ht => hR.dm (Off_trans hO (Off_mono ht (fun b j q => by unfold DM; omega)))
    refine loop_up (P := fun j s => L (d + 3) M_R_formRank 16 [vA 161, vI i, vI j, vU, vU, vU] [] s Q)
      (fun j s2 => 0 ≤ j ∧ (∀ c, 0 ≤ c → c < j → s2 180 c = frm p n T i c) ∧ Off (fun b j => b = 180) s s2) n ?_ ?_ 0 (by omega) s ⟨by omega, fun c _ _ => by omega, Off_rfl⟩
    · rintro s2 ⟨_, hv, hO2⟩
      have e27 := (up18 s2 hO2).2.2.1
      refine s_R_formRank_16 ⟨fun _ => ?_, fun q => by omega⟩
      rw [e27, w32_id (by omega) (by omega)]
      refine R_addEquation_s hR.1.1.pr (up18 s2 hO2).2.1 (by omega) (by omega) (hE.cg (hO2 161 39 (by omega)) (fun k => hO2 179 k (by omega))) (fun c c0 c1 => by rw [hv c c0 c1]; exact ⟨Int.emod_nonneg _ (by omega), Int.emod_lt_of_pos _ (by omega)⟩) (fun s3 hR3 hO3 => ih s3 ⟨by omega, ?_, Off_trans hO (Off_trans (Off_mono hO2 (fun b j q => by unfold DM; omega)) (Off_mono hO3 (fun b j q => by unfold DM; omega)))⟩)
      rw [lp_succ i0]
      exact hR3.to (ESm.rfl'.insv (by omega) hv)
    · rintro j s2 hj ⟨j0, hv, hO2⟩ ih2
      have hR2 := up18 s2 hO2
      have e27 := hR2.2.2.1
      have e26 := hR2.2.1
      refine s_R_formRank_16 ⟨fun q => by omega, fun _ => ?_⟩
      refine loop_up (P := fun x c => L (d + 3) M_R_formRank 29 [vA 161, vI i, vI j, vI c, vI x, vU] [] s2 Q)
        (fun x c => 0 ≤ x ∧ (0 ≤ c ∧ c ≤ 180 * x) ∧ c = sR (fun b => sR (fun m => T (25 * j + 5 * b + m) * T (25 * i + 5 * m + b)) 0 n) 0 x) n ?_ ?_ 0 (by omega) 0 ⟨by omega, by omega, by rw [sR_nil (by omega)]⟩
      · rintro c ⟨_, hcb, hc⟩
        refine s_R_formRank_29 ⟨fun _ => ?_, fun q => by omega⟩
        rw [e26, Int.tmod_eq_emod_of_nonneg hcb.1, w32_id (by omega) (by omega)]
        refine ⟨by omega, ⟨j0, by omega⟩, fun s3 e3 => ih2 s3 ⟨by omega, fun c' c0 c1 => ?_, fun b k hb => by rw [e3, up_ne (by omega)]; exact hO2 b k hb⟩⟩
        by_cases g : c' = j
        · subst g
          rw [e3, up_same, hc]
          unfold frm
          congr 1
          rw [sR_swap]
          apply sR_congr
          intro x _ _
          apply sR_congr
          intro y _ _
          exact Int.mul_comm _ _
        · rw [e3, up_ne (by omega)]; exact hv c' c0 (by omega)
      · rintro x c hx ⟨x0, hcb, hc⟩ ih3
        refine s_R_formRank_29 ⟨fun q => by omega, fun _ => ?_⟩
        refine loop_up (P := fun y c => L (d + 3) M_R_formRank 41 [vA 161, vI i, vI j, vI c, vI x, vI y] [] s2 Q)
          (fun y c' => 0 ≤ y ∧ (0 ≤ c' ∧ c' ≤ 180 * x + 36 * y) ∧ c' = c + sR (fun m => T (25 * j + 5 * x + m) * T (25 * i + 5 * m + x)) 0 y) n ?_ ?_ 0 (by omega) c ⟨by omega, by omega, by rw [sR_nil (by omega)]; omega⟩
        · rintro c' ⟨_, hcb', hc'⟩
          refine s_R_formRank_41 ⟨fun _ => ?_, fun q => by omega⟩
          rw [w32_id (by omega) (by omega)]
          exact ih3 c' ⟨by omega, by omega, by rw [sR_succ x0, hc', hc]⟩
        · rintro y c' hy ⟨y0, hcb', hc'⟩ ih4
          have hb := frm_b hT j0 hj i0 hi x0 hx y0 hy
          refine s_R_formRank_41 ⟨fun q => by omega, fun _ => R_table_s hR2 ⟨j0, by omega⟩ ⟨x0, by omega⟩ ⟨y0, by omega⟩ (R_table_s hR2 ⟨i0, by omega⟩ ⟨y0, by omega⟩ ⟨x0, by omega⟩ ?_)⟩
          rw [w32_id (x := T (25 * j + 5 * x + y) * T (25 * i + 5 * y + x)) (by omega) (by omega), w32_id (by omega) (by omega), w32_id (by omega) (by omega)]
          exact ih4 _ ⟨by omega, by omega, by rw [sR_succ y0, hc']; omega⟩
/-! powers -/
def MT (σ : SG) (a n : Int) (M : Int → Int → Int) : Prop := ∀ i j, 0 ≤ i → i < n → 0 ≤ j → j < n → σ a (5 * i + j) = M i j
theorem Me_isZero_s {a n : Int} {M : Int → Int → Int} (hk : kd a = (100, 25)) (hn : n ≤ 5) (hn0 : 0 ≤ n) (hM : MT σ a n M) (h1 : Zm n M → Q 1 σ) (h0 : ¬ Zm n M → Q 0 σ) : Tri (d + 1) M_Me_isZero [vA a, vI n] σ Q := by
  refine t_Me_isZero (fun _ => ?_)
  refine loop_up (S := Unit) (P := fun i _ => L (d + 1) M_Me_isZero 2 [vA a, vI n, vI i, vU] [] σ Q) (fun i _ => 0 ≤ i ∧ ∀ i' j, 0 ≤ i' → i' < i → 0 ≤ j → j < n → M i' j = 0) n ?_ ?_ 0 hn0 () ⟨by omega, fun i' j _ _ => by omega⟩
  · rintro _ ⟨_, hall⟩
    exact s_Me_isZero_2 ⟨fun _ => h1 (fun i j i0 i1 j0 j1 => hall i j i0 i1 j0 j1), fun q => by omega⟩
  · rintro i _ hi ⟨i0, hall⟩ ih
    refine s_Me_isZero_2 ⟨fun q => by omega, fun _ => ?_⟩
    refine loop_up (S := Unit) (P := fun j _ => L (d + 1) M_Me_isZero 9 [vA a, vI n, vI i, vI j] [] σ Q) (fun j _ => 0 ≤ j ∧ ∀ j', 0 ≤ j' → j' < j → M i j' = 0) n ?_ ?_ 0 hn0 () ⟨by omega, fun j' _ _ => by omega⟩
    · rintro _ ⟨_, hj⟩
      refine s_Me_isZero_9 ⟨fun _ => ?_, fun q => by omega⟩
      rw [w32_id (by omega) (by omega)]
      refine ih () ⟨by omega, fun i' j q0 q1 j0 j1 => ?_⟩
      by_cases g : i' = i
      · subst g; exact hj j j0 j1
      · exact hall i' j q0 (by omega) j0 j1
    · rintro j _ hj ⟨j0, hjz⟩ ih2
      refine s_Me_isZero_9 ⟨fun q => by omega, fun _ => ?_⟩
      rw [w32_id (x := i * 5) (by omega) (by omega), w32_id (x := i * 5 + j) (by omega) (by omega), w32_id (x := j + 1) (by omega) (by omega), show i * 5 + j = 5 * i + j by omega, hM i j i0 hi j0 hj]
      refine ⟨rd_of hk (by omega) (by omega), fun q => ih2 () ⟨by omega, fun j' q0 q1 => ?_⟩, fun q => h0 (fun z => q (z i j i0 hi j0 hj))⟩
      by_cases g : j' = j
      · subst g; exact q
      · exact hjz j' q0 (by omega)
theorem R_isZero_s {p n a : Int} {T : Int → Int} {M : Int → Int → Int} (hR : RW σ p n T) (hk : kd a = (100, 25)) (hM : MT σ a n M) (h1 : Zm n M → Q 1 σ) (h0 : ¬ Zm n M → Q 0 σ) : Tri (d + 1) M_R_isZero [vA 161, vA a] σ Q := by
  obtain ⟨b1, b2, b3, b4⟩ := hR.1.1.b
  have e27 := hR.2.2.1
  refine t_R_isZero ?_
  refine loop_up (S := Unit) (P := fun i _ => L (d + 1) M_R_isZero 2 [vA 161, vA a, vI i, vU] [] σ Q) (fun i _ => 0 ≤ i ∧ ∀ i' j, 0 ≤ i' → i' < i → 0 ≤ j → j < n → M i' j = 0) n ?_ ?_ 0 (by omega) () ⟨by omega, fun i' j _ _ => by omega⟩
  · rintro _ ⟨_, hall⟩
    exact s_R_isZero_2 ⟨fun _ => h1 (fun i j i0 i1 j0 j1 => hall i j i0 i1 j0 j1), fun q => by omega⟩
  · rintro i _ hi ⟨i0, hall⟩ ih
    refine s_R_isZero_2 ⟨fun q => by omega, fun _ => ?_⟩
    refine loop_up (S := Unit) (P := fun j _ => L (d + 1) M_R_isZero 12 [vA 161, vA a, vI i, vI j] [] σ Q) (fun j _ => 0 ≤ j ∧ ∀ j', 0 ≤ j' → j' < j → M i j' = 0) n ?_ ?_ 0 (by omega) () ⟨by omega, fun j' _ _ => by omega⟩
    · rintro _ ⟨_, hj⟩
      refine s_R_isZero_12 ⟨fun _ => ?_, fun q => by omega⟩
      rw [w32_id (by omega) (by omega)]
      refine ih () ⟨by omega, fun i' j q0 q1 j0 j1 => ?_⟩
      by_cases g : i' = i
      · subst g; exact hj j j0 j1
      · exact hall i' j q0 (by omega) j0 j1
    · rintro j _ hj ⟨j0, hjz⟩ ih2
      refine s_R_isZero_12 ⟨fun q => by omega, fun _ => ?_⟩
      rw [w32_id (x := 5 * i) (by omega) (by omega), w32_id (x := 5 * i + j) (by omega) (by omega), w32_id (x := j + 1) (by omega) (by omega), hM i j i0 hi j0 hj]
      refine ⟨rd_of hk (by omega) (by omega), fun q => ih2 () ⟨by omega, fun j' q0 q1 => ?_⟩, fun q => h0 (fun z => q (z i j i0 hi j0 hj))⟩
      by_cases g : j' = j
      · subst g; exact q
      · exact hjz j' q0 (by omega)
theorem mul36 {x y p : Int} (hp : p ≤ 7) (x0 : 0 ≤ x) (x1 : x < p) (y0 : 0 ≤ y) (y1 : y < p) : 0 ≤ x * y ∧ x * y ≤ 36 := mul_small (A := 6) (B := 6) x0 (by omega) y0 (by omega)
theorem Me_multiply_s {a p n : Int} {T : Int → Int} {A B : Int → Int → Int} (hW : WD σ a p n T) (ha : a ≤ 20) (hA : MT σ 74 n A) (hB : MT σ 73 n B) (hAb : ∀ i j, 0 ≤ i → i < n → 0 ≤ j → j < n → 0 ≤ A i j ∧ A i j < p) (hBb : ∀ i j, 0 ≤ i → i < n → 0 ≤ j → j < n → 0 ≤ B i j ∧ B i j < p)
    (h : ∀ σ', MT σ' 74 n (fun i j => sR (fun m => A i m * B m j) 0 n % p) → Off (fun b j => b = 74 ∨ b = 75) σ σ' → Q 0 σ') : Tri (d + 2) M_Me_multiply [vA 68, vA a] σ Q := by
  obtain ⟨b1, b2, b3, b4⟩ := hW.pn.b
  obtain ⟨ho, hp, hn, _, hT⟩ := id hW
  refine t_Me_multiply ?_
  refine loop_up (P := fun i s => L (d + 2) M_Me_multiply 2 [vA 68, vA a, vI i, vU, vU, vU] [] s Q)
    (fun i s => 0 ≤ i ∧ (∀ i' j, 0 ≤ i' → i' < i → 0 ≤ j → j < n → s 75 (5 * i' + j) = sR (fun m => A i' m * B m j) 0 n % p) ∧ Off (fun b j => b = 75) σ s) n ?_ ?_ 0 (by omega) σ ⟨by omega, fun i' j _ _ => by omega, Off_rfl⟩
  · rintro s ⟨_, hs, hO⟩
    have e2 : s a 2 = n := (hO a 2 (by omega)).trans hn
    refine s_Me_multiply_2 ⟨ho, fun _ => ⟨⟨by omega, by rw [kd_74], by rw [kd_75], by omega, by omega, by omega, by rw [kd_75]; decide, by rw [kd_74]; decide⟩, fun s2 e => ?_⟩, fun q => by omega⟩
    refine h s2 (fun i j i0 i1 j0 j1 => ?_) (fun b k hb => ?_)
    · rw [e, cpy_in (by omega) (by omega), show (0 : Int) + (5 * i + j - 0) = 5 * i + j by omega]; exact hs i j i0 i1 j0 j1
    · rw [e, cpy_ne (by omega)]; exact hO b k (by omega)
  · rintro i s hi ⟨i0, hs, hO⟩ ih
    have e2 : s a 2 = n := (hO a 2 (by omega)).trans hn
    refine s_Me_multiply_2 ⟨ho, fun q => by omega, fun _ => ?_⟩
    refine loop_up (P := fun j s => L (d + 2) M_Me_multiply 12 [vA 68, vA a, vI i, vI j, vU, vU] [] s Q)
      (fun j s2 => 0 ≤ j ∧ (∀ i' j', 0 ≤ i' → 0 ≤ j' → j' < n → (i' < i ∨ (i' = i ∧ j' < j)) → s2 75 (5 * i' + j') = sR (fun m => A i' m * B m j') 0 n % p) ∧ Off (fun b j => b = 75) σ s2) n ?_ ?_ 0 (by omega) s ⟨by omega, fun i' j' q0 q1 q2 q3 => hs i' j' q0 (by omega) q1 q2, hO⟩
    · rintro s2 ⟨_, hs2, hO2⟩
      have e2 : s2 a 2 = n := (hO2 a 2 (by omega)).trans hn
      refine s_Me_multiply_12 ⟨ho, fun _ => ?_, fun q => by omega⟩
      rw [w32_id (by omega) (by omega)]
      exact ih s2 ⟨by omega, fun i' j' q0 q1 q2 q3 => hs2 i' j' q0 q2 q3 (by omega), hO2⟩
    · rintro j s2 hj ⟨j0, hs2, hO2⟩ ih2
      have e2 : s2 a 2 = n := (hO2 a 2 (by omega)).trans hn
      have e1 : s2 a 1 = p := (hO2 a 1 (by omega)).trans hp
      refine s_Me_multiply_12 ⟨ho, fun q => by omega, fun _ => ?_⟩
      refine loop_up (P := fun m c => L (d + 2) M_Me_multiply 26 [vA 68, vA a, vI i, vI j, vI c, vI m] [] s2 Q)
        (fun m c => 0 ≤ m ∧ (0 ≤ c ∧ c ≤ 36 * m) ∧ c = sR (fun m => A i m * B m j) 0 m) n ?_ ?_ 0 (by omega) 0 ⟨by omega, by omega, by rw [sR_nil (by omega)]⟩
      · rintro c ⟨_, hcb, hc⟩
        refine s_Me_multiply_26 ⟨ho, fun _ => ⟨ho, ?_⟩, fun q => by omega⟩
        rw [e1, w32_id (x := i * 5) (by omega) (by omega), w32_id (x := i * 5 + j) (by omega) (by omega), w32_id (x := j + 1) (by omega) (by omega), show i * 5 + j = 5 * i + j by omega]
        refine X_mod_s b1 ⟨⟨by omega, by omega⟩, fun s3 e3 => ih2 s3 ⟨by omega, fun i' j' q0 q1 q2 q3 => ?_, fun b k hb => by rw [e3, up_ne (by omega)]; exact hO2 b k hb⟩⟩
        by_cases g : i' = i ∧ j' = j
        · rw [g.1, g.2, e3, up_same, hc]
        · rw [e3, up_ne (by omega)]; exact hs2 i' j' q0 q1 q2 (by omega)
      · rintro m c hm ⟨m0, hcb, hc⟩ ih3
        have h1 := hAb i m i0 hi m0 hm
        have h2 := hBb m j m0 hm j0 hj
        have h3 := mul36 b2 h1.1 h1.2 h2.1 h2.2
        refine s_Me_multiply_26 ⟨ho, fun q => by omega, fun _ => ?_⟩
        rw [w32_id (x := i * 5) (by omega) (by omega), w32_id (x := i * 5 + m) (by omega) (by omega), w32_id (x := m * 5) (by omega) (by omega), w32_id (x := m * 5 + j) (by omega) (by omega), w32_id (x := m + 1) (by omega) (by omega), show i * 5 + m = 5 * i + m by omega, show m * 5 + j = 5 * m + j by omega, hO2 74 _ (by omega), hO2 73 _ (by omega), hA i m i0 hi m0 hm, hB m j m0 hm j0 hj, w32_id (x := A i m * B m j) (by omega) (by omega), w32_id (x := c + A i m * B m j) (by omega) (by omega)]
        exact ⟨⟨by omega, by omega⟩, ⟨by omega, by omega⟩, ih3 _ ⟨by omega, by omega, by rw [sR_succ m0, hc]⟩⟩
theorem R_times_s {p n x y z : Int} {T : Int → Int} {A B : Int → Int → Int} (hR : RW σ p n T) (hkx : kd x = (100, 25)) (hky : kd y = (100, 25)) (hkz : kd z = (100, 25)) (hz0 : 170 ≤ z ∧ z < 196) (hzx : z ≠ x) (hzy : z ≠ y) (hA : MT σ x n A) (hB : MT σ y n B) (hAb : ∀ i j, 0 ≤ i → i < n → 0 ≤ j → j < n → 0 ≤ A i j ∧ A i j < p) (hBb : ∀ i j, 0 ≤ i → i < n → 0 ≤ j → j < n → 0 ≤ B i j ∧ B i j < p)
    (h : ∀ σ', MT σ' z n (fun i j => sR (fun m => A i m * B m j) 0 n % p) → Off (fun b j => b = z) σ σ' → Q 0 σ') : Tri (d + 2) M_R_times [vA 161, vA x, vA y, vA z] σ Q := by
  obtain ⟨b1, b2, b3, b4⟩ := hR.1.1.b
  have e27 := hR.2.2.1
  refine t_R_times ?_
  refine loop_up (P := fun i s => L (d + 2) M_R_times 3 [vA 161, vA x, vA y, vA z, vI i, vU, vU, vU] [] s Q)
    (fun i s => 0 ≤ i ∧ (∀ i' j, 0 ≤ i' → i' < i → 0 ≤ j → j < n → s z (5 * i' + j) = sR (fun m => A i' m * B m j) 0 n % p) ∧ Off (fun b j => b = z) σ s) n ?_ ?_ 0 (by omega) σ ⟨by omega, fun i' j _ _ => by omega, Off_rfl⟩
  · rintro s ⟨_, hs, hO⟩
    have e2 : s 161 27 = n := (hO 161 27 (by omega)).trans e27
    exact s_R_times_3 ⟨fun _ => h s (fun i j i0 i1 j0 j1 => hs i j i0 i1 j0 j1) hO, fun q => by omega⟩
  · rintro i s hi ⟨i0, hs, hO⟩ ih
    have e2 : s 161 27 = n := (hO 161 27 (by omega)).trans e27
    refine s_R_times_3 ⟨fun q => by omega, fun _ => ?_⟩
    refine loop_up (P := fun j s => L (d + 2) M_R_times 15 [vA 161, vA x, vA y, vA z, vI i, vI j, vU, vU] [] s Q)
      (fun j s2 => 0 ≤ j ∧ (∀ i' j', 0 ≤ i' → 0 ≤ j' → j' < n → (i' < i ∨ (i' = i ∧ j' < j)) → s2 z (5 * i' + j') = sR (fun m => A i' m * B m j') 0 n % p) ∧ Off (fun b j => b = z) σ s2) n ?_ ?_ 0 (by omega) s ⟨by omega, fun i' j' q0 q1 q2 q3 => hs i' j' q0 (by omega) q1 q2, hO⟩
    · rintro s2 ⟨_, hs2, hO2⟩
      have e2 : s2 161 27 = n := (hO2 161 27 (by omega)).trans e27
      refine s_R_times_15 ⟨fun _ => ?_, fun q => by omega⟩
      rw [w32_id (by omega) (by omega)]
      exact ih s2 ⟨by omega, fun i' j' q0 q1 q2 q3 => hs2 i' j' q0 q2 q3 (by omega), hO2⟩
    · rintro j s2 hj ⟨j0, hs2, hO2⟩ ih2
      have e2 : s2 161 27 = n := (hO2 161 27 (by omega)).trans e27
      have e1 : s2 161 26 = p := (hO2 161 26 (by omega)).trans hR.2.1
      refine s_R_times_15 ⟨fun q => by omega, fun _ => ?_⟩
      refine loop_up (P := fun m c => L (d + 2) M_R_times 30 [vA 161, vA x, vA y, vA z, vI i, vI j, vI c, vI m] [] s2 Q)
        (fun m c => 0 ≤ m ∧ (0 ≤ c ∧ c ≤ 36 * m) ∧ c = sR (fun m => A i m * B m j) 0 m) n ?_ ?_ 0 (by omega) 0 ⟨by omega, by omega, by rw [sR_nil (by omega)]⟩
      · rintro c ⟨_, hcb, hc⟩
        refine s_R_times_30 ⟨fun _ => ?_, fun q => by omega⟩
        rw [e1, w32_id (x := 5 * i) (by omega) (by omega), w32_id (x := 5 * i + j) (by omega) (by omega), w32_id (x := j + 1) (by omega) (by omega), Int.tmod_eq_emod_of_nonneg hcb.1]
        refine ⟨by omega, wr_of (by omega) hkz (by omega) (by omega), fun s3 e3 => ih2 s3 ⟨by omega, fun i' j' q0 q1 q2 q3 => ?_, fun b k hb => by rw [e3, up_ne (by omega)]; exact hO2 b k hb⟩⟩
        by_cases g : i' = i ∧ j' = j
        · rw [g.1, g.2, e3, up_same, hc]
        · rw [e3, up_ne (by omega)]; exact hs2 i' j' q0 q1 q2 (by omega)
      · rintro m c hm ⟨m0, hcb, hc⟩ ih3
        have h1 := hAb i m i0 hi m0 hm
        have h2 := hBb m j m0 hm j0 hj
        have h3 := mul36 b2 h1.1 h1.2 h2.1 h2.2
        refine s_R_times_30 ⟨fun q => by omega, fun _ => ?_⟩
        rw [w32_id (x := 5 * i) (by omega) (by omega), w32_id (x := 5 * i + m) (by omega) (by omega), w32_id (x := 5 * m) (by omega) (by omega), w32_id (x := 5 * m + j) (by omega) (by omega), w32_id (x := m + 1) (by omega) (by omega), hO2 x _ (by omega), hO2 y _ (by omega), hA i m i0 hi m0 hm, hB m j m0 hm j0 hj, w32_id (x := A i m * B m j) (by omega) (by omega), w32_id (x := c + A i m * B m j) (by omega) (by omega)]
        exact ⟨rd_of hkx (by omega) (by omega), rd_of hky (by omega) (by omega), ih3 _ ⟨by omega, by omega, by rw [sR_succ m0, hc]⟩⟩
theorem Me_vanishingPower_s {a p n x : Int} {T : Int → Int} (hW : WD σ a p n T) (ha : a ≤ 20) (hx : 0 ≤ x) (h : ∀ r σ', LPw p n (mtx p n T (dg p x)) r → Off (fun b j => 72 ≤ b ∧ b ≤ 76) σ σ' → Q r σ') : Tri (d + 4) M_Me_vanishingPower [vA 68, vA a, vI x] σ Q := by
  obtain ⟨b1, b2, b3, b4⟩ := hW.pn.b
  obtain ⟨ho, hp, hn, _, hT⟩ := id hW
  obtain ⟨kw1, _, _⟩ := kd_world ho
  have hMb : ∀ i j, 0 ≤ i → i < n → 0 ≤ j → j < n → 0 ≤ mtx p n T (dg p x) i j ∧ mtx p n T (dg p x) i j < p := fun i j _ _ _ _ => ⟨Int.emod_nonneg _ (by omega), Int.emod_lt_of_pos _ (by omega)⟩
  refine t_Me_vanishingPower (fun _ => ⟨ho, ?_⟩)
  refine Wd_unpack_s ho (by rw [hp, hn]; exact hW.pn) (by omega) kd_72 (by omega) (by omega) (by rw [hn]; omega) (by omega) hx (fun s1 h1 hO1 => ?_)
  rw [hp, hn] at h1
  rw [hn] at hO1
  refine loop_up (P := fun j s => L (d + 4) M_Me_vanishingPower 12 [vA 68, vA a, vU, vI j] [] s Q)
    (fun j s => 0 ≤ j ∧ (∀ c, 0 ≤ c → c < n → s 72 (0 + c) = dg p x c) ∧ (∀ j' k, 0 ≤ j' → j' < j → 0 ≤ k → k < n → s 73 (5 * j' + k) = mtx p n T (dg p x) j' k) ∧ Off (fun b j => 72 ≤ b ∧ b ≤ 76) σ s) n ?_ ?_ 0 (by omega) s1 ⟨by omega, h1, fun j' k _ _ => by omega, Off_mono hO1 (fun b j q => by omega)⟩
  · rintro s ⟨_, _, hM, hO⟩
    have e2 : s a 2 = n := (hO a 2 (by omega)).trans hn
    refine s_Me_vanishingPower_12 ⟨ho, fun _ => ⟨⟨by omega, by rw [kd_74], by rw [kd_73], by omega, by omega, by omega, by rw [kd_73]; decide, by rw [kd_74]; decide⟩, fun s2 e => ?_⟩, fun q => by omega⟩
    refine loop_up (P := fun e s => L (d + 4) M_Me_vanishingPower 81 [vA 68, vA a, vU, vI e] [] s Q)
      (fun e s => 1 ≤ e ∧ MT s 73 n (mtx p n T (dg p x)) ∧ MT s 74 n (mpw p n (mtx p n T (dg p x)) (e - 1).toNat) ∧ (∀ k : Nat, (k : Int) < e - 1 → ¬ Zm n (mpw p n (mtx p n T (dg p x)) k)) ∧ Off (fun b j => 72 ≤ b ∧ b ≤ 76) σ s) (n + 1) ?_ ?_ 1 (by omega) s2 ⟨by omega, fun i j i0 i1 j0 j1 => by rw [e, cpy_ne (by omega)]; exact hM i j i0 i1 j0 j1, fun i j i0 i1 j0 j1 => ?_, fun k hk => by omega, fun b k hb => by rw [e, cpy_ne (by omega)]; exact hO b k hb⟩
    · rintro t ⟨_, _, _, hno, hOt⟩
      have e2 : t a 2 = n := (hOt a 2 (by omega)).trans hn
      exact s_Me_vanishingPower_81 ⟨ho, fun _ => h 0 t (Or.inl ⟨rfl, fun k hk => hno k (by omega)⟩) hOt, fun q => by omega⟩
    · rintro e t he ⟨e0, h73, h74, hno, hOt⟩ ih
      have hWt : WD t a p n T := hW.cg (fun k => hOt a k (by omega)) (fun k => hOt (a + 1) k (by omega))
      have e2 : t a 2 = n := hWt.2.2.1
      refine s_Me_vanishingPower_81 ⟨ho, fun q => by omega, fun _ => ⟨ho, ?_⟩⟩
      rw [e2]
      refine Me_isZero_s kd_74 b4 (by omega) h74 (fun hz => ⟨fun q => by omega, fun _ => h e t (Or.inr ⟨e0, by omega, hz, hno⟩) hOt⟩) (fun hz => ⟨fun _ => ?_, fun q => by omega⟩)
      refine Me_multiply_s hWt ha h74 h73 (fun i j i0 i1 j0 j1 => mpw_in b1 hMb _ i j i0 i1 j0 j1) hMb (fun t2 h742 hO2 => ?_)
      rw [w32_id (by omega) (by omega)]
      refine ih t2 ⟨by omega, fun i j i0 i1 j0 j1 => by rw [hO2 73 _ (by omega)]; exact h73 i j i0 i1 j0 j1, ?_, fun k hk => ?_, Off_trans hOt (Off_mono hO2 (fun b j q => by omega))⟩
      · rw [show (e + 1 - 1).toNat = (e - 1).toNat + 1 by omega]; exact h742
      · by_cases g : (k : Int) = e - 1
        · rw [show k = (e - 1).toNat by omega]; exact hz
        · exact hno k (by omega)
    · rw [e, cpy_in (by omega) (by omega), show (0 : Int) + (5 * i + j - 0) = 5 * i + j by omega]
      exact hM i j i0 i1 j0 j1
  · rintro j s hj ⟨j0, hv, hM, hO⟩ ih
    have hWs : WD s a p n T := hW.cg (fun k => hO a k (by omega)) (fun k => hO (a + 1) k (by omega))
    have e2 : s a 2 = n := hWs.2.2.1
    refine L_units_of (fun hUN => ?_)
    refine s_Me_vanishingPower_12 ⟨ho, fun q => by omega, fun _ => ⟨ho, ?_⟩⟩
    rw [w32_id (x := j * 5) (by omega) (by omega), w32_id (x := j + 1) (by omega) (by omega)]
    refine Wd_br_s hWs kd_72 kd_m2 (by omega) kd_76 (by omega) (by omega) (by omega) (by omega) (by omega) (by omega) (by omega) (by omega) (by omega) (by omega) (by omega) (fun c c0 c1 => ⟨hv c c0 c1, dg_in b1⟩) (hUN.row j0 (by omega) b1 b4) (fun t ht hOt => ⟨ho, ?_⟩)
    have e2t : t a 2 = n := (hOt a 2 (by omega)).trans e2
    rw [e2t]
    refine ⟨⟨by omega, by rw [kd_73], by rw [kd_76], by omega, by omega, by omega, by rw [kd_76]; simp only; omega, by rw [kd_73]; simp only; omega⟩, fun t2 e => ih t2 ⟨by omega, fun c c0 c1 => ?_, fun j' k q0 q1 k0 k1 => ?_, fun b k hb => ?_⟩⟩
    · rw [e, cpy_ne (by omega), hOt 72 _ (by omega)]; exact hv c c0 c1
    · by_cases g : j' = j
      · subst g
        rw [e, cpy_in (by omega) (by omega), show (0 : Int) + (5 * j' + k - j' * 5) = k by omega]
        exact (ht k k0 k1).1
      · rw [e, cpy_ne (by omega), hOt 73 _ (by omega)]; exact hM j' k q0 (by omega) k0 k1
    · rw [e, cpy_ne (by omega), hOt b k (by omega)]; exact hO b k hb
theorem R_matrixOf_s {p n x : Int} {T : Int → Int} (hR : RW σ p n T) (hx : 0 ≤ x) (h : ∀ σ', MT σ' 190 n (mtx p n T (dg p x)) → Off DM σ σ' → Q 0 σ') : Tri (d + 4) M_R_matrixOf [vA 161, vI x] σ Q := by
  obtain ⟨b1, b2, b3, b4⟩ := hR.1.1.b
  refine t_R_matrixOf (fun _ => R_parts2_s hR (by omega) kd_175 (by omega) (by omega) (by omega) (by omega) hx (fun s1 h1 hO1 => ?_))
  refine loop_up (P := fun j s => L (d + 4) M_R_matrixOf 12 [vA 161, vU, vI j, vU] [] s Q)
    (fun j s => 0 ≤ j ∧ (∀ c, 0 ≤ c → c < n → s 175 (0 + c) = dg p x c) ∧ (∀ j' k, 0 ≤ j' → j' < j → 0 ≤ k → k < n → s 190 (5 * j' + k) = mtx p n T (dg p x) j' k) ∧ Off DM σ s) n ?_ ?_ 0 (by omega) s1 ⟨by omega, h1, fun j' k _ _ => by omega, Off_mono hO1 (fun b j q => by unfold DM; omega)⟩
  · rintro s ⟨_, _, hM, hO⟩
    have e27 := (hR.dm hO).2.2.1
    exact s_R_matrixOf_12 ⟨fun _ => h s (fun i j i0 i1 j0 j1 => hM i j i0 i1 j0 j1) hO, fun q => by omega⟩
  · rintro j s hj ⟨j0, hv, hM, hO⟩ ih
    have hRs := hR.dm hO
    have e27 := hRs.2.2.1
    refine s_R_matrixOf_12 ⟨fun q => by omega, fun _ => R_unit_s hRs (by omega) kd_176 (by omega) (by omega) (fun t hu hOt => ?_)⟩
    have hu2 : ∀ c, 0 ≤ c → c < n → t 176 (0 + c) = EU.2 j c := fun c c0 c1 => by
      rw [show (0 : Int) + c = c by omega, hu c c0 c1]
      show _ = (if j = c then (1 : Int) else 0)
      by_cases e : c = j
      · rw [if_pos e, if_pos e.symm]
      · rw [if_neg e, if_neg (fun z => e z.symm)]
    have hub := (EWU (p := p) (w := n) b1 j j0 hj rfl).1
    have hv2 : ∀ c, 0 ≤ c → c < n → t 175 (0 + c) = dg p x c := fun c c0 c1 => by rw [hOt 175 _ (by omega)]; exact hv c c0 c1
    have hOt' : Off DM σ t := Off_trans hO (Off_mono hOt (fun b j q => by unfold DM; omega))
    refine R_bracketOf_s (hR.dm hOt') kd_175 kd_176 (by omega) kd_177 (by omega) (by omega) (by omega) (by omega) (by omega) (by omega) (by omega) (by omega) (by omega) (by omega) (by omega) (by omega) (fun c c0 c1 => by rw [hv2 c c0 c1]; exact dg_in b1) (fun c c0 c1 => by rw [hu2 c c0 c1]; exact hub c c0 c1) (fun t2 hb hO2 => ?_)
    have hO2' : Off DM σ t2 := Off_trans hOt' (Off_mono hO2 (fun b j q => by unfold DM; omega))
    have hb2 : ∀ c, 0 ≤ c → c < n → t2 177 c = mtx p n T (dg p x) j c := fun c c0 c1 => by rw [hb c c0 c1]; exact br_cg hv2 hu2
    refine loop_up (P := fun k s => L (d + 4) M_R_matrixOf 49 [vA 161, vU, vI j, vI k] [] s Q)
      (fun k t3 => 0 ≤ k ∧ (∀ k', 0 ≤ k' → k' < k → t3 190 (5 * j + k') = mtx p n T (dg p x) j k') ∧ (∀ c, c < 5 * j → t3 190 c = t2 190 c) ∧ Off (fun b j => b = 190) t2 t3) n ?_ ?_ 0 (by omega) t2 ⟨by omega, fun k' _ _ => by omega, fun _ _ => rfl, Off_rfl⟩
    · rintro t3 ⟨_, h3, h3', hO3⟩
      have hO3' : Off DM σ t3 := Off_trans hO2' (Off_mono hO3 (fun b j q => by unfold DM; omega))
      have e27 := (hR.dm hO3').2.2.1
      refine s_R_matrixOf_49 ⟨fun _ => ?_, fun q => by omega⟩
      rw [w32_id (by omega) (by omega)]
      refine ih t3 ⟨by omega, fun c c0 c1 => ?_, fun j' k q0 q1 k0 k1 => ?_, hO3'⟩
      · rw [hO3 175 _ (by omega), hO2 175 _ (by omega)]; exact hv2 c c0 c1
      · by_cases g : j' = j
        · subst g; exact h3 k k0 k1
        · rw [h3' _ (by omega), hO2 190 _ (by omega), hOt 190 _ (by omega)]; exact hM j' k q0 (by omega) k0 k1
    · rintro k t3 hk ⟨k0, h3, h3', hO3⟩ ih3
      have hO3' : Off DM σ t3 := Off_trans hO2' (Off_mono hO3 (fun b j q => by unfold DM; omega))
      have e27 := (hR.dm hO3').2.2.1
      refine s_R_matrixOf_49 ⟨fun q => by omega, fun _ => ?_⟩
      rw [w32_id (x := 5 * j) (by omega) (by omega), w32_id (x := 5 * j + k) (by omega) (by omega), w32_id (x := k + 1) (by omega) (by omega), hO3 177 k (by omega), hb2 k k0 hk]
      refine ⟨⟨k0, by omega⟩, ⟨by omega, by omega⟩, fun t4 e4 => ih3 t4 ⟨by omega, fun k' q0 q1 => ?_, fun c hc => ?_, fun b k hb => by rw [e4, up_ne (by omega)]; exact hO3 b k hb⟩⟩
      · by_cases g : k' = k
        · subst g; rw [e4, up_same]
        · rw [e4, up_ne (by omega)]; exact h3 k' q0 (by omega)
      · rw [e4, up_ne (by omega)]; exact h3' c hc
end FRM
