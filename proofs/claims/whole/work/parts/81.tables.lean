/-! ===== all TABLES of a small SIZE ===== -/
def TBY (p n x : Int) : Int → Int := MK p n (fun i j k => dg p x (n * ci n i j + k))
def nTB (n : Int) : Int := n * (n - 1) / 2 * n
noncomputable def FRS (p n : Int) : Nat → List Int
  | 0 => []
  | x + 1 => @ite (List Int) (LAWF p n (TBY p n x) ∧ ∀ y ∈ FRS p n x, ¬ SEE p n (TBY p n x) (TBY p n y)) (Classical.propDecidable _) (FRS p n x ++ [(x : Int)]) (FRS p n x)
noncomputable def LWS (p n : Int) : Nat → Int
  | 0 => 0
  | x + 1 => @ite Int (LAWF p n (TBY p n x)) (Classical.propDecidable _) (LWS p n x + 1) (LWS p n x)
theorem LWS_b {p n : Int} : ∀ x : Nat, 0 ≤ LWS p n x ∧ LWS p n x ≤ x
  | 0 => by unfold LWS; omega
  | x + 1 => by
    have := LWS_b (p := p) (n := n) x
    unfold LWS
    split <;> omega
theorem FRS_b {p n : Int} : ∀ x : Nat, (FRS p n x).length ≤ x ∧ ∀ y ∈ FRS p n x, 0 ≤ y ∧ y < x
  | 0 => ⟨Nat.le_refl _, fun y hy => by unfold FRS at hy; simp at hy⟩
  | x + 1 => by
    obtain ⟨h1, h2⟩ := FRS_b (p := p) (n := n) x
    unfold FRS
    split
    · refine ⟨by rw [List.length_append]; simp; omega, fun y hy => ?_⟩
      rcases List.mem_append.mp hy with z | z
      · have := h2 y z; omega
      · simp at z; omega
    · exact ⟨by omega, fun y hy => by have := h2 y hy; omega⟩
theorem getD_at {fs : List Int} {q : Nat} (h : q < fs.length) : fs.getD q 0 = fs[q] := by simp [List.getD, h]
theorem getD_app1 {fs : List Int} {x : Int} {q : Nat} (h : q < fs.length) : (fs ++ [x]).getD q 0 = fs.getD q 0 := by simp [List.getD, List.getElem?_append, h]
theorem getD_app2 {fs : List Int} {x : Int} : (fs ++ [x]).getD fs.length 0 = x := by simp [List.getD]
theorem BCH_cg {p n : Int} {T T' : Int → Int} {B B' : Int → Int → Int} (hn : 0 ≤ n) (hn5 : n ≤ 5) (hT : ∀ t, 0 ≤ t → t < 125 → T t = T' t) (hB : ∀ i c, 0 ≤ i → i < n → 0 ≤ c → c < n → B i c = B' i c) (hok : BOK p n B) {i j k : Int} (i0 : 0 ≤ i) (i1 : i < n) (j0 : 0 ≤ j) (j1 : j < n) (k0 : 0 ≤ k) (k1 : k < n) : BCH p n T B i j k = BCH p n T' B' i j k := by
  show sR (fun l => br p n T (B i) (B j) l * (AUG p n B).2 l (n + k)) 0 n = sR (fun l => br p n T' (B' i) (B' j) l * (AUG p n B').2 l (n + k)) 0 n
  apply sR_congr
  intro l l0 l1
  have e1 : br p n T (B i) (B j) l = br p n T' (B' i) (B' j) l := by
    rw [br_cg (T := T) (fun c c0 c1 => hB i c i0 i1 c0 c1) (fun c c0 c1 => hB j c j0 j1 c0 c1)]
    unfold br
    congr 1
    exact sR_congr (fun a a0 a1 => sR_congr (fun b c0 c1 => by rw [hT _ (by omega) (by omega)]))
  rw [e1, (AUG_cg hn hB).2 l (n + k) l0 (by omega) (hok l l0 l1) (by omega) (by omega)]
theorem BOK_cg {p n : Int} {B B' : Int → Int → Int} (hn : 0 ≤ n) (hB : ∀ i c, 0 ≤ i → i < n → 0 ≤ c → c < n → B i c = B' i c) (h : BOK p n B) : BOK p n B' := fun l l0 l1 => by
  rw [← (AUG_cg (p := p) hn hB).1 l l0 (by omega)]; exact h l l0 l1
theorem SEE_cg {p n : Int} {T1 T2 T1' T2' : Int → Int} (hn : 0 ≤ n) (hn5 : n ≤ 5) (h1 : ∀ t, 0 ≤ t → t < 125 → T1 t = T1' t) (h2 : ∀ t, 0 ≤ t → t < 125 → T2 t = T2' t) (h : SEE p n T1 T2) : SEE p n T1' T2' := by
  obtain ⟨B, hB, hok, ht⟩ := h
  refine ⟨B, hB, hok, fun t t0 t1 => ?_⟩
  rw [← h1 t t0 t1, ht t t0 t1]
  exact MK_cg (fun i j k i0 ij jm k0 km => BCH_cg hn hn5 h2 (fun _ _ _ _ _ _ => rfl) hok i0 (by omega) (by omega) jm k0 km) t0 t1
theorem LAWF_cg {p n : Int} {T T' : Int → Int} (hn5 : n ≤ 5) (h : ∀ t, 0 ≤ t → t < 125 → T t = T' t) : LAWF p n T ↔ LAWF p n T' := by
  have e : ∀ i j k, 0 ≤ i → i < j → j < k → k < n → (Jz p n T i j k ↔ Jz p n T' i j k) := fun i j k i0 ij jk kn => by
    have e2 : ∀ m, 0 ≤ m → m < n → jac p n T i j k m = jac p n T' i j k m := fun m m0 m1 => by
      unfold jac
      congr 1
      apply sR_congr
      intro t t0 t1
      rw [h _ (by omega) (by omega), h (25 * i + 5 * t + m) (by omega) (by omega), h (25 * k + 5 * i + t) (by omega) (by omega), h (25 * j + 5 * t + m) (by omega) (by omega), h (25 * i + 5 * j + t) (by omega) (by omega), h (25 * k + 5 * t + m) (by omega) (by omega)]
    constructor <;> intro g m m0 m1 <;> have := g m m0 m1 <;> rw [e2 m m0 m1] at * <;> exact this
  constructor <;> intro g i j k i0 ij jk kn <;> have := g i j k i0 ij jk kn
  · exact (e i j k i0 ij jk kn).mp this
  · exact (e i j k i0 ij jk kn).mpr this
/-- places in the number of a TABLE -/
theorem cin {n i j k : Int} (hn : n ≤ 3) (i0 : 0 ≤ i) (ij : i < j) (jn : j < n) (k0 : 0 ≤ k) (kn : k < n) : 0 ≤ n * ci n i j + k ∧ n * ci n i j + k < nTB n := by
  have : (n = 2 ∧ i = 0 ∧ j = 1) ∨ (n = 3 ∧ ((i = 0 ∧ j = 1) ∨ (i = 0 ∧ j = 2) ∨ (i = 1 ∧ j = 2))) := by omega
  rcases this with ⟨rfl, rfl, rfl⟩ | ⟨rfl, ⟨rfl, rfl⟩ | ⟨rfl, rfl⟩ | ⟨rfl, rfl⟩⟩ <;> unfold ci nTB <;> omega
theorem ci_k {n i j : Int} : n * ci n i (j + 1) + 0 = n * ci n i j + n := by
  rw [ci_s, Int.mul_add]; omega
theorem ci_j {n i : Int} (i0 : 0 ≤ i) (i1 : i < 5) : n * ci n (i + 1) (i + 1 + 1) + 0 = n * ci n i n + 0 := by rw [ci_0 i0 i1]
theorem ci_00 {n : Int} : n * ci n 0 (0 + 1) + 0 = 0 := by
  have : ci n 0 (0 + 1) = 0 := by unfold ci; omega
  rw [this]; simp
theorem dg_div {p x q : Int} (hq : 0 ≤ q) : dg p x q = x / p ^ q.toNat % p := rfl
theorem div_step {p x q : Int} (hp : 2 ≤ p) (hq : 0 ≤ q) : x / p ^ q.toNat / p = x / p ^ (q + 1).toNat := by
  rw [Int.ediv_ediv_of_nonneg (by have := ppos (p := p) hp q.toNat; omega), show (q + 1).toNat = q.toNat + 1 by omega, Int.pow_succ]
section TBL
variable {d : Nat} {σ : SG} {Q : Int → SG → Prop}
/-- a TABLE from its number: the class -/
theorem Wd_decode_s {a p n x : Int} (ho : obok 10 a) (hpn : PN p n) (hn3 : n ≤ 3) (x0 : 0 ≤ x) (x1 : x < 2147483648) (h : ∀ σ', σ' a 1 = p → σ' a 2 = n → (∀ t, 0 ≤ t → t < 125 → σ' (a + 1) t = TBY p n x t) → Off (fun b j => (b = a ∧ (j = 1 ∨ j = 2)) ∨ b = a + 1) σ σ' → Q 0 σ') : Tri (d + 3) M_Wd_decode [vA a, vI p, vI n, vI x] σ Q := by
  obtain ⟨b1, b2, b3, b4⟩ := hpn.b
  obtain ⟨kw1, _, _⟩ := kd_world ho
  refine t_Wd_decode (fun _ _ _ => ⟨ho, Wd_makeEmpty_s ho hpn ?_⟩)
  generalize hs1 : fil (up (up σ a 1 p) a 2 n) (a + 1) 0 125 0 = s1
  have z1 : s1 a 1 = p := by rw [← hs1, fil_ne (by omega), up_ne (by omega), up_same]
  have z2 : s1 a 2 = n := by rw [← hs1, fil_ne (by omega), up_same]
  have z3 : ∀ t, 0 ≤ t → t < 125 → s1 (a + 1) t = 0 := fun t t0 t1 => by rw [← hs1, fil_in (by omega) (by omega)]
  have hO1 : Off (fun b j => (b = a ∧ (j = 1 ∨ j = 2)) ∨ b = a + 1) σ s1 := fun b j hb => by rw [← hs1, fil_ne (by omega), up_ne (by omega), up_ne (by omega)]
  have hpw : ∀ q, 0 ≤ x / p ^ q ∧ x / p ^ q ≤ x := fun q => by
    have := ppos (p := p) b1 q
    exact ⟨Int.ediv_nonneg x0 (by omega), Int.ediv_le_self _ x0⟩
  generalize hV : (fun i j k => dg p x (n * ci n i j + k)) = V
  have hm : ∀ t, Off (fun b j => b = a + 1) s1 t → t a 1 = p ∧ t a 2 = n := fun t ht => ⟨(ht a 1 (by omega)).trans z1, (ht a 2 (by omega)).trans z2⟩
  refine loop_up (P := fun i (s : Int × SG) => L (d + 3) M_Wd_decode 12 [vA a, vU, vU, vU, vI s.1, vI i, vU, vU, vU] [] s.2 Q) (fun i s => 0 ≤ i ∧ s.1 = x / p ^ (n * ci n i (i + 1) + 0).toNat ∧ (∀ q, 0 ≤ q → q < 125 → s.2 (a + 1) q = MK p n (wl V (fun _ _ _ => 0) i (i + 1) 0) q) ∧ Off (fun b j => b = a + 1) s1 s.2) n ?_ ?_ 0 (by omega) (x, s1) ⟨by omega, by simp only; rw [ci_00]; simp, fun q q0 q1 => by simp only; rw [z3 q q0 q1, wl_0 q0 q1, MK_0], Off_rfl⟩
  · rintro ⟨y, t⟩ ⟨_, _, ht, hO⟩
    simp only at ht hO ⊢
    refine s_Wd_decode_12 ⟨ho, fun _ => h t (hm t hO).1 (hm t hO).2 (fun q q0 q1 => by rw [ht q q0 q1, wl_m (Int.le_refl _) q0 q1, ← hV]; rfl) (Off_trans hO1 (Off_mono hO (fun b j q => by omega))), fun q => ?_⟩
    rw [(hm t hO).2] at q; omega
  · rintro i ⟨y, t⟩ hi ⟨i0, hy, ht, hO⟩ ih
    simp only at hy ht hO ⊢
    refine s_Wd_decode_12 ⟨ho, fun q => by rw [(hm t hO).2] at q; omega, fun _ => ?_⟩
    rw [w32_id (by omega) (by omega)]
    refine loop_up (P := fun j (s : Int × SG) => L (d + 3) M_Wd_decode 27 [vA a, vU, vU, vU, vI s.1, vI i, vI j, vU, vU] [] s.2 Q) (fun j s => i + 1 ≤ j ∧ s.1 = x / p ^ (n * ci n i j + 0).toNat ∧ (∀ q, 0 ≤ q → q < 125 → s.2 (a + 1) q = MK p n (wl V (fun _ _ _ => 0) i j 0) q) ∧ Off (fun b j => b = a + 1) s1 s.2) n ?_ ?_ (i + 1) (by omega) (y, t) ⟨by omega, hy, ht, hO⟩
    · rintro ⟨y2, t2⟩ ⟨_, hy2, ht2, hO2⟩
      simp only at hy2 ht2 hO2 ⊢
      refine s_Wd_decode_27 ⟨ho, fun _ => ?_, fun q => by rw [(hm t2 hO2).2] at q; omega⟩
      rw [w32_id (by omega) (by omega)]
      exact ih (y2, t2) ⟨by omega, by simp only; rw [ci_j i0 (by omega)]; exact hy2, fun q q0 q1 => by simp only; rw [ht2 q q0 q1]; exact wl_j (Int.le_refl _) q0 q1, hO2⟩
    · rintro j ⟨y2, t2⟩ hj ⟨j0, hy2, ht2, hO2⟩ ih2
      simp only at hy2 ht2 hO2 ⊢
      refine s_Wd_decode_27 ⟨ho, fun q => by rw [(hm t2 hO2).2] at q; omega, fun _ => ?_⟩
      refine loop_up (P := fun k (s : Int × SG) => L (d + 3) M_Wd_decode 39 [vA a, vU, vU, vU, vI s.1, vI i, vI j, vI k, vU] [] s.2 Q) (fun k s => 0 ≤ k ∧ s.1 = x / p ^ (n * ci n i j + k).toNat ∧ (∀ q, 0 ≤ q → q < 125 → s.2 (a + 1) q = MK p n (wl V (fun _ _ _ => 0) i j k) q) ∧ Off (fun b j => b = a + 1) s1 s.2) n ?_ ?_ 0 (by omega) (y2, t2) ⟨by omega, hy2, ht2, hO2⟩
      · rintro ⟨y3, t3⟩ ⟨_, hy3, ht3, hO3⟩
        simp only at hy3 ht3 hO3 ⊢
        refine s_Wd_decode_39 ⟨ho, fun _ => ?_, fun q => by rw [(hm t3 hO3).2] at q; omega⟩
        rw [w32_id (by omega) (by omega)]
        exact ih2 (y3, t3) ⟨by omega, by simp only; rw [ci_k]; exact hy3, fun q q0 q1 => by simp only; rw [ht3 q q0 q1]; exact wl_k (Int.le_refl _) q0 q1, hO3⟩
      · rintro k ⟨y3, t3⟩ hk ⟨k0, hy3, ht3, hO3⟩ ih3
        simp only at hy3 ht3 hO3 ⊢
        obtain ⟨m1, m2⟩ := hm t3 hO3
        have hc := (cin hn3 i0 (show i < j by omega) hj k0 hk).1
        have hyb := hpw (n * ci n i j + k).toNat
        have hmod : 0 ≤ y3 % p ∧ y3 % p < p := ⟨Int.emod_nonneg _ (by omega), Int.emod_lt_of_pos _ (by omega)⟩
        refine s_Wd_decode_39 ⟨ho, fun q => by omega, fun _ => ⟨ho, ?_⟩⟩
        rw [m1]
        refine X_mod_s b1 ⟨ho, Wd_setMK ho m1 m2 hpn ht3 i0 (by omega) hj k0 hk (by omega) (fun t4 ht4 hO4 => ⟨ho, ?_⟩)⟩
        have m1' : t4 a 1 = p := by rw [hO4 a 1 (by omega), m1]
        rw [m1']
        refine ⟨fun _ => ⟨ho, by omega, ?_⟩, fun q => by omega⟩
        have e5 : w32 ((w32 (y3 - y3 % p)).tdiv p) = y3 / p := by
          have hle : y3 % p ≤ y3 := by
            have g1 := Int.emod_add_mul_ediv y3 p
            have g2 : 0 ≤ p * (y3 / p) := Int.mul_nonneg (by omega) (Int.ediv_nonneg (by omega) (by omega))
            omega
          rw [w32_id (x := y3 - y3 % p) (by omega) (by omega), Int.tdiv_eq_ediv_of_nonneg (by omega)]
          have e6 : y3 - y3 % p = p * (y3 / p) := by have := Int.emod_add_mul_ediv y3 p; omega
          rw [e6, Int.mul_ediv_cancel_left _ (by omega)]
          have e7 : 0 ≤ y3 / p ∧ y3 / p ≤ y3 := ⟨Int.ediv_nonneg (by omega) (by omega), Int.ediv_le_self _ (by omega)⟩
          exact w32_id (by omega) (by omega)
        rw [e5, w32_id (x := k + 1) (by omega) (by omega)]
        refine ih3 (y3 / p, t4) ⟨by omega, ?_, fun q q0 q1 => ?_, Off_trans hO3 hO4⟩
        · simp only
          rw [hy3, div_step b1 hc, show n * ci n i j + k + 1 = n * ci n i j + (k + 1) by omega]
        · simp only
          rw [ht4 q q0 q1, ← wl_next, ← hV]
          simp only
          rw [dg_div hc, ← hy3]
theorem TW_TBY {p n x : Int} (h : PN p n) : TW p n (TBY p n x) := TW_MK h
theorem SML.b {p n : Int} (h : SML p n) : PN p n ∧ 1 ≤ n ∧ n ≤ 3 ∧ 0 ≤ nTB n ∧ p ^ (nTB n).toNat ≤ 512 ∧ 0 < p ^ (nTB n).toNat := by
  have : (p = 2 ∧ n = 1) ∨ (p = 2 ∧ n = 2) ∨ (p = 2 ∧ n = 3) ∨ (p = 3 ∧ n = 1) ∨ (p = 3 ∧ n = 2) := by unfold SML at h; omega
  refine ⟨h.pn, by unfold SML at h; omega, by unfold SML at h; omega, ?_⟩
  rcases this with ⟨rfl, rfl⟩ | ⟨rfl, rfl⟩ | ⟨rfl, rfl⟩ | ⟨rfl, rfl⟩ | ⟨rfl, rfl⟩ <;> unfold nTB <;> decide
/-- is the TABLE like one of the firsts? -/
theorem Ma_isSeen_s {p n x : Int} {fs : List Int} (hs : SML p n) (h1 : σ 84 1 = p) (h2 : σ 84 2 = n) (hT : ∀ t, 0 ≤ t → t < 125 → σ 85 t = TBY p n x t) (hf : ∀ q : Nat, q < fs.length → σ 88 q = fs.getD q 0) (hfb : ∀ y ∈ fs, 0 ≤ y ∧ y < 512) (hfl : fs.length ≤ 512) (hST : ST σ)
    (hy : (∃ y ∈ fs, SEE p n (TBY p n x) (TBY p n y)) → ∀ σ', ST σ' → Off (fun b j => DL b j ∨ (b = 86 ∧ (j = 1 ∨ j = 2)) ∨ b = 87) σ σ' → Q 1 σ') (hn : (¬ ∃ y ∈ fs, SEE p n (TBY p n x) (TBY p n y)) → ∀ σ', ST σ' → Off (fun b j => DL b j ∨ (b = 86 ∧ (j = 1 ∨ j = 2)) ∨ b = 87) σ σ' → Q 0 σ') : Tri (d + 6) M_Ma_isSeen [vA 78, vI p, vI n, vI fs.length] σ Q := by
  obtain ⟨hpn, n1, n3, _⟩ := hs.b
  obtain ⟨b1, b2, b3, b4⟩ := hpn.b
  refine t_Ma_isSeen (fun _ _ _ => ?_)
  refine loop_up (P := fun q t => L (d + 6) M_Ma_isSeen 3 [vA 78, vI p, vI n, vI fs.length, vI q] [] t Q) (fun q t => 0 ≤ q ∧ (∀ r : Nat, (r : Int) < q → ¬ SEE p n (TBY p n x) (TBY p n (fs.getD r 0))) ∧ ST t ∧ Off (fun b j => DL b j ∨ (b = 86 ∧ (j = 1 ∨ j = 2)) ∨ b = 87) σ t) (fs.length : Int) ?_ ?_ 0 (by omega) σ ⟨by omega, fun r hr => by omega, hST, Off_rfl⟩
  · rintro t ⟨_, hr, hSt, hO⟩
    refine s_Ma_isSeen_3 ⟨fun _ => hn ?_ t hSt hO, fun q => by omega⟩
    rintro ⟨y, hy, hsee⟩
    obtain ⟨r, hr1, hr2⟩ := List.getElem_of_mem hy
    apply hr r (by omega)
    rw [getD_at hr1, hr2]; exact hsee
  · rintro q t hq ⟨q0, hr, hSt, hO⟩ ih
    obtain ⟨q, rfl⟩ := nat_of q0
    have hq' : q < fs.length := by omega
    have e88 : t 88 q = fs.getD q 0 := by rw [hO 88 _ (by unfold DL; omega)]; exact hf q hq'
    have hm : fs.getD q 0 ∈ fs := by rw [getD_at hq']; exact List.getElem_mem hq'
    have hb := hfb _ hm
    refine s_Ma_isSeen_3 ⟨fun z => by omega, fun _ => ⟨⟨by omega, by omega⟩, ?_⟩⟩
    rw [e88]
    refine Wd_decode_s ob_86 hpn n3 hb.1 (by omega) (fun t2 z1 z2 z3 hO2 => ?_)
    have k84 : t2 84 1 = p := by rw [hO2 84 1 (by omega), hO 84 1 (by unfold DL; omega)]; exact h1
    have k842 : t2 84 2 = n := by rw [hO2 84 2 (by omega), hO 84 2 (by unfold DL; omega)]; exact h2
    have k85 : ∀ u, 0 ≤ u → u < 125 → t2 85 u = TBY p n x u := fun u u0 u1 => by rw [hO2 85 _ (by omega), hO 85 _ (by unfold DL; omega)]; exact hT u u0 u1
    have hA : WD t2 84 p n (t2 85) := ⟨ob_84, k84, k842, rfl, TW_cg (TW_TBY hpn) k85⟩
    have hB : WD t2 86 p n (t2 87) := ⟨ob_86, z1, z2, rfl, TW_cg (TW_TBY hpn) z3⟩
    have hS2 : ST t2 := fun e he => by
      have hl := ech_list he
      rw [hO2 e 0 (by omega)]; exact hSt e he
    have hsee : SEE p n (t2 85) (t2 87) ↔ SEE p n (TBY p n x) (TBY p n (fs.getD q 0)) := ⟨fun z => SEE_cg (by omega) b4 k85 z3 z, fun z => SEE_cg (by omega) b4 (fun u u0 u1 => (k85 u u0 u1).symm) (fun u u0 u1 => (z3 u u0 u1).symm) z⟩
    have hO2' : Off (fun b j => DL b j ∨ (b = 86 ∧ (j = 1 ∨ j = 2)) ∨ b = 87) σ t2 := Off_trans hO (Off_mono hO2 (fun b j q => Or.inr (by omega)))
    refine Ma_look_s hA hB (by unfold wad; omega) (by unfold wad; omega) hS2 (fun _ _ t3 _ _ _ _ hS3 hO3 => ?_) (fun z => absurd ⟨rfl, rfl⟩ z)
    have hO3' : Off (fun b j => DL b j ∨ (b = 86 ∧ (j = 1 ∨ j = 2)) ∨ b = 87) σ t3 := Off_trans hO2' (Off_mono hO3 (fun b j q => Or.inl q))
    have hfn := FND_small (T1 := t2 85) (T2 := t2 87) hs hA.2.2.2.2
    rw [show decide ((1 : Int) ≠ 0) = true from rfl]
    by_cases g : 0 < (FND p n (t2 85) (t2 87) true).2.1
    · rw [if_pos g]
      exact ⟨fun z => by omega, fun _ => hy ⟨_, hm, hsee.mp (hfn.mp g)⟩ t3 hS3 hO3'⟩
    · rw [if_neg g]
      refine ⟨fun _ => ?_, fun z => absurd rfl z⟩
      rw [w32_id (by omega) (by omega)]
      refine ih t3 ⟨by omega, fun r hr2 => ?_, hS3, hO3'⟩
      by_cases gr : r = q
      · subst gr; exact fun z => g (hfn.mpr (hsee.mpr z))
      · exact hr r (by omega)
def TBLS (p n wh : Int) (r : Int) : Prop := r = if wh = 0 then LWS p n (p ^ (nTB n).toNat).toNat else ((FRS p n (p ^ (nTB n).toNat).toNat).length : Int)
theorem Ma_countTables_s {p n wh : Int} (hs : SML p n) (hST : ST σ) (h : ∀ r σ', TBLS p n wh r → ST σ' → Off (fun b j => DL b j ∨ (b = 84 ∧ (j = 1 ∨ j = 2)) ∨ b = 85 ∨ (b = 86 ∧ (j = 1 ∨ j = 2)) ∨ b = 87 ∨ b = 88) σ σ' → Q r σ') : Tri (d + 7) M_Ma_countTables [vA 78, vI p, vI n, vI wh] σ Q := by
  obtain ⟨hpn, n1, n3, nt0, hN, hN0⟩ := hs.b
  obtain ⟨b1, b2, b3, b4⟩ := hpn.b
  refine t_Ma_countTables (fun _ _ _ => ?_)
  have hnb : 0 ≤ n * (n - 1) ∧ n * (n - 1) ≤ 6 ∧ 0 ≤ n * (n - 1) / 2 * n ∧ n * (n - 1) / 2 * n ≤ 9 ∧ n * (n - 1) / 2 ≤ 3 ∧ 0 ≤ n * (n - 1) / 2 := by
    have : n = 1 ∨ n = 2 ∨ n = 3 := by omega
    rcases this with rfl | rfl | rfl <;> omega
  rw [w32_id (x := n - 1) (by omega) (by omega), w32_id (x := n * (n - 1)) (by omega) (by omega), Int.tdiv_eq_ediv_of_nonneg (by omega), w32_id (x := n * (n - 1) / 2) (by omega) (by omega), w32_id (by omega) (by omega)]
  change Tri (d + 6) M_X_raised [vI p, vI (nTB n)] σ _
  refine X_raised_s (by omega) nt0 (by omega) ?_
  generalize hNN : p ^ (nTB n).toNat = N at *
  refine loop_up (P := fun x (s : (Int × Int) × SG) => L (d + 7) M_Ma_countTables 24 [vA 78, vI p, vI n, vI wh, vI N, vI s.1.1, vI s.1.2, vI x] [] s.2 Q) (fun x s => 0 ≤ x ∧ s.1.1 = LWS p n x.toNat ∧ (wh = 0 ∨ (s.1.2 = ((FRS p n x.toNat).length : Int) ∧ ∀ q : Nat, q < (FRS p n x.toNat).length → s.2 88 q = (FRS p n x.toNat).getD q 0)) ∧ ST s.2 ∧ Off (fun b j => DL b j ∨ (b = 84 ∧ (j = 1 ∨ j = 2)) ∨ b = 85 ∨ (b = 86 ∧ (j = 1 ∨ j = 2)) ∨ b = 87 ∨ b = 88) σ s.2) N ?_ ?_ 0 (by omega) ((0, 0), σ) ⟨by omega, rfl, Or.inr ⟨rfl, fun q hq => absurd hq (Nat.not_lt_zero _)⟩, hST, Off_rfl⟩
  · rintro ⟨⟨c, f⟩, t⟩ ⟨_, hc, hf, hS, hO⟩
    simp only at hc hf hS hO ⊢
    refine s_Ma_countTables_24 ⟨fun _ => ⟨fun z => h c t ?_ hS hO, fun z => h f t ?_ hS hO⟩, fun q => by omega⟩
    · unfold TBLS; rw [if_pos z, hNN]; exact hc
    · unfold TBLS; rw [if_neg z, hNN]; exact (hf.resolve_left z).1
  · rintro x ⟨⟨c, f⟩, t⟩ hx ⟨x0, hc, hf, hS, hO⟩ ih
    simp only at hc hf hS hO ⊢
    have hlb := LWS_b (p := p) (n := n) x.toNat
    have hfb := FRS_b (p := p) (n := n) x.toNat
    have ex : (x + 1).toNat = x.toNat + 1 := by omega
    have exx : ((x.toNat : Nat) : Int) = x := by omega
    refine s_Ma_countTables_24 ⟨fun q => by omega, fun _ => ⟨fun q => by omega, fun _ => Wd_decode_s ob_84 hpn n3 x0 (by omega) (fun t2 z1 z2 z3 hO2 => ?_)⟩⟩
    have hO2' : Off (fun b j => DL b j ∨ (b = 84 ∧ (j = 1 ∨ j = 2)) ∨ b = 85 ∨ (b = 86 ∧ (j = 1 ∨ j = 2)) ∨ b = 87 ∨ b = 88) σ t2 := Off_trans hO (Off_mono hO2 (fun b j q => Or.inr (by omega)))
    have hS2 : ST t2 := fun e he => by
      have hl := ech_list he
      rw [hO2 e 0 (by omega)]; exact hS e he
    have hTW : TW p n (t2 85) := TW_cg (TW_TBY hpn) z3
    refine Wd_firstBreak_s (a := 84) ⟨ob_84, by rw [z1, z2]; exact hTW⟩ (fun r hr => ?_)
    rw [z1, z2] at hr
    have hlaw : r < 0 ↔ LAWF p n (TBY p n x) := (FB_lawf hr).trans (LAWF_cg b4 z3)
    have hL1 : LAWF p n (TBY p n x) → LWS p n (x.toNat + 1) = LWS p n x.toNat + 1 := fun z => by
      rw [LWS]
      rw [exx, if_pos z]
    have hL0 : ¬ LAWF p n (TBY p n x) → LWS p n (x.toNat + 1) = LWS p n x.toNat := fun z => by
      rw [LWS]
      rw [exx, if_neg z]
    have hF1 : LAWF p n (TBY p n x) → (¬ ∃ y ∈ FRS p n x.toNat, SEE p n (TBY p n x) (TBY p n y)) → FRS p n (x.toNat + 1) = FRS p n x.toNat ++ [x] := fun z w => by
      rw [FRS]
      rw [exx, if_pos ⟨z, fun y hy hse => w ⟨y, hy, hse⟩⟩]
    have hF0 : (¬ LAWF p n (TBY p n x) ∨ ∃ y ∈ FRS p n x.toNat, SEE p n (TBY p n x) (TBY p n y)) → FRS p n (x.toNat + 1) = FRS p n x.toNat := fun z => by
      rw [FRS]
      rw [exx, if_neg (fun w => by
        rcases z with z | ⟨y, hy, hse⟩
        · exact z w.1
        · exact w.2 y hy hse)]
    rw [w32_id (x := x + 1) (by omega) (by omega)]
    have h88 : ∀ q : Nat, t2 88 q = t 88 q := fun q => hO2 88 _ (by omega)
    refine ⟨fun z => ?_, fun z => ⟨fun w0 => ?_, fun w0 => ?_⟩⟩
    · have hno : ¬ LAWF p n (TBY p n x) := fun w => by have := hlaw.mpr w; omega
      refine ih ((c, f), t2) ⟨by omega, ?_, ?_, hS2, hO2'⟩
      · simp only; rw [ex, hL0 hno]; exact hc
      · simp only
        rw [ex, hF0 (Or.inl hno)]
        exact hf.imp id (fun g => ⟨g.1, fun q hq => (h88 q).trans (g.2 q hq)⟩)
    · have hyes := hlaw.mp z
      rw [w32_id (x := c + 1) (by omega) (by omega)]
      exact ih ((c + 1, f), t2) ⟨by omega, by simp only; rw [ex, hL1 hyes, hc], Or.inl w0, hS2, hO2'⟩
    · have hyes := hlaw.mp z
      obtain ⟨g1, g2⟩ := hf.resolve_left w0
      rw [g1, w32_id (x := c + 1) (by omega) (by omega)]
      refine Ma_isSeen_s (x := x) (fs := FRS p n x.toNat) hs z1 z2 z3 (fun q hq => (h88 q).trans (g2 q hq)) (fun y hy => by have := hfb.2 y hy; omega) (by omega) hS2 (fun hsee t3 hS3 hO3 => ⟨fun _ => ?_, fun q => by omega⟩) (fun hsee t3 hS3 hO3 => ⟨fun q => absurd rfl q, fun _ => ⟨⟨by omega, by omega⟩, fun t4 e4 => ?_⟩⟩)
      · have hO3' := Off_trans hO2' (Off_mono hO3 (fun b j q => show DL b j ∨ (b = 84 ∧ (j = 1 ∨ j = 2)) ∨ b = 85 ∨ (b = 86 ∧ (j = 1 ∨ j = 2)) ∨ b = 87 ∨ b = 88 from q.elim Or.inl (fun q => Or.inr (by omega))))
        refine ih ((c + 1, ((FRS p n x.toNat).length : Int)), t3) ⟨by omega, by simp only; rw [ex, hL1 hyes, hc], Or.inr ?_, hS3, hO3'⟩
        simp only
        rw [ex, hF0 (Or.inr hsee)]
        exact ⟨rfl, fun q hq => by rw [hO3 88 _ (by unfold DL; omega), h88]; exact g2 q hq⟩
      · have hO3' := Off_trans hO2' (Off_mono hO3 (fun b j q => show DL b j ∨ (b = 84 ∧ (j = 1 ∨ j = 2)) ∨ b = 85 ∨ (b = 86 ∧ (j = 1 ∨ j = 2)) ∨ b = 87 ∨ b = 88 from q.elim Or.inl (fun q => Or.inr (by omega))))
        rw [w32_id (x := ((FRS p n x.toNat).length : Int) + 1) (by omega) (by omega)]
        refine ih ((c + 1, ((FRS p n x.toNat).length : Int) + 1), t4) ⟨by omega, by simp only; rw [ex, hL1 hyes, hc], Or.inr ?_, fun e he => ?_, fun b j hb => ?_⟩
        · simp only
          rw [ex, hF1 hyes hsee]
          refine ⟨by rw [List.length_append]; simp, fun q hq => ?_⟩
          rw [List.length_append] at hq
          simp only [List.length_singleton] at hq
          by_cases g : q = (FRS p n x.toNat).length
          · subst g
            rw [e4, up_same, getD_app2]
          · rw [e4, up_ne (by omega), hO3 88 _ (by unfold DL; omega), h88, getD_app1 (by omega)]
            exact g2 q (by omega)
        · have hl := ech_list he
          show t4 e 0 = _
          rw [e4, up_ne (by omega)]; exact hS3 e he
        · show t4 b j = _
          rw [e4, up_ne (by omega)]; exact hO3' b j hb
end TBL
