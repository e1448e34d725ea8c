/-! ===== rests, parts taken out: of both ===== -/
/-- the a-th that is chosen -/
def ksel (ℓ : Int → Bool) (n a : Int) : Int := sR (fun l => if ℓ l = true ∧ cd ℓ l = a then l else 0) 0 n
theorem ksel_at {ℓ : Int → Bool} {n l : Int} (l0 : 0 ≤ l) (l1 : l < n) (hl : ℓ l = true) : ksel ℓ n (cd ℓ l) = l := by
  unfold ksel
  rw [sR_one (l := l) l0 l1 (fun k k0 k1 hk => by rw [if_neg (fun z => hk (cd_inj k0 l0 z.1 hl z.2))]), if_pos ⟨hl, rfl⟩]
theorem ksel_cg {ℓ ℓ' : Int → Bool} {n a : Int} (h : ∀ l, 0 ≤ l → l < n → ℓ l = ℓ' l) : ksel ℓ n a = ksel ℓ' n a := by
  unfold ksel
  apply sR_congr
  intro l l0 l1
  have e : cd ℓ l = cd ℓ' l := cd_cg (fun k k0 k1 => h k k0 (by omega))
  rw [h l l0 l1, e]
theorem ksel_s {ℓ : Int → Bool} {n a : Int} (hn : 0 ≤ n) (a0 : 0 ≤ a) (a1 : a < cd ℓ n) : 0 ≤ ksel ℓ n a ∧ ksel ℓ n a < n ∧ ℓ (ksel ℓ n a) = true ∧ cd ℓ (ksel ℓ n a) = a := by
  obtain ⟨l, l0, l1, l2, l3⟩ := cd_sel hn a0 a1
  rw [← l3, ksel_at l0 l1 l2]
  exact ⟨l0, l1, l2, rfl⟩
def nt (ℓ : Int → Bool) : Int → Bool := fun l => !(ℓ l)
theorem cd_nt {ℓ : Int → Bool} {n : Int} (hn : 0 ≤ n) : cd (nt ℓ) n = n - cd ℓ n := by
  refine up_ind (P := fun n => cd (nt ℓ) n = n - cd ℓ n) ?_ ?_ n hn
  · unfold cd; rw [sR_nil (by omega), sR_nil (by omega)]; rfl
  · intro k hk ih
    rw [cd_succ hk, cd_succ hk, ih]
    unfold nt
    cases ℓ k <;> simp <;> omega
def RST (p n : Int) (T : Int → Int) (E : ES) : Int → Int → Int → Int := fun a b k => rd p n E (br p n T (EU.2 (ksel (nt E.1) n a)) (EU.2 (ksel (nt E.1) n b))) (ksel (nt E.1) n k)
def PRT (p n : Int) (T : Int → Int) (E : ES) : Int → Int → Int → Int := fun a b k => br p n T (E.2 (ksel E.1 n a)) (E.2 (ksel E.1 n b)) (ksel E.1 n k)
theorem nt_cg {n : Int} {E E' : ES} (h : ESm n E E') : ∀ l, 0 ≤ l → l < n → nt E.1 l = nt E'.1 l := fun l l0 l1 => by unfold nt; rw [h.1 l l0 l1]
theorem RST_cg {p n : Int} {T : Int → Int} {E E' : ES} (hn : 0 ≤ n) (h : ESm n E E') {a b k : Int} (k0 : 0 ≤ k) (k1 : k < cd (nt E.1) n) : RST p n T E a b k = RST p n T E' a b k := by
  unfold RST
  rw [ksel_cg (nt_cg h), ksel_cg (nt_cg h) (a := b), ksel_cg (nt_cg h) (a := k)]
  have e : cd (nt E.1) n = cd (nt E'.1) n := cd_cg (nt_cg h)
  obtain ⟨q0, q1, _, _⟩ := ksel_s (ℓ := nt E'.1) hn k0 (by rw [← e]; exact k1)
  exact h.rdv (fun _ _ _ => rfl) q0 q1
theorem PRT_cg {p n : Int} {T : Int → Int} {E E' : ES} (hn : 0 ≤ n) (h : ESm n E E') {a b k : Int} (a0 : 0 ≤ a) (a1 : a < cd E.1 n) (b0 : 0 ≤ b) (b1 : b < cd E.1 n) : PRT p n T E a b k = PRT p n T E' a b k := by
  unfold PRT
  obtain ⟨q0, q1, q2, _⟩ := ksel_s hn a0 a1
  obtain ⟨r0, r1, r2, _⟩ := ksel_s hn b0 b1
  rw [← ksel_cg h.1 (a := a), ← ksel_cg h.1 (a := b), ← ksel_cg h.1 (a := k)]
  exact br_cg (fun i i0 i1 => h.2 _ i q0 q1 q2 i0 i1) (fun i i0 i1 => h.2 _ i r0 r1 r2 i0 i1)
theorem not_bit {m l : Int} (m0 : 0 ≤ m) (m1 : m < 32) (l0 : 0 ≤ l) (l1 : l < 5) : (and32 (shr32 (xor32 m (-1)) l) 1 ≠ 0 ↔ tb m l = false) ∧ (and32 (shr32 (xor32 m (-1)) l) 1 = 0 ↔ tb m l = true) := by
  have key : ∀ m : Nat, m < 32 → ∀ l : Nat, l < 5 → (decide (and32 (shr32 (xor32 (m : Int) (-1)) (l : Int)) 1 = 0) == tb (m : Int) (l : Int)) = true := by decide +kernel
  obtain ⟨m, rfl⟩ := nat_of m0
  obtain ⟨l, rfl⟩ := nat_of l0
  have := key m (by omega) l (by omega)
  rw [beq_iff_eq] at this
  rw [← this]
  constructor
  · rw [decide_eq_false_iff_not]
  · rw [decide_eq_true_iff]
theorem PN.less {p n m : Int} (h : PN p n) (h0 : 1 ≤ m) (h1 : m ≤ n) : PN p m := by unfold PN at *; omega
section RES
variable {d : Nat} {σ : SG} {Q : Int → SG → Prop}
theorem Wo_noteKept_s {n x : Int} {ℓ : Int → Bool} (n0 : 0 ≤ n) (hn : n ≤ 5) (hb : ∀ l, 0 ≤ l → l < n → (and32 (shr32 x l) 1 ≠ 0 ↔ ℓ l = true)) (h : ∀ σ', (∀ l, 0 ≤ l → l < n → ℓ l = true → σ' 113 (cd ℓ l) = l) → Off (fun b j => b = 113) σ σ' → Q (cd ℓ n) σ') : Tri (d + 1) M_Wo_noteKept [vA 104, vI n, vI x] σ Q := by
  refine t_Wo_noteKept (fun _ _ => ?_)
  refine loop_up (P := fun l (s : Int × SG) => L (d + 1) M_Wo_noteKept 5 [vA 104, vI n, vI x, vI s.1, vI l] [] s.2 Q) (fun l s => 0 ≤ l ∧ s.1 = cd ℓ l ∧ (∀ q, 0 ≤ q → q < l → ℓ q = true → s.2 113 (cd ℓ q) = q) ∧ Off (fun b j => b = 113) σ s.2) n ?_ ?_ 0 n0 (0, σ) ⟨by omega, by unfold cd; rw [sR_nil (by omega)], fun q _ _ => by omega, Off_rfl⟩
  · rintro ⟨c, t⟩ ⟨_, hc, hk, hO⟩
    simp only at hc hk hO ⊢
    refine s_Wo_noteKept_5 ⟨fun _ => ?_, fun q => by omega⟩
    rw [hc]; exact h t hk hO
  · rintro l ⟨c, t⟩ hl ⟨l0, hc, hk, hO⟩ ih
    simp only at hc hk hO ⊢
    have hcb := cd_b (ℓ := ℓ) l0
    have hs := cd_succ (ℓ := ℓ) l0
    refine s_Wo_noteKept_5 ⟨fun q => by omega, fun _ => ⟨fun q => ?_, fun q => ⟨⟨by omega, by omega⟩, fun t2 e => ?_⟩⟩⟩
    · have hf : ¬ ℓ l = true := fun z => (hb l l0 hl).mpr z q
      rw [if_neg hf] at hs
      rw [w32_id (by omega) (by omega)]
      refine ih (c, t) ⟨by omega, by simp only; omega, fun r r0 r1 hr => hk r r0 ?_ hr, hO⟩
      have : r ≠ l := fun e => hf (by rw [← e]; exact hr)
      omega
    · have ht := (hb l l0 hl).mp q
      rw [if_pos ht] at hs
      rw [w32_id (by omega) (by omega), w32_id (by omega) (by omega)]
      refine ih (c + 1, t2) ⟨by omega, by simp only; omega, fun r r0 r1 hr => ?_, fun b j hb' => by show t2 b j = _; rw [e, up_ne (by omega)]; exact hO b j hb'⟩
      show t2 113 _ = _
      by_cases g : r = l
      · subst g; rw [e, hc, up_same]
      · have := cd_lt r0 (show r < l by omega) hr
        rw [e, up_ne (by omega)]; exact hk r r0 (by omega) hr
theorem Wo_tellByKept_s {p m n a b : Int} {ℓ : Int → Bool} {w : Int → Int → Int → Int} {u : Int → Int} (n0 : 0 ≤ n) (hn : n ≤ 5) (hM : WN σ 105 p m w) (hpn : PN p m) (hm : m = cd ℓ n) (hk : ∀ l, 0 ≤ l → l < n → ℓ l = true → σ 113 (cd ℓ l) = l) (hu : ∀ l, 0 ≤ l → l < n → σ 112 l = u l ∧ 0 ≤ u l ∧ u l < p) (a0 : 0 ≤ a) (ab : a < b) (bm : b < m)
    (h : ∀ σ', WN σ' 105 p m (fun x y z => if x = a ∧ y = b ∧ 0 ≤ z ∧ z < m then u (ksel ℓ n z) else w x y z) → Off (fun b j => b = 106) σ σ' → Q 0 σ') : Tri (d + 3) M_Wo_tellByKept [vA 104, vI a, vI b, vI m] σ Q := by
  obtain ⟨c1, c2, c3, c4⟩ := hpn.b
  refine t_Wo_tellByKept (fun _ _ _ => ?_)
  refine loop_up (P := fun k t => L (d + 3) M_Wo_tellByKept 3 [vA 104, vI a, vI b, vI m, vI k] [] t Q) (fun k t => 0 ≤ k ∧ (∀ q, 0 ≤ q → q < 125 → t 106 q = MK p m (fun x y z => if x = a ∧ y = b ∧ 0 ≤ z ∧ z < k then u (ksel ℓ n z) else w x y z) q) ∧ Off (fun b j => b = 106) σ t) m ?_ ?_ 0 (by omega) σ ⟨by omega, fun q q0 q1 => ?_, Off_rfl⟩
  · rintro t ⟨_, ht, hO⟩
    exact s_Wo_tellByKept_3 ⟨fun _ => h t ⟨(hO 105 1 (by omega)).trans hM.1, (hO 105 2 (by omega)).trans hM.2.1, ht⟩ hO, fun q => by omega⟩
  · rintro k t hk2 ⟨k0, ht, hO⟩ ih
    obtain ⟨s0, s1, s2, s3⟩ := ksel_s (ℓ := ℓ) (n := n) n0 k0 (by omega)
    have e113 : t 113 k = ksel ℓ n k := by
      rw [hO 113 _ (by omega)]
      have := hk _ s0 s1 s2
      rw [s3] at this; exact this
    have hul := hu _ s0 s1
    refine s_Wo_tellByKept_3 ⟨fun q => by omega, fun _ => ?_⟩
    rw [e113, hO 112 _ (by omega), hul.1, w32_id (by omega) (by omega)]
    refine ⟨⟨k0, by omega⟩, ⟨s0, by omega⟩, Wd_setMK ob_105 ((hO 105 1 (by omega)).trans hM.1) ((hO 105 2 (by omega)).trans hM.2.1) hpn ht a0 ab bm k0 hk2 (by omega) (fun t4 ht4 hO4 => ih t4 ⟨by omega, fun q q0 q1 => ?_, Off_trans hO (Off_mono hO4 (fun b j q => by omega))⟩)⟩
    have := ht4 q q0 q1
    rw [show (105 : Int) + 1 = 106 from rfl] at this
    rw [this]
    refine MK_cg (fun x y z x0 xy ym z0 zm => ?_) q0 q1
    unfold w3
    show (if x = a ∧ y = b ∧ z = k then u (ksel ℓ n k) else if x = a ∧ y = b ∧ 0 ≤ z ∧ z < k then u (ksel ℓ n z) else w x y z) = _
    by_cases g : x = a ∧ y = b ∧ z = k
    · rw [if_pos g, if_pos (by omega), g.2.2]
    · rw [if_neg g]
      by_cases g2 : x = a ∧ y = b ∧ 0 ≤ z ∧ z < k
      · rw [if_pos g2, if_pos (by omega)]
      · rw [if_neg g2, if_neg (by omega)]
  · have := hM.2.2 q q0 q1
    rw [show (105 : Int) + 1 = 106 from rfl] at this
    rw [this]
    refine MK_cg (fun x y z x0 xy ym z0 zm => ?_) q0 q1
    rw [if_neg (by omega)]
theorem Wo_leaveRest_s {a e p n : Int} {T : Int → Int} {E : ES} (hW : WD σ a p n T) (ha : a ≤ 20) (hE : EC σ e p n E) (he : e = 39) (hm : cd E.1 n < n) (h : ∀ σ', WN σ' a p (cd (nt E.1) n) (RST p n T E) → Off (fun b j => (b = a ∧ (j = 1 ∨ j = 2)) ∨ b = a + 1 ∨ (b = 105 ∧ (j = 1 ∨ j = 2)) ∨ b = 106 ∨ b = 112 ∨ b = 113) σ σ' → Q 0 σ') : Tri (d + 4) M_Wo_leaveRest [vA 104, vA a, vA e] σ Q := by
  subst he
  obtain ⟨b1, b2, b3, b4⟩ := hW.pn.b
  obtain ⟨ho, hp, hn, _, hT⟩ := id hW
  obtain ⟨kw1, _, _⟩ := kd_world ho
  obtain ⟨a1, a2, a3, a4, a5, a6, a7, ⟨l1, l2, l3⟩, a9, hEW, hPR⟩ := id hE
  have hp5 := pw5 (n := n) (by omega) b4
  have hcn := cd_nt (ℓ := E.1) (n := n) (by omega)
  have hcb := cd_b (ℓ := E.1) (w := n) (by omega)
  generalize hmm : cd (nt E.1) n = m at *
  have hpn : PN p m := hW.pn.less (by omega) (by omega)
  refine t_Wo_leaveRest ⟨ho, hE.1, ?_⟩
  rw [hn]
  refine Wo_noteKept_s (ℓ := nt E.1) (by omega) b4 (fun l l0 l1' => ?_) (fun s1 hk1 hO1 => ⟨ho, ?_⟩)
  · have := (not_bit (m := σ 39 6) (l := l) l1 (by omega) l0 (by omega)).1
    rw [this, l3 l l0 l1']
    unfold nt
    cases E.1 l <;> simp
  rw [hmm, hO1 a 1 (by omega), hp]
  refine Wd_empty_s hpn (fun s2 hM2 hO2 => ?_)
  have hO2' : Off (fun b j => (b = 105 ∧ (j = 1 ∨ j = 2)) ∨ b = 106 ∨ b = 112 ∨ b = 113) σ s2 := Off_trans (Off_mono hO1 (fun b j q => by omega)) (Off_mono hO2 (fun b j q => by omega))
  have hk2 : ∀ l, 0 ≤ l → l < n → nt E.1 l = true → s2 113 (cd (nt E.1) l) = l := fun l l0 l1 hl => by rw [hO2 113 _ (by omega)]; exact hk1 l l0 l1 hl
  have hcur : ∀ t, Off (fun b j => b = 106 ∨ b = 112) s2 t → WD t a p n T ∧ EC t 39 p n E ∧ (∀ l, 0 ≤ l → l < n → nt E.1 l = true → t 113 (cd (nt E.1) l) = l) := fun t ht => ⟨hW.cg (fun k => (ht a k (by omega)).trans (hO2' a k (by omega))) (fun k => (ht (a + 1) k (by omega)).trans (hO2' (a + 1) k (by omega))), hE.cg (fun k => (ht 39 k (by omega)).trans (hO2' 39 k (by omega))) (fun k => (ht 40 k (by omega)).trans (hO2' 40 k (by omega))), fun l l0 l1 hl => by rw [ht 113 _ (by omega)]; exact hk2 l l0 l1 hl⟩
  refine loop_up (P := fun x t => L (d + 4) M_Wo_leaveRest 30 [vA 104, vA a, vA 39, vI m, vI x, vU] [] t Q)
    (fun x t => 0 ≤ x ∧ WN t 105 p m (fun i j k => if i < x then RST p n T E i j k else 0) ∧ Off (fun b j => b = 106 ∨ b = 112) s2 t) m ?_ ?_ 0 (by omega) s2 ⟨by omega, ⟨hM2.1, hM2.2.1, fun q q0 q1 => by
      rw [hM2.2.2 q q0 q1]
      refine MK_cg (fun i j k i0 ij jm k0 km => ?_) q0 q1
      rw [if_neg (by omega)]⟩, Off_rfl⟩
  · rintro t ⟨_, hN, hO⟩
    refine s_Wo_leaveRest_30 ⟨fun _ => ⟨ho, Wd_back_s (v := RST p n T E) ho ha ⟨hN.1, hN.2.1, fun q q0 q1 => ?_⟩ (fun t2 hN2 hO3 => h t2 hN2 ?_)⟩, fun q => by omega⟩
    · rw [hN.2.2 q q0 q1]
      refine MK_cg (fun i j k i0 ij jm k0 km => ?_) q0 q1
      rw [if_pos (by omega)]
    · exact Off_trans (Off_mono hO2' (fun b j q => by omega)) (Off_trans (Off_mono hO (fun b j q => by omega)) (Off_mono hO3 (fun b j q => by omega)))
  · rintro x t hx ⟨x0, hN, hO⟩ ih
    refine s_Wo_leaveRest_30 ⟨fun q => by omega, fun _ => ?_⟩
    rw [w32_id (by omega) (by omega)]
    refine loop_up (P := fun y t => L (d + 4) M_Wo_leaveRest 42 [vA 104, vA a, vA 39, vI m, vI x, vI y] [] t Q)
      (fun y t => x + 1 ≤ y ∧ WN t 105 p m (fun i j k => if i < x ∨ (i = x ∧ j < y) then RST p n T E i j k else 0) ∧ Off (fun b j => b = 106 ∨ b = 112) s2 t) m ?_ ?_ (x + 1) (by omega) t ⟨by omega, ⟨hN.1, hN.2.1, fun q q0 q1 => by
        rw [hN.2.2 q q0 q1]
        refine MK_cg (fun i j k i0 ij jm k0 km => ?_) q0 q1
        by_cases g : i < x
        · rw [if_pos g, if_pos (Or.inl g)]
        · rw [if_neg g, if_neg (by omega)]⟩, hO⟩
    · rintro t2 ⟨_, hN2, hO2t⟩
      refine s_Wo_leaveRest_42 ⟨fun _ => ?_, fun q => by omega⟩
      rw [w32_id (by omega) (by omega)]
      refine ih t2 ⟨by omega, ⟨hN2.1, hN2.2.1, fun q q0 q1 => ?_⟩, hO2t⟩
      rw [hN2.2.2 q q0 q1]
      refine MK_cg (fun i j k i0 ij jm k0 km => ?_) q0 q1
      by_cases g : i < x ∨ (i = x ∧ j < m)
      · rw [if_pos g, if_pos (by omega)]
      · rw [if_neg g, if_neg (by omega)]
    · rintro y t2 hy ⟨y0, hN2, hO2t⟩ ih2
      obtain ⟨hW2, hE2, hk2'⟩ := hcur t2 hO2t
      obtain ⟨p0, p1, p2, p3⟩ := ksel_s (ℓ := nt E.1) (n := n) (by omega) x0 (by omega)
      obtain ⟨r0, r1, r2, r3⟩ := ksel_s (ℓ := nt E.1) (n := n) (a := y) (by omega) (by omega) (by omega)
      have ex : t2 113 x = ksel (nt E.1) n x := by have := hk2' _ p0 p1 p2; rw [p3] at this; exact this
      have ey : t2 113 y = ksel (nt E.1) n y := by have := hk2' _ r0 r1 r2; rw [r3] at this; exact this
      refine L_units_of (fun hUN => ?_)
      refine s_Wo_leaveRest_42 ⟨fun q => by omega, fun _ => ⟨⟨x0, by omega⟩, ⟨by omega, by omega⟩, ho, ?_⟩⟩
      rw [ex, ey, w32_id (x := ksel (nt E.1) n x * 5) (by omega) (by omega), w32_id (x := ksel (nt E.1) n y * 5) (by omega) (by omega), w32_id (x := y + 1) (by omega) (by omega)]
      refine Wd_br_s hW2 kd_m2 kd_m2 (by omega) kd_112 (by omega) (by omega) (by omega) (by omega) (by omega) (by omega) (by omega) (by omega) (by omega) (by omega) (by omega) (hUN.row p0 (by omega) b1 b4) (hUN.row r0 (by omega) b1 b4) (fun t3 hb3 hO3 => ⟨hE.1, ?_⟩)
      refine Ec_reduce_s (hE2.cg (fun k => hO3 39 k (by omega)) (fun k => hO3 40 k (by omega))) (by omega) kd_112 (by omega) (by omega) (by omega) (fun c c0 c1 => by rw [(hb3 c c0 c1).1]; exact (hb3 c c0 c1).2) (fun t4 hr4 hO4 => ?_)
      have hu4 : ∀ l, 0 ≤ l → l < n → t4 112 l = rd p n E (br p n T (EU.2 (ksel (nt E.1) n x)) (EU.2 (ksel (nt E.1) n y))) l ∧ 0 ≤ rd p n E (br p n T (EU.2 (ksel (nt E.1) n x)) (EU.2 (ksel (nt E.1) n y))) l ∧ rd p n E (br p n T (EU.2 (ksel (nt E.1) n x)) (EU.2 (ksel (nt E.1) n y))) l < p := fun l l0 l1 => ⟨by rw [hr4 l l0 l1]; exact rd_cg (fun c c0 c1 => (hb3 c c0 c1).1) l0 l1, rd_in (by omega)⟩
      have hO4' : Off (fun b j => b = 106 ∨ b = 112) s2 t4 := Off_trans hO2t (Off_trans (Off_mono hO3 (fun b j q => by omega)) (Off_mono hO4 (fun b j q => by omega)))
      refine Wo_tellByKept_s (ℓ := nt E.1) (n := n) (by omega) b4 (hN2.fr (fun k => (hO4 105 k (by omega)).trans (hO3 105 k (by omega))) (fun k => (hO4 106 k (by omega)).trans (hO3 106 k (by omega)))) hpn hmm.symm (hcur t4 hO4').2.2 hu4 x0 (by omega) hy (fun t5 hN5 hO5 => ih2 t5 ⟨by omega, ⟨hN5.1, hN5.2.1, fun q q0 q1 => ?_⟩, Off_trans hO4' (Off_mono hO5 (fun b j q => by omega))⟩)
      rw [hN5.2.2 q q0 q1]
      refine MK_cg (fun i j k i0 ij jm k0 km => ?_) q0 q1
      by_cases g : i = x ∧ j = y
      · rw [if_pos ⟨g.1, g.2, k0, km⟩, if_pos (by omega), g.1, g.2]; rfl
      · rw [if_neg (fun z => g ⟨z.1, z.2.1⟩)]
        by_cases g2 : i < x ∨ (i = x ∧ j < y)
        · rw [if_pos g2, if_pos (by omega)]
        · rw [if_neg g2, if_neg (by omega)]
theorem Wo_leavePart_s {a e p n : Int} {T : Int → Int} {E : ES} (hW : WD σ a p n T) (ha : a ≤ 20) (hE : EC σ e p n E) (he : e = 39) (hm : 1 ≤ cd E.1 n) (h : ∀ σ', WN σ' a p (cd E.1 n) (PRT p n T E) → Off (fun b j => (b = a ∧ (j = 1 ∨ j = 2)) ∨ b = a + 1 ∨ (b = 105 ∧ (j = 1 ∨ j = 2)) ∨ b = 106 ∨ b = 112 ∨ b = 113) σ σ' → Q 0 σ') : Tri (d + 4) M_Wo_leavePart [vA 104, vA a, vA e] σ Q := by
  subst he
  obtain ⟨b1, b2, b3, b4⟩ := hW.pn.b
  obtain ⟨ho, hp, hn, _, hT⟩ := id hW
  obtain ⟨kw1, _, _⟩ := kd_world ho
  obtain ⟨a1, a2, a3, a4, a5, a6, a7, ⟨l1, l2, l3⟩, a9, hEW, hPR⟩ := id hE
  have hp5 := pw5 (n := n) (by omega) b4
  have hcb := cd_b (ℓ := E.1) (w := n) (by omega)
  generalize hmm : cd E.1 n = m at *
  have hpn : PN p m := hW.pn.less (by omega) (by omega)
  refine t_Wo_leavePart ⟨ho, hE.1, ?_⟩
  rw [hn]
  refine Wo_noteKept_s (ℓ := E.1) (by omega) b4 (fun l l0 l1' => ?_) (fun s1 hk1 hO1 => ⟨ho, ?_⟩)
  · rw [bit_ne l1 (by omega) l0 (by omega), l3 l l0 l1']
  rw [hmm, hO1 a 1 (by omega), hp]
  refine Wd_empty_s hpn (fun s2 hM2 hO2 => ?_)
  have hO2' : Off (fun b j => (b = 105 ∧ (j = 1 ∨ j = 2)) ∨ b = 106 ∨ b = 112 ∨ b = 113) σ s2 := Off_trans (Off_mono hO1 (fun b j q => by omega)) (Off_mono hO2 (fun b j q => by omega))
  have hk2 : ∀ l, 0 ≤ l → l < n → E.1 l = true → s2 113 (cd E.1 l) = l := fun l l0 l1 hl => by rw [hO2 113 _ (by omega)]; exact hk1 l l0 l1 hl
  have hcur : ∀ t, Off (fun b j => b = 106 ∨ b = 112) s2 t → WD t a p n T ∧ EC t 39 p n E ∧ (∀ l, 0 ≤ l → l < n → E.1 l = true → t 113 (cd E.1 l) = l) := fun t ht => ⟨hW.cg (fun k => (ht a k (by omega)).trans (hO2' a k (by omega))) (fun k => (ht (a + 1) k (by omega)).trans (hO2' (a + 1) k (by omega))), hE.cg (fun k => (ht 39 k (by omega)).trans (hO2' 39 k (by omega))) (fun k => (ht 40 k (by omega)).trans (hO2' 40 k (by omega))), fun l l0 l1 hl => by rw [ht 113 _ (by omega)]; exact hk2 l l0 l1 hl⟩
  refine loop_up (P := fun x t => L (d + 4) M_Wo_leavePart 28 [vA 104, vA a, vA 39, vI m, vI x, vU] [] t Q)
    (fun x t => 0 ≤ x ∧ WN t 105 p m (fun i j k => if i < x then PRT p n T E i j k else 0) ∧ Off (fun b j => b = 106 ∨ b = 112) s2 t) m ?_ ?_ 0 (by omega) s2 ⟨by omega, ⟨hM2.1, hM2.2.1, fun q q0 q1 => by
      rw [hM2.2.2 q q0 q1]
      refine MK_cg (fun i j k i0 ij jm k0 km => ?_) q0 q1
      rw [if_neg (by omega)]⟩, Off_rfl⟩
  · rintro t ⟨_, hN, hO⟩
    refine s_Wo_leavePart_28 ⟨fun _ => ⟨ho, Wd_back_s (v := PRT p n T E) ho ha ⟨hN.1, hN.2.1, fun q q0 q1 => ?_⟩ (fun t2 hN2 hO3 => h t2 hN2 ?_)⟩, fun q => by omega⟩
    · rw [hN.2.2 q q0 q1]
      refine MK_cg (fun i j k i0 ij jm k0 km => ?_) q0 q1
      rw [if_pos (by omega)]
    · exact Off_trans (Off_mono hO2' (fun b j q => by omega)) (Off_trans (Off_mono hO (fun b j q => by omega)) (Off_mono hO3 (fun b j q => by omega)))
  · rintro x t hx ⟨x0, hN, hO⟩ ih
    refine s_Wo_leavePart_28 ⟨fun q => by omega, fun _ => ?_⟩
    rw [w32_id (by omega) (by omega)]
    refine loop_up (P := fun y t => L (d + 4) M_Wo_leavePart 40 [vA 104, vA a, vA 39, vI m, vI x, vI y] [] t Q)
      (fun y t => x + 1 ≤ y ∧ WN t 105 p m (fun i j k => if i < x ∨ (i = x ∧ j < y) then PRT p n T E i j k else 0) ∧ Off (fun b j => b = 106 ∨ b = 112) s2 t) m ?_ ?_ (x + 1) (by omega) t ⟨by omega, ⟨hN.1, hN.2.1, fun q q0 q1 => by
        rw [hN.2.2 q q0 q1]
        refine MK_cg (fun i j k i0 ij jm k0 km => ?_) q0 q1
        by_cases g : i < x
        · rw [if_pos g, if_pos (Or.inl g)]
        · rw [if_neg g, if_neg (by omega)]⟩, hO⟩
    · rintro t2 ⟨_, hN2, hO2t⟩
      refine s_Wo_leavePart_40 ⟨fun _ => ?_, fun q => by omega⟩
      rw [w32_id (by omega) (by omega)]
      refine ih t2 ⟨by omega, ⟨hN2.1, hN2.2.1, fun q q0 q1 => ?_⟩, hO2t⟩
      rw [hN2.2.2 q q0 q1]
      refine MK_cg (fun i j k i0 ij jm k0 km => ?_) q0 q1
      by_cases g : i < x ∨ (i = x ∧ j < m)
      · rw [if_pos g, if_pos (by omega)]
      · rw [if_neg g, if_neg (by omega)]
    · rintro y t2 hy ⟨y0, hN2, hO2t⟩ ih2
      obtain ⟨hW2, hE2, hk2'⟩ := hcur t2 hO2t
      obtain ⟨p0, p1, p2, p3⟩ := ksel_s (ℓ := E.1) (n := n) (by omega) x0 (by omega)
      obtain ⟨r0, r1, r2, r3⟩ := ksel_s (ℓ := E.1) (n := n) (a := y) (by omega) (by omega) (by omega)
      have ex : t2 113 x = ksel E.1 n x := by have := hk2' _ p0 p1 p2; rw [p3] at this; exact this
      have ey : t2 113 y = ksel E.1 n y := by have := hk2' _ r0 r1 r2; rw [r3] at this; exact this
      refine s_Wo_leavePart_40 ⟨fun q => by omega, fun _ => ⟨hE.1, ⟨x0, by omega⟩, hE.1, ⟨by omega, by omega⟩, ho, ?_⟩⟩
      rw [ex, ey, w32_id (x := ksel E.1 n x * 5) (by omega) (by omega), w32_id (x := ksel E.1 n y * 5) (by omega) (by omega), w32_id (x := y + 1) (by omega) (by omega)]
      refine Wd_br_s hW2 kd_40 kd_40 (by omega) kd_112 (by omega) (by omega) (by omega) (by omega) (by omega) (by omega) (by omega) (by omega) (by omega) (by omega) (by omega) (hE2.rowb (stl5 (by omega) (by omega)) p0 p1 p2) (hE2.rowb (stl5 (by omega) (by omega)) r0 r1 r2) (fun t3 hb3 hO3 => ?_)
      have hO4' : Off (fun b j => b = 106 ∨ b = 112) s2 t3 := Off_trans hO2t (Off_mono hO3 (fun b j q => by omega))
      refine Wo_tellByKept_s (ℓ := E.1) (n := n) (by omega) b4 (hN2.fr (fun k => hO3 105 k (by omega)) (fun k => hO3 106 k (by omega))) hpn hmm.symm (hcur t3 hO4').2.2 (fun l l0 l1 => hb3 l l0 l1) x0 (by omega) hy (fun t5 hN5 hO5 => ih2 t5 ⟨by omega, ⟨hN5.1, hN5.2.1, fun q q0 q1 => ?_⟩, Off_trans hO4' (Off_mono hO5 (fun b j q => by omega))⟩)
      rw [hN5.2.2 q q0 q1]
      refine MK_cg (fun i j k i0 ij jm k0 km => ?_) q0 q1
      by_cases g : i = x ∧ j = y
      · rw [if_pos ⟨g.1, g.2, k0, km⟩, if_pos (by omega), g.1, g.2]; rfl
      · rw [if_neg (fun z => g ⟨z.1, z.2.1⟩)]
        by_cases g2 : i < x ∨ (i = x ∧ j < y)
        · rw [if_pos g2, if_pos (by omega)]
        · rw [if_neg g2, if_neg (by omega)]
end RES
