/-! ===== the model: radicals, closures, commuting ===== -/
def brx (p n : Int) (T : Int → Int) (A B X : ES) : ES := lp (fun l E => lp (fun m E => if A.1 l = true ∧ B.1 m = true then ins p n E (br p n T (A.2 l) (B.2 m)) else E) 0 n E) 0 n X
theorem brx_sel {σ : SG} {a b ma mb p n : Int} {T : Int → Int} {A B X : ES} (hn : 0 ≤ n) (hA : SP σ a ma p n A) (hB : SP σ b mb p n B) : ESm n (lp (fun i t => lp (fun j t => ins p n t (br p n T (fun c => σ a (5 * i + c)) (fun c => σ b (5 * j + c)))) 0 mb t) 0 ma X) (brx p n T A B X) := by
  rw [hA.1, lp_sel hn]
  unfold brx
  refine lp_rel (R := ESm n) ESm.rfl' (fun l t t' l0 l1 ht => ?_)
  by_cases hl : A.1 l = true
  · rw [if_pos hl, hB.1, lp_sel hn]
    refine lp_rel (R := ESm n) ht (fun m u u' m0 m1 hu => ?_)
    by_cases hm : B.1 m = true
    · rw [if_pos hm, if_pos ⟨hl, hm⟩]
      exact hu.insv hn (fun c c0 c1 => br_cg (fun i i0 i1 => hA.row l0 l1 hl i i0 i1) (fun i i0 i1 => hB.row m0 m1 hm i i0 i1))
    · rw [if_neg hm, if_neg (fun z => hm z.2)]; exact hu
  · rw [if_neg hl]
    refine lp_ind (P := fun _ u => ESm n t u) ht (fun m u m0 m1 hu => ?_) hn
    rw [if_neg (fun z => hl z.1)]; exact hu
theorem Gr_brx {p n : Int} {T : Int → Int} {A B X : ES} (hp : PR p) (hn : 0 ≤ n) (hX : EW p n X) : Gr p n X (brx p n T A B X) := by
  unfold brx
  refine lp_ind (P := fun _ t => Gr p n X t) (Gr_rfl hX) (fun l t _ _ ht => ?_) hn
  refine lp_ind (P := fun _ t => Gr p n X t) ht (fun i t _ _ ht => ?_) hn
  show Gr p n X (if _ then _ else _)
  split
  · exact Gr_ins hp hn ht
  · exact ht
theorem brx_still {p n : Int} {T : Int → Int} {A B X : ES} (hp : PR p) (hn : 0 ≤ n) (hX : EW p n X) (h : cd (brx p n T A B X).1 n = cd X.1 n) : ∀ l m, 0 ≤ l → l < n → 0 ≤ m → m < n → A.1 l = true → B.1 m = true → In p n X (br p n T (A.2 l) (B.2 m)) := by
  intro l m l0 l1 m0 m1 hl hm
  have h1 := lp_still (p := p) (fun l t _ _ ht => lp_ind (P := fun _ s => Gr p n t s) (Gr_rfl ht) (fun i s _ _ hs => by
    show Gr p n t (if _ then _ else _)
    split
    · exact Gr_ins hp hn hs
    · exact hs) hn) hX h l l0 l1
  have h2 := lp_still (p := p) (f := fun m E => if A.1 l = true ∧ B.1 m = true then ins p n E (br p n T (A.2 l) (B.2 m)) else E) (fun k t _ _ ht => by
    show Gr p n t (if _ then _ else _)
    split
    · exact Gr_ins hp hn (Gr_rfl ht)
    · exact Gr_rfl ht) hX (by rw [h1]) m m0 m1
  rw [if_pos ⟨hl, hm⟩] at h2
  exact ins_same_in hp hn hX h2
theorem brx_sub {p n : Int} {T : Int → Int} {A B X F : ES} (hp : PR p) (hn : 0 ≤ n) (hX : EW p n X) (hs : ∀ u, In p n X u → In p n F u) (h : ∀ l m, 0 ≤ l → l < n → 0 ≤ m → m < n → A.1 l = true → B.1 m = true → In p n F (br p n T (A.2 l) (B.2 m))) : ∀ u, In p n (brx p n T A B X) u → In p n F u := by
  unfold brx
  refine (lp_ind (P := fun _ t => EW p n t ∧ ∀ u, In p n t u → In p n F u) ⟨hX, hs⟩ (fun l t l0 l1 ht => ?_) hn).2
  refine lp_ind (P := fun _ t => EW p n t ∧ ∀ u, In p n t u → In p n F u) ht (fun m t m0 m1 ht => ?_) hn
  by_cases g : A.1 l = true ∧ B.1 m = true
  · rw [if_pos g]
    exact ⟨EW_ins hp hn ht.1, ins_sub hp hn ht.1 ht.2 (h l m l0 l1 m0 m1 g.1 g.2)⟩
  · rw [if_neg g]; exact ht
theorem EW_lpins {p n : Int} {v : Int → Int → Int} {lo hi : Int} (hp : PR p) (hn : 0 ≤ n) (h : lo ≤ hi) : EW p n (lp (fun k E => ins p n E (v k)) lo hi E0) :=
  lp_ind (P := fun _ E => EW p n E) EW0 (fun _ _ _ _ hE => EW_ins hp hn hE) h
def MAD (p n : Int) (T : Int → Int) (what : Int) (E E' : ES) : Prop := EW p n E' ∧ (what ≤ 0 → E' = E) ∧ (what = 1 → Lst p n T False E E') ∧ (1 < what → Lst p n T True E E')
section RMD
variable {d : Nat} {σ : SG} {Q : Int → SG → Prop}
theorem R_radical_l {p n what : Int} {T : Int → Int} (hR : RW σ p n T) (h : ∀ r σ', MX p n (RDG p n T (what = 1)) r → Off DM σ σ' → Q r σ') : L (d + 6) M_R_radical 34 [vA 161, vI what, vI 0, vI 0, vU, vU, vU] [] σ Q := by
  obtain ⟨b1, b2, b3, b4⟩ := hR.1.1.b
  have hp5 := pw5 (n := n) (by omega) b4
  refine loop_up (P := fun m (s : Int × SG) => L (d + 6) M_R_radical 34 [vA 161, vI what, vI s.1, vI m, vU, vU, vU] [] s.2 Q)
    (fun m s => 0 ≤ m ∧ (s.1 = 0 ∨ ∃ m' x, 0 ≤ m' ∧ m' < 2 ^ n.toNat ∧ 0 ≤ x ∧ x < cds p n m' ∧ bt m' = s.1 ∧ RDG p n T (what = 1) m' x) ∧ 0 ≤ s.1 ∧ (∀ m' x, 0 ≤ m' → m' < m → 0 ≤ x → x < cds p n m' → RDG p n T (what = 1) m' x → bt m' ≤ s.1) ∧ Off DM σ s.2) (2 ^ n.toNat) ?_ ?_ 0 (by omega) (0, σ) ⟨by omega, Or.inl rfl, by simp, fun m' x _ _ => by omega, Off_rfl⟩
  · rintro ⟨c, t⟩ ⟨_, h1, h2, h3, hO⟩
    simp only at h1 h2 h3 hO ⊢
    have e27 : t 161 27 = n := (hR.dm hO).2.2.1
    refine s_R_radical_34 ⟨fun _ => h c t ⟨h1, h2, fun m x m0 m1 x0 x1 hg => h3 m x m0 m1 x0 x1 hg⟩ hO, fun q => ?_⟩
    rw [e27, shl1 (by omega) (by omega)] at q; omega
  · rintro m ⟨c, t⟩ hm ⟨m0, h1, h2, h3, hO⟩ ih
    simp only at h1 h2 h3 hO ⊢
    have hRt := hR.dm hO
    have e27 : t 161 27 = n := hRt.2.2.1
    have hbn := bt_n m0 (by omega) b4 hm
    have hcd := cds_b hR.1.1 m0 hm
    refine s_R_radical_34 ⟨fun q => ?_, fun _ => ?_⟩
    · rw [e27, shl1 (by omega) (by omega)] at q; omega
    · refine R_lead_s hRt m0 hm (fun t2 hL hO2 => ?_)
      have hO2' : Off DM σ t2 := Off_trans hO (Off_mono hO2 (fun b j q => by unfold DM; omega))
      rw [hL.1, hL.2.1, hbn]
      have hnext : ∀ c' t3, (c' = 0 ∨ ∃ m' x, 0 ≤ m' ∧ m' < 2 ^ n.toNat ∧ 0 ≤ x ∧ x < cds p n m' ∧ bt m' = c' ∧ RDG p n T (what = 1) m' x) → c ≤ c' → (∀ x, 0 ≤ x → x < cds p n m → RDG p n T (what = 1) m x → bt m ≤ c') → Off DM σ t3 → L (d + 6) M_R_radical 34 [vA 161, vI what, vI c', vI (w32 (m + 1)), vU, vU, vU] [] t3 Q := fun c' t3 g1 g2 g3 g4 => by
        rw [w32_id (by omega) (by omega)]
        refine ih (c', t3) ⟨by omega, g1, by simp only; omega, fun m' x q0 q1 x0 x1 hg => ?_, g4⟩
        simp only
        by_cases g : m' = m
        · subst g; exact g3 x x0 x1 hg
        · have := h3 m' x q0 (by omega) x0 x1 hg; omega
      refine ⟨fun hc => ?_, fun hc => hnext c t2 h1 (by omega) (fun x _ _ _ => hc) hO2'⟩
      have nb := nf25 (n := n) (ℓ := tb m) (m := n) b4 (by omega) (by omega)
      refine R_powerOf_s (hR.dm hO2').2.1 (by omega) nb.1 (by unfold cds at hcd; omega) ?_
      refine loop_up (P := fun x (s : Int × SG) => L (d + 6) M_R_radical 79 [vA 161, vI what, vI s.1, vI m, vI (bt m), vI (p ^ (nf n (tb m) n).toNat), vI x] [] s.2 Q)
        (fun x s => 0 ≤ x ∧ (s.1 = 0 ∨ ∃ m' x, 0 ≤ m' ∧ m' < 2 ^ n.toNat ∧ 0 ≤ x ∧ x < cds p n m' ∧ bt m' = s.1 ∧ RDG p n T (what = 1) m' x) ∧ c ≤ s.1 ∧ (∀ x', 0 ≤ x' → x' < x → RDG p n T (what = 1) m x' → bt m ≤ s.1) ∧ RL s.2 n m ∧ Off DM σ s.2) (cds p n m) ?_ ?_ 0 (by omega) (c, t2) ⟨by omega, h1, Int.le_refl _, fun x' _ _ => by omega, hL, hO2'⟩
      · rintro ⟨c2, t3⟩ ⟨_, g1, g2, g3, _, g5⟩
        simp only at g1 g2 g3 g5 ⊢
        exact s_R_radical_79 ⟨fun _ => hnext c2 t3 g1 g2 g3 g5, fun q => by unfold cds at q; omega⟩
      · rintro x ⟨c2, t3⟩ hx ⟨x0, g1, g2, g3, hL3, hO3⟩ ih3
        simp only at g1 g2 g3 hL3 hO3 ⊢
        refine s_R_radical_79 ⟨fun q => by unfold cds at hx; omega, fun _ => ⟨fun q => hnext c2 t3 g1 g2 (fun _ _ _ _ => q) hO3, fun q => ?_⟩⟩
        refine R_spanBy_s (hR.dm hO3) m0 hm hL3 x0 (fun t4 hS4 hO4 => ?_)
        have hO4' : Off DM σ t4 := Off_trans hO3 (Off_mono hO4 (fun b j q => by unfold DM; omega))
        rw [hbn] at hS4
        have hkeep : ∀ t5, Off DI t4 t5 → RL t5 n m ∧ Off DM σ t5 := fun t5 hO5 => ⟨hL3.cg (by rw [hO5 161 59 (by unfold DI; omega), hO4 161 59 (by omega)]) (by rw [hO5 161 60 (by unfold DI; omega), hO4 161 60 (by omega)]) (fun b k b0 b1 => by rw [hO5 b k (by unfold DI; omega), hO4 b k (by omega)]), Off_trans hO4' (Off_mono hO5 (fun b j q => by unfold DI at q; unfold DM; omega))⟩
        have hno : ∀ t5, Off DI t4 t5 → ¬ RDG p n T (what = 1) m x → L (d + 6) M_R_radical 79 [vA 161, vI what, vI c2, vI m, vI (bt m), vI (p ^ (nf n (tb m) n).toNat), vI (w32 (x + 1))] [] t5 Q := fun t5 hO5 hn => by
          rw [w32_id (by omega) (by omega)]
          refine ih3 (c2, t5) ⟨by omega, g1, g2, fun x' q0 q1 hg => ?_, (hkeep t5 hO5).1, (hkeep t5 hO5).2⟩
          by_cases g : x' = x
          · subst g; exact absurd hg hn
          · exact g3 x' q0 (by omega) hg
        have hyes : ∀ t5, Off DI t4 t5 → RDG p n T (what = 1) m x → L (d + 6) M_R_radical 79 [vA 161, vI what, vI (bt m), vI m, vI (bt m), vI (p ^ (nf n (tb m) n).toNat), vI (w32 (x + 1))] [] t5 Q := fun t5 hO5 hg => by
          rw [w32_id (by omega) (by omega)]
          refine ih3 (bt m, t5) ⟨by omega, Or.inr ⟨m, x, m0, hm, x0, hx, rfl, hg⟩, by simp only; omega, fun x' q0 q1 hg => Int.le_refl _, (hkeep t5 hO5).1, (hkeep t5 hO5).2⟩
        refine R_isIdeal_s (hR.dm hO4') hS4 (fun t5 hI hO5 => ⟨fun z => by omega, fun _ => ?_⟩) (fun t5 hI hO5 => ⟨fun _ => hno t5 (Off_mono hO5 (fun b j q => by unfold DI; omega)) (fun z => hI z.1), fun z => by omega⟩)
        have hO5' : Off DI t4 t5 := Off_mono hO5 (fun b j q => by unfold DI; omega)
        have hR5 := hR.dm (hkeep t5 hO5').2
        have hS5 := hS4.cg (fun k => hO5 172 k (by omega))
        refine ⟨fun hw => ?_, fun hw => ?_⟩
        · refine R_endsIn0_s (lo := 0) hR5 hS5 hI.p (fun t6 hz hO6 => ⟨fun z => by omega, fun _ => hyes t6 (Off_trans hO5' (Off_mono hO6 (fun b j q => by unfold DI; omega))) ⟨hI, ?_⟩⟩) (fun t6 hz hO6 => ⟨fun _ => hno t6 (Off_trans hO5' (Off_mono hO6 (fun b j q => by unfold DI; omega))) (fun z => hz ?_), fun z => by omega⟩)
          · rw [ser_cgp (b := what = 1) (by constructor <;> intro z <;> omega)] at hz; exact hz
          · rw [ser_cgp (b := what = 1) (by constructor <;> intro z <;> omega)]; exact z.2
        · refine R_endsIn0_s (lo := 1) hR5 hS5 hI.p (fun t6 hz hO6 => ⟨fun z => by omega, fun _ => hyes t6 (Off_trans hO5' (Off_mono hO6 (fun b j q => by unfold DI; omega))) ⟨hI, ?_⟩⟩) (fun t6 hz hO6 => ⟨fun _ => hno t6 (Off_trans hO5' (Off_mono hO6 (fun b j q => by unfold DI; omega))) (fun z => hz ?_), fun z => by omega⟩)
          · rw [ser_cgp (b := what = 1) (by constructor <;> intro z <;> omega)] at hz; exact hz
          · rw [ser_cgp (b := what = 1) (by constructor <;> intro z <;> omega)]; exact z.2
theorem R_numberOf_s {t k : Int} (ht : 0 ≤ t ∧ t < 4) (hk : 0 ≤ k ∧ k < 60) (h : Q (σ 164 (60 * t + k)) σ) : Tri (d + 1) M_R_numberOf [vA 161, vI t, vI k] σ Q := by
  refine t_R_numberOf (fun _ _ => ?_)
  rw [w32_id (x := 60 * t) (by omega) (by omega), w32_id (x := 60 * t + k) (by omega) (by omega)]
  exact ⟨⟨by omega, by omega⟩, h⟩
theorem R_made_s {p n tr many what : Int} {T : Int → Int} (hR : RW σ p n T) (ht : 0 ≤ tr ∧ tr < 4) (hm : 0 ≤ many ∧ many ≤ 20) (hv : ∀ k, 0 ≤ k → k < many → 0 ≤ σ 164 (60 * tr + k) ∧ σ 164 (60 * tr + k) < p ^ n.toNat)
    (h : ∀ r E' σ', SP σ' 172 r p n E' → MAD p n T what (lp (fun k E => ins p n E (dg p (σ 164 (60 * tr + k)))) 0 many E0) E' → Off DM σ σ' → Q r σ') : Tri (d + 4) M_R_made [vA 161, vI tr, vI many, vI what] σ Q := by
  obtain ⟨b1, b2, b3, b4⟩ := hR.1.1.b
  have hT := hR.1
  have hp := hT.1.pr
  have hpw := hR.1.1.pow
  refine t_R_made (fun _ _ _ => ?_)
  refine loop_up (P := fun k (s : Int × SG) => L (d + 4) M_R_made 6 [vA 161, vI tr, vI many, vI what, vI s.1, vI k, vU, vU, vU] [] s.2 Q)
    (fun k s => 0 ≤ k ∧ SP s.2 172 s.1 p n (lp (fun k E => ins p n E (dg p (σ 164 (60 * tr + k)))) 0 k E0) ∧ Off DM σ s.2) many ?_ ?_ 0 hm.1 (0, σ) ⟨by omega, by rw [lp_nil (by omega)]; exact SP0, Off_rfl⟩
  · rintro ⟨r, t⟩ ⟨_, hS, hO⟩
    simp only at hS hO ⊢
    refine s_R_made_6 ⟨fun _ => ?_, fun q => by omega⟩
    have hEin : EW p n (lp (fun k E => ins p n E (dg p (σ 164 (60 * tr + k)))) 0 many E0) := EW_lpins hp (by omega) hm.1
    generalize lp (fun k E => ins p n E (dg p (σ 164 (60 * tr + k)))) 0 many E0 = Ein at h hS hEin
    refine loop_wf (S := Int × Int × ES × SG) (P := fun s => L (d + 4) M_R_made 55 [vA 161, vU, vU, vI what, vI s.1, vI s.2.1, vU, vU, vU] [] s.2.2.2 Q)
      (fun s => SP s.2.2.2 172 s.1 p n s.2.2.1 ∧ (what ≤ 0 → s.2.2.1 = Ein) ∧ (∀ u, In p n Ein u → In p n s.2.2.1 u) ∧ (what = 1 → ∀ F, EW p n F → (∀ u, In p n Ein u → In p n F u) → ClP p n T F F → ∀ u, In p n s.2.2.1 u → In p n F u) ∧ (1 < what → ∀ F, EW p n F → (∀ u, In p n Ein u → In p n F u) → ClI p n T F → ∀ u, In p n s.2.2.1 u → In p n F u) ∧ (0 < what → s.2.1 = s.1 → (what = 1 → ClP p n T s.2.2.1 s.2.2.1) ∧ (1 < what → ClI p n T s.2.2.1)) ∧ Off DM σ s.2.2.2) (fun s => 2 * (n - s.1).toNat + if s.2.1 = s.1 then 0 else 1) ?_ (r, -1, Ein, t) ⟨hS, fun _ => rfl, fun _ h => h, fun _ F _ hF _ => hF, fun _ F _ hF _ => hF, fun _ q => by have := hS.b (show 0 ≤ n by omega); simp only at q; omega, hO⟩
    rintro ⟨now, was, X, t⟩ ⟨hS, hX0, hX1, hX2, hX3, hX4, hO⟩ ih
    simp only at hS hX0 hX1 hX2 hX3 hX4 hO ⊢
    have hnb := hS.b (show 0 ≤ n by omega)
    have hEW := hS.2.2
    refine s_R_made_55 ⟨fun q => h now X t hS ⟨hEW, hX0, fun _ => by omega, fun _ => by omega⟩ hO, fun q => ⟨fun q2 => h now X t hS ⟨hEW, fun _ => by omega, fun w => ⟨hEW, hX1, fun z => z.elim, fun _ => (hX4 q q2).1 w, fun F hF hs _ hc => hX2 w F hF hs (hc (fun z => z))⟩, fun w => ⟨hEW, hX1, fun _ => (hX4 q q2).2 w, fun z => (z trivial).elim, fun F hF hs hc _ => hX3 w F hF hs (hc trivial)⟩⟩ hO, fun q2 => ?_⟩⟩
    refine R_copySpan_s kd_172 kd_173 (by omega) (by omega) (fun t2 hc2 hO2 => ?_)
    have hO2' : Off DM σ t2 := Off_trans hO (Off_mono hO2 (fun b j q => by unfold DM; omega))
    have hS2 := hS.cg (fun k => hO2 172 k (by omega))
    have hD2 : SP t2 173 now p n X := hS.cp b4 hc2
    -- one pass
    have pass : ∀ t3 others B, SP t3 172 now p n X → SP t3 173 now p n X → SP t3 174 others p n B → (what = 1 → B = X) → (what ≠ 1 → B = EU) → Off DM σ t3 → L (d + 4) M_R_made 122 [vA 161, vU, vU, vI what, vI now, vI now, vI others, vI 0, vU] [] t3 Q := fun t3 others B hC hA hB hB1 hB2 hO3 => by
      have hob := hB.b (show 0 ≤ n by omega)
      refine loop_up (P := fun i (s : Int × SG) => L (d + 4) M_R_made 122 [vA 161, vU, vU, vI what, vI s.1, vI now, vI others, vI i, vU] [] s.2 Q)
        (fun i s => 0 ≤ i ∧ SP s.2 172 s.1 p n (lp (fun i t => lp (fun j t => ins p n t (br p n T (fun c => t3 173 (5 * i + c)) (fun c => t3 174 (5 * j + c)))) 0 others t) 0 i X) ∧ Off (fun b j => b = 172 ∨ b = 178 ∨ b = 185) t3 s.2) now ?_ ?_ 0 hnb.1 (now, t3) ⟨by omega, by rw [lp_nil (by omega)]; exact hC, Off_rfl⟩
      · rintro ⟨r4, t4⟩ ⟨_, hS4, hO4⟩
        simp only at hS4 hO4 ⊢
        have hS5 : SP t4 172 r4 p n (brx p n T X B X) := hS4.to (brx_sel (by omega) hA hB)
        have hG := Gr_brx (T := T) (A := X) (B := B) hp (show 0 ≤ n by omega) hEW
        have hr4 := hS5.1
        have hr4b := hS5.b (show 0 ≤ n by omega)
        have hnow := hS.1
        refine s_R_made_122 ⟨fun _ => ?_, fun z => by omega⟩
        refine ih (r4, now, brx p n T X B X, t4) ⟨hS5, fun w => by omega, fun u hu => hG.2.2.1 u (hX1 u hu), fun w F hF hs hc => ?_, fun w F hF hs hc => ?_, fun _ e => ?_, Off_trans hO3 (Off_mono hO4 (fun b j q => by unfold DM; omega))⟩ ?_
        · have hsub := hX2 w F hF hs hc
          refine brx_sub hp (by omega) hEW hsub (fun l m l0 l1 m0 m1 hl hm => ?_)
          rw [hB1 w] at hm ⊢
          exact hc _ _ (hsub _ (In_row hEW l0 l1 hl)) (hsub _ (In_row hEW m0 m1 hm))
        · have hsub := hX3 w F hF hs hc
          exact brx_sub hp (by omega) hEW hsub (fun l m l0 l1 m0 m1 hl hm => hc _ _ (hsub _ (In_row hEW l0 l1 hl)))
        · simp only at e
          have hcd : cd (brx p n T X B X).1 n = cd X.1 n := by omega
          have hst := brx_still (T := T) hp (show 0 ≤ n by omega) hEW hcd
          have heq : brx p n T X B X = X := hG.2.2.2 hcd
          simp only
          rw [heq]
          refine ⟨fun w => ?_, fun w => ?_⟩
          · rw [hB1 w] at hst
            exact ClP_of hT (fun l m l0 hlm m1 hl hm => hst l m l0 (by omega) (by omega) m1 hl hm)
          · rw [hB2 (by omega)] at hst
            exact ClI_of hT (fun l i l0 l1 hl i0 i1 => hst l i l0 l1 i0 i1 hl rfl)
        · have := hG.2.1
          simp only
          rw [if_neg q2]
          split <;> omega
      · rintro i ⟨r4, t4⟩ hi ⟨i0, hS4, hO4⟩ ih4
        simp only at hS4 hO4 ⊢
        refine s_R_made_122 ⟨fun z => by omega, fun _ => ?_⟩
        generalize hY : lp (fun i t => lp (fun j t => ins p n t (br p n T (fun c => t3 173 (5 * i + c)) (fun c => t3 174 (5 * j + c)))) 0 others t) 0 i X = Y at hS4
        refine loop_up (P := fun j (s : Int × SG) => L (d + 4) M_R_made 132 [vA 161, vU, vU, vI what, vI s.1, vI now, vI others, vI i, vI j] [] s.2 Q)
          (fun j s => 0 ≤ j ∧ SP s.2 172 s.1 p n (lp (fun j t => ins p n t (br p n T (fun c => t3 173 (5 * i + c)) (fun c => t3 174 (5 * j + c)))) 0 j Y) ∧ Off (fun b j => b = 172 ∨ b = 178 ∨ b = 185) t3 s.2) others ?_ ?_ 0 hob.1 (r4, t4) ⟨by omega, by rw [lp_nil (by omega)]; exact hS4, hO4⟩
        · rintro ⟨r5, t5⟩ ⟨_, hS5, hO5⟩
          simp only at hS5 hO5 ⊢
          refine s_R_made_132 ⟨fun _ => ?_, fun z => by omega⟩
          rw [w32_id (by omega) (by omega)]
          exact ih4 (r5, t5) ⟨by omega, by rw [lp_succ i0, hY]; exact hS5, hO5⟩
        · rintro j ⟨r5, t5⟩ hj ⟨j0, hS5, hO5⟩ ih5
          simp only at hS5 hO5 ⊢
          have hO5' : Off DM σ t5 := Off_trans hO3 (Off_mono hO5 (fun b j q => by unfold DM; omega))
          refine s_R_made_132 ⟨fun z => by omega, fun _ => ?_⟩
          rw [w32_id (x := 5 * i) (by omega) (by omega), w32_id (x := 5 * j) (by omega) (by omega), w32_id (x := j + 1) (by omega) (by omega)]
          have ea : ∀ c, t5 173 (5 * i + c) = t3 173 (5 * i + c) := fun c => hO5 173 _ (by omega)
          have eb : ∀ c, t5 174 (5 * j + c) = t3 174 (5 * j + c) := fun c => hO5 174 _ (by omega)
          refine R_bracketOf_s (hR.dm hO5') kd_173 kd_174 (by omega) kd_178 (by omega) (by omega) (by omega) (by omega) (by omega) (by omega) (by omega) (by omega) (by omega) (by omega) (by omega) (by omega) (fun c c0 c1 => by rw [ea]; exact hA.rowi (by omega) i0 hi c c0 c1) (fun c c0 c1 => by rw [eb]; exact hB.rowi (by omega) j0 hj c c0 c1) (fun t6 hb6 hO6 => ?_)
          have hb7 : ∀ c, 0 ≤ c → c < n → t6 178 (0 + c) = br p n T (fun c => t3 173 (5 * i + c)) (fun c => t3 174 (5 * j + c)) c := fun c c0 c1 => by
            rw [show (0 : Int) + c = c by omega, hb6 c c0 c1]
            exact br_cg (fun k _ _ => ea k) (fun k _ _ => eb k)
          refine R_join_s (hR.dm (Off_trans hO5' (Off_mono hO6 (fun b j q => by unfold DM; omega)))) (hS5.cg (fun k => hO6 172 k (by omega))) kd_172 (by omega) (by omega) (by omega) (by omega) (by omega) kd_178 (by omega) (by omega) (by omega) (by omega) (fun c c0 c1 => by rw [hb7 c c0 c1]; exact ⟨Int.emod_nonneg _ (by omega), Int.emod_lt_of_pos _ (by omega)⟩) (fun r7 t7 hS7 _ hO7 => ?_)
          refine ih5 (r7, t7) ⟨by omega, ?_, Off_trans hO5 (Off_trans (Off_mono hO6 (fun b j q => by omega)) (Off_mono hO7 (fun b j q => by omega)))⟩
          rw [lp_succ j0]
          exact hS7.to (ESm.rfl'.insv (by omega) hb7)
    refine ⟨fun w => ?_, fun w => ?_⟩
    · refine R_wholeSpan_s (hR.dm hO2') kd_174 (by omega) (by omega) (fun t3 hS3 hO3 => s_R_made_100 ⟨fun _ => ?_, fun z => absurd z w⟩)
      exact pass t3 n EU (hS2.cg (fun k => hO3 172 k (by omega))) (hD2.cg (fun k => hO3 173 k (by omega))) hS3 (fun z => absurd z w) (fun _ => rfl) (Off_trans hO2' (Off_mono hO3 (fun b j q => by unfold DM; omega)))
    · refine s_R_made_100 ⟨fun z => absurd w z, fun _ => ?_⟩
      refine R_copySpan_s kd_172 kd_174 (by omega) (by omega) (fun t3 hc3 hO3 => ?_)
      exact pass t3 now X (hS2.cg (fun k => hO3 172 k (by omega))) (hD2.cg (fun k => hO3 173 k (by omega))) (hS2.cp b4 hc3) (fun _ => rfl) (fun z => absurd w z) (Off_trans hO2' (Off_mono hO3 (fun b j q => by unfold DM; omega)))
  · rintro k ⟨r, t⟩ hk ⟨k0, hS, hO⟩ ih
    simp only at hS hO ⊢
    obtain ⟨v1, v2⟩ := hv k k0 hk
    have e164 : t 164 (60 * tr + k) = σ 164 (60 * tr + k) := hO 164 _ (by unfold DM; omega)
    refine s_R_made_6 ⟨fun q => by omega, fun _ => R_numberOf_s ht ⟨k0, by omega⟩ ?_⟩
    rw [e164, w32_id (by omega) (by omega), w32_id (x := k + 1) (by omega) (by omega)]
    refine R_parts2_s (hR.dm hO) (by omega) kd_175 (by omega) (by omega) (by omega) (by omega) v1 (fun t2 hp2 hO2 => ?_)
    have hO2' : Off DM σ t2 := Off_trans hO (Off_mono hO2 (fun b j q => by unfold DM; omega))
    refine R_join_s (hR.dm hO2') (hS.cg (fun k => hO2 172 k (by omega))) kd_172 (by omega) (by omega) (by omega) (by omega) (by omega) kd_175 (by omega) (by omega) (by omega) (by omega) (fun c c0 c1 => by rw [hp2 c c0 c1]; exact dg_in b1) (fun r3 t3 hS3 _ hO3 => ?_)
    refine ih (r3, t3) ⟨by omega, ?_, Off_trans hO2' (Off_mono hO3 (fun b j q => by unfold DM; omega))⟩
    rw [lp_succ k0]
    exact hS3.to (ESm.rfl'.insv (by omega) hp2)
theorem R_commutingMany_s {p n : Int} {T : Int → Int} (hR : RW σ p n T) (h : ∀ σ', Off DM σ σ' → Q (sR (fun x => p ^ (n - cd (rks p n T (dg p x)).1 n).toNat) 0 (p ^ n.toNat)) σ') : Tri (d + 5) M_R_commutingMany [vA 161] σ Q := by
  obtain ⟨b1, b2, b3, b4⟩ := hR.1.1.b
  have hpw := hR.1.1.pow
  have hpw0 := ppos b1 n.toNat
  refine t_R_commutingMany ?_
  refine loop_up (P := fun x (s : Int × SG) => L (d + 5) M_R_commutingMany 4 [vA 161, vI s.1, vI x] [] s.2 Q)
    (fun x s => 0 ≤ x ∧ (0 ≤ s.1 ∧ s.1 ≤ 625 * x) ∧ s.1 = sR (fun x => p ^ (n - cd (rks p n T (dg p x)).1 n).toNat) 0 x ∧ Off DM σ s.2) (p ^ n.toNat) ?_ ?_ 0 (by omega) (0, σ) ⟨by omega, by simp, by simp only; rw [sR_nil (by omega)], Off_rfl⟩
  · rintro ⟨c, t⟩ ⟨_, _, hc, hO⟩
    simp only at hc hO ⊢
    refine s_R_commutingMany_4 (R_vectors_s (hR.dm hO) ⟨fun _ => ?_, fun q => by omega⟩)
    rw [hc]; exact h t hO
  · rintro x ⟨c, t⟩ hx ⟨x0, hcb, hc, hO⟩ ih
    simp only at hcb hc hO ⊢
    have hRt := hR.dm hO
    refine s_R_commutingMany_4 (R_vectors_s hRt ⟨fun q => by omega, fun _ => R_rankOf_s hRt x0 (fun t2 hO2 => ?_)⟩)
    have hcb2 := cd_b (ℓ := (rks p n T (dg p x)).1) (w := n) (by omega)
    have hle := pow_le (p := p) (k := (n - cd (rks p n T (dg p x)).1 n).toNat) (n := n.toNat) (by omega) (by omega)
    have hps := ppos b1 (n - cd (rks p n T (dg p x)).1 n).toNat
    rw [hRt.2.2.1, w32_id (x := n - cd (rks p n T (dg p x)).1 n) (by omega) (by omega)]
    refine R_powerOf_s (hRt.dm hO2).2.1 (by omega) (by omega) (by omega) ?_
    rw [w32_id (by omega) (by omega), w32_id (by omega) (by omega)]
    exact ih (_, t2) ⟨by omega, by simp only; omega, by simp only; rw [sR_succ x0, hc], Off_trans hO hO2⟩
end RMD
