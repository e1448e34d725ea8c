/-! ===== the class's ANATOMY: closures, kinds ===== -/
def gI (p n : Int) (T : Int → Int) (E : ES) : ES := lp (fun l E => lp (fun i E => if E.1 l = true then ins p n E (br p n T (E.2 l) (EU.2 i)) else E) 0 n E) 0 n E
def gP (p n : Int) (T : Int → Int) (E : ES) : ES := lp (fun l E => lp (fun m E => if E.1 l = true ∧ E.1 m = true then ins p n E (br p n T (E.2 l) (E.2 m)) else E) (l + 1) n E) 0 n E
/-- how far a SPAN that grows has come -/
def Gr (p n : Int) (E E' : ES) : Prop := EW p n E' ∧ cd E.1 n ≤ cd E'.1 n ∧ (∀ u, In p n E u → In p n E' u) ∧ (cd E'.1 n = cd E.1 n → E' = E)
theorem Gr_rfl {p n : Int} {E : ES} (h : EW p n E) : Gr p n E E := ⟨h, Int.le_refl _, fun _ h => h, fun _ => rfl⟩
theorem Gr_ins {p n : Int} {E E' : ES} {v : Int → Int} (hp : PR p) (hn : 0 ≤ n) (h : Gr p n E E') : Gr p n E (ins p n E' v) := by
  obtain ⟨h1, h2, h3, h4⟩ := h
  have hc := cd_ins (v := v) hn h1
  refine ⟨EW_ins hp hn h1, by rw [hc]; split <;> omega, fun u hu => In_ins_of hp hn h1 (h3 u hu), fun q => ?_⟩
  rw [hc] at q
  by_cases g : ild p n E' v < n
  · rw [if_pos g] at q; omega
  · rw [ins_no g]; exact h4 (by rw [if_neg g] at q; omega)
theorem Gr_gI {p n : Int} {T : Int → Int} {E : ES} (hp : PR p) (hn : 0 ≤ n) (hE : EW p n E) : Gr p n E (gI p n T E) := by
  unfold gI
  refine lp_ind (P := fun _ t => Gr p n E t) (Gr_rfl hE) (fun l t _ _ ht => ?_) hn
  refine lp_ind (P := fun _ t => Gr p n E t) ht (fun i t _ _ ht => ?_) hn
  show Gr p n E (if _ then _ else _)
  split
  · exact Gr_ins hp hn ht
  · exact ht
theorem Gr_gP {p n : Int} {T : Int → Int} {E : ES} (hp : PR p) (hn : 0 ≤ n) (hE : EW p n E) : Gr p n E (gP p n T E) := by
  unfold gP
  refine lp_ind (P := fun _ t => Gr p n E t) (Gr_rfl hE) (fun l t l0 l1 ht => ?_) hn
  refine lp_ind (P := fun _ t => Gr p n E t) ht (fun i t _ _ ht => ?_) (by omega)
  show Gr p n E (if _ then _ else _)
  split
  · exact Gr_ins hp hn ht
  · exact ht
/-- the steps of a loop that comes back where it began, each of which only grows, do nothing -/
theorem lp_still {p n : Int} {f : Int → ES → ES} {lo hi : Int} {E : ES} (hf : ∀ k t, lo ≤ k → k < hi → EW p n t → Gr p n t (f k t)) (hE : EW p n E) (h : cd (lp f lo hi E).1 n = cd E.1 n) : ∀ k, lo ≤ k → k < hi → f k E = E := by
  intro k k0 k1
  have key : ∀ m, lo ≤ m → m ≤ hi → EW p n (lp f lo m E) ∧ cd E.1 n ≤ cd (lp f lo m E).1 n ∧ (cd (lp f lo m E).1 n = cd E.1 n → ∀ k, lo ≤ k → k < m → f k E = E) ∧ (cd (lp f lo m E).1 n = cd E.1 n → lp f lo m E = E) := by
    refine up_ind (P := fun m => m ≤ hi → EW p n (lp f lo m E) ∧ cd E.1 n ≤ cd (lp f lo m E).1 n ∧ (cd (lp f lo m E).1 n = cd E.1 n → ∀ k, lo ≤ k → k < m → f k E = E) ∧ (cd (lp f lo m E).1 n = cd E.1 n → lp f lo m E = E)) ?_ ?_
    · intro _; rw [lp_nil (by omega)]; exact ⟨hE, Int.le_refl _, fun _ k _ _ => by omega, fun _ => rfl⟩
    · intro m hm ih h2
      obtain ⟨i1, i2, i3, i4⟩ := ih (by omega)
      rw [lp_succ hm]
      obtain ⟨g1, g2, g3, g4⟩ := hf m _ hm (by omega) i1
      refine ⟨g1, by omega, fun q k k0 k1 => ?_, fun q => ?_⟩
      · have e1 : lp f lo m E = E := i4 (by omega)
        by_cases hk : k = m
        · subst hk
          rw [e1] at g4 q
          exact g4 q
        · exact i3 (by omega) k k0 (by omega)
      · have e1 : lp f lo m E = E := i4 (by omega)
        rw [e1] at g4 q ⊢
        exact g4 q
  exact (key hi (by omega) (Int.le_refl _)).2.2.1 h k k0 k1
theorem ins_same_in {p n : Int} {E : ES} {v : Int → Int} (hp : PR p) (hn : 0 ≤ n) (hE : EW p n E) (h : ins p n E v = E) : In p n E v := by
  have := In_ins_v (v := v) hp hn hE
  rwa [h] at this
theorem gI_still {p n : Int} {T : Int → Int} {E : ES} (hT : TW p n T) (hE : EW p n E) (h : cd (gI p n T E).1 n = cd E.1 n) : ClI p n T E := by
  have hp := hT.1.pr
  obtain ⟨_, _, b3, _⟩ := hT.1.b
  refine ClI_of hT (fun l i l0 l1 hl i0 i1 => ?_)
  have hin : ∀ l k t, 0 ≤ k → k < n → EW p n t → Gr p n t (if t.1 l = true then ins p n t (br p n T (t.2 l) (EU.2 k)) else t) := fun l k t _ _ ht => by
    split
    · exact Gr_ins hp (by omega) (Gr_rfl ht)
    · exact Gr_rfl ht
  have h1 := lp_still (p := p) (fun l t _ _ ht => lp_ind (P := fun _ s => Gr p n t s) (Gr_rfl ht) (fun i s _ _ hs => by
    show Gr p n t (if _ then _ else _)
    split
    · exact Gr_ins hp (by omega) hs
    · exact hs) (by omega)) hE h l l0 l1
  have h2 := lp_still (p := p) (hin l) hE (by rw [h1]) i i0 i1
  rw [if_pos hl] at h2
  exact ins_same_in hp (by omega) hE h2
theorem gP_still {p n : Int} {T : Int → Int} {E : ES} (hT : TW p n T) (hE : EW p n E) (h : cd (gP p n T E).1 n = cd E.1 n) : ClP p n T E E := by
  have hp := hT.1.pr
  obtain ⟨_, _, b3, _⟩ := hT.1.b
  refine ClP_of hT (fun l m l0 hlm m1 hl hm => ?_)
  have hin : ∀ l k t, l + 1 ≤ k → k < n → EW p n t → Gr p n t (if t.1 l = true ∧ t.1 k = true then ins p n t (br p n T (t.2 l) (t.2 k)) else t) := fun l k t _ _ ht => by
    split
    · exact Gr_ins hp (by omega) (Gr_rfl ht)
    · exact Gr_rfl ht
  have h1 := lp_still (p := p) (fun l t _ _ ht => lp_ind (P := fun _ s => Gr p n t s) (Gr_rfl ht) (fun i s _ _ hs => by
    show Gr p n t (if _ then _ else _)
    split
    · exact Gr_ins hp (by omega) hs
    · exact hs) (by omega)) hE h l l0 (by omega)
  have h2 := lp_still (p := p) (hin l) hE (by rw [h1]) m (by omega) m1
  rw [if_pos ⟨hl, hm⟩] at h2
  exact ins_same_in hp (by omega) hE h2
theorem ins_sub {p n : Int} {E F : ES} {v : Int → Int} (hp : PR p) (hn : 0 ≤ n) (hE : EW p n E) (h : ∀ u, In p n E u → In p n F u) (hv : In p n F v) : ∀ u, In p n (ins p n E v) u → In p n F u := by
  intro u hu
  obtain ⟨t, ht⟩ := (In_ins hp hn hE).mp hu
  exact ((h _ ht).lin hv 1 t).cg (fun c _ _ => by rw [show ∀ a b : Int, 1 * (a - b) + b - a = 0 by intro a b; omega]; exact Int.dvd_zero p)
theorem gI_sub {p n : Int} {T : Int → Int} {E F : ES} (hp : PR p) (hn : 0 ≤ n) (hE : EW p n E) (hF : ClI p n T F) (h : ∀ u, In p n E u → In p n F u) : ∀ u, In p n (gI p n T E) u → In p n F u := by
  unfold gI
  refine (lp_ind (P := fun _ t => EW p n t ∧ ∀ u, In p n t u → In p n F u) ⟨hE, h⟩ (fun l t l0 l1 ht => ?_) hn).2
  refine lp_ind (P := fun _ t => EW p n t ∧ ∀ u, In p n t u → In p n F u) ht (fun i t _ _ ht => ?_) hn
  by_cases g : t.1 l = true
  · rw [if_pos g]
    exact ⟨EW_ins hp hn ht.1, ins_sub hp hn ht.1 ht.2 (hF _ _ (ht.2 _ (In_row ht.1 l0 l1 g)))⟩
  · rw [if_neg g]; exact ht
theorem gP_sub {p n : Int} {T : Int → Int} {E F : ES} (hp : PR p) (hn : 0 ≤ n) (hE : EW p n E) (hF : ClP p n T F F) (h : ∀ u, In p n E u → In p n F u) : ∀ u, In p n (gP p n T E) u → In p n F u := by
  unfold gP
  refine (lp_ind (P := fun _ t => EW p n t ∧ ∀ u, In p n t u → In p n F u) ⟨hE, h⟩ (fun l t l0 l1 ht => ?_) hn).2
  refine lp_ind (P := fun _ t => EW p n t ∧ ∀ u, In p n t u → In p n F u) ht (fun m t m0 m1 ht => ?_) (by omega)
  by_cases g : t.1 l = true ∧ t.1 m = true
  · rw [if_pos g]
    exact ⟨EW_ins hp hn ht.1, ins_sub hp hn ht.1 ht.2 (hF _ _ (ht.2 _ (In_row ht.1 l0 l1 g.1)) (ht.2 _ (In_row ht.1 (by omega) m1 g.2)))⟩
  · rw [if_neg g]; exact ht
/-- E' is the least PART, or IDEAL, that holds E -/
def Lst (p n : Int) (T : Int → Int) (ideal : Prop) (E E' : ES) : Prop := EW p n E' ∧ (∀ u, In p n E u → In p n E' u) ∧ (ideal → ClI p n T E') ∧ (¬ ideal → ClP p n T E' E') ∧ ∀ F, EW p n F → (∀ u, In p n E u → In p n F u) → (ideal → ClI p n T F) → (¬ ideal → ClP p n T F F) → ∀ u, In p n E' u → In p n F u
theorem Lst_uniq {p n : Int} {T : Int → Int} {ideal : Prop} {E E1 E2 : ES} (hp : 2 ≤ p) (h1 : Lst p n T ideal E E1) (h2 : Lst p n T ideal E E2) : ESm n E1 E2 :=
  ES_uniq hp h1.1 h2.1 (fun u => ⟨h1.2.2.2.2 E2 h2.1 h2.2.1 h2.2.2.1 h2.2.2.2.1 u, h2.2.2.2.2 E1 h1.1 h1.2.1 h1.2.2.1 h1.2.2.2.1 u⟩)
section CLO
variable {d : Nat} {σ : SG} {Q : Int → SG → Prop}
def DE (e b j : Int) : Prop := b = 66 ∨ (b = e ∧ (j = 5 ∨ j = 6)) ∨ b = e + 1 ∨ b = e + 2
theorem An_growToIdeal_s {a e p n : Int} {T : Int → Int} {E : ES} (hW : WD σ a p n T) (ha : a ≤ 20) (hE : EC σ e p n E) (he : e ≠ 69 ∧ e ≠ 107)
    (h : ∀ r σ', EC σ' e p n (gI p n T E) → r = (if cd (gI p n T E).1 n = cd E.1 n then 0 else 1) → Off (DE e) σ σ' → Q r σ') : Tri (d + 4) M_An_growToIdeal [vA 42, vA a, vA e] σ Q := by
  obtain ⟨b1, b2, b3, b4⟩ := hW.pn.b
  obtain ⟨ho, hp, hn, _, hT⟩ := id hW
  obtain ⟨kw1, _, _⟩ := kd_world ho
  have hel := ech_list hE.1
  have hPR := hW.pn.pr
  have hEW : EW p n E := hE.2.2.2.2.2.2.2.2.2.1
  obtain ⟨kx1, kx2⟩ := kd_rows hE.1 he.1 he.2
  refine t_An_growToIdeal ?_
  refine loop_up (P := fun l (s : Int × SG) => L (d + 4) M_An_growToIdeal 5 [vA 42, vA a, vA e, vI s.1, vI l, vU] [] s.2 Q)
    (fun l s => 0 ≤ l ∧ EC s.2 e p n (lp (fun l E => lp (fun i E => if E.1 l = true then ins p n E (br p n T (E.2 l) (EU.2 i)) else E) 0 n E) 0 l E) ∧ Gr p n E (lp (fun l E => lp (fun i E => if E.1 l = true then ins p n E (br p n T (E.2 l) (EU.2 i)) else E) 0 n E) 0 l E) ∧ s.1 = (if cd (lp (fun l E => lp (fun i E => if E.1 l = true then ins p n E (br p n T (E.2 l) (EU.2 i)) else E) 0 n E) 0 l E).1 n = cd E.1 n then 0 else 1) ∧ Off (DE e) σ s.2) n ?_ ?_ 0 (by omega) (0, σ) ⟨by omega, by rw [lp_nil (by omega)]; exact hE, by rw [lp_nil (by omega)]; exact Gr_rfl hEW, by rw [lp_nil (by omega), if_pos rfl], Off_rfl⟩
  · rintro ⟨g, t⟩ ⟨_, hEt, _, hg, hOt⟩
    simp only at hEt hg hOt ⊢
    have hnt : t a 2 = n := (hOt a 2 (by unfold DE; omega)).trans hn
    exact s_An_growToIdeal_5 ⟨ho, fun _ => ⟨by rw [hg]; split <;> omega, h g t hEt hg hOt⟩, fun q => by omega⟩
  · rintro l ⟨g, t⟩ hl ⟨l0, hEt, hGt, hg, hOt⟩ ih
    simp only at hEt hGt hg hOt ⊢
    have hnt : t a 2 = n := (hOt a 2 (by unfold DE; omega)).trans hn
    refine s_An_growToIdeal_5 ⟨ho, fun q => by omega, fun _ => ?_⟩
    generalize hX : lp (fun l E => lp (fun i E => if E.1 l = true then ins p n E (br p n T (E.2 l) (EU.2 i)) else E) 0 n E) 0 l E = X at hEt hGt hg
    refine loop_up (P := fun i (s : Int × SG) => L (d + 4) M_An_growToIdeal 17 [vA 42, vA a, vA e, vI s.1, vI l, vI i] [] s.2 Q)
      (fun i s => 0 ≤ i ∧ EC s.2 e p n (lp (fun i E => if E.1 l = true then ins p n E (br p n T (E.2 l) (EU.2 i)) else E) 0 i X) ∧ Gr p n E (lp (fun i E => if E.1 l = true then ins p n E (br p n T (E.2 l) (EU.2 i)) else E) 0 i X) ∧ s.1 = (if cd (lp (fun i E => if E.1 l = true then ins p n E (br p n T (E.2 l) (EU.2 i)) else E) 0 i X).1 n = cd E.1 n then 0 else 1) ∧ Off (DE e) σ s.2) n ?_ ?_ 0 (by omega) (g, t) ⟨by omega, by rw [lp_nil (by omega)]; exact hEt, by rw [lp_nil (by omega)]; exact hGt, by rw [lp_nil (by omega)]; exact hg, hOt⟩
    · rintro ⟨g2, u⟩ ⟨_, hEu, hGu, hg2, hOu⟩
      simp only at hEu hGu hg2 hOu ⊢
      have hnu : u a 2 = n := (hOu a 2 (by unfold DE; omega)).trans hn
      refine s_An_growToIdeal_17 ⟨ho, fun _ => ?_, fun q => by omega⟩
      rw [w32_id (by omega) (by omega)]
      exact ih (g2, u) ⟨by omega, by rw [lp_succ l0, hX]; exact hEu, by rw [lp_succ l0, hX]; exact hGu, by rw [lp_succ l0, hX]; exact hg2, hOu⟩
    · rintro i ⟨g2, u⟩ hi ⟨i0, hEu, hGu, hg2, hOu⟩ ih2
      simp only at hEu hGu hg2 hOu ⊢
      have hWu : WD u a p n T := hW.cg (fun k => hOu a k (by unfold DE; omega)) (fun k => hOu (a + 1) k (by unfold DE; omega))
      have hnu : u a 2 = n := hWu.2.2.1
      refine L_units_of (fun hUN => ?_)
      refine s_An_growToIdeal_17 ⟨ho, fun q => by omega, fun _ => ⟨hE.1, ?_⟩⟩
      rw [w32_id (x := l * 5) (by omega) (by omega), w32_id (x := i * 5) (by omega) (by omega), w32_id (x := i + 1) (by omega) (by omega)]
      generalize hY : lp (fun i E => if E.1 l = true then ins p n E (br p n T (E.2 l) (EU.2 i)) else E) 0 i X = Y at hEu hGu hg2
      refine Ec_leadsAt_s hEu l0 hl (fun g1 => ⟨fun q => by omega, fun _ => ⟨hE.1, ho, ?_⟩⟩) (fun g1 => ⟨fun _ => ih2 (g2, u) ⟨by omega, by rw [lp_succ i0, hY, if_neg (by rw [g1]; simp)]; exact hEu, by rw [lp_succ i0, hY, if_neg (by rw [g1]; simp)]; exact hGu, by rw [lp_succ i0, hY, if_neg (show ¬ Y.1 l = true by rw [g1]; simp)]; exact hg2, hOu⟩, fun q => by omega⟩)
      refine Wd_br_s hWu kx1 kd_m2 (by omega) kd_66 (by omega) (by omega) (by omega) (by omega) (by omega) (by omega) (by omega) (by omega) (by omega) (by omega) (by omega) (hEu.rowb (stl5 he.1 he.2) l0 hl g1) (hUN.row i0 (by omega) b1 b4) (fun v hv hOv => ⟨hE.1, ?_⟩)
      have hEv : EC v e p n Y := hEu.cg (fun k => hOv e k (by omega)) (fun k => hOv (e + 1) k (by omega))
      have hval : ∀ c, 0 ≤ c → c < n → v 66 (0 + c) = br p n T (Y.2 l) (EU.2 i) c := fun c c0 c1 => by rw [show (0 : Int) + c = c by omega]; exact (hv c c0 c1).1
      refine Ec_add_s hEv kd_66 (by omega) (by omega) (by omega) (by omega) (fun c c0 c1 => by rw [hval c c0 c1]; exact (hv c c0 c1).2) (fun r v2 hE2 hr hO2 => ?_)
      have hOv2 : Off (DE e) σ v2 := Off_trans hOu (Off_trans (Off_mono hOv (fun b j q => by unfold DE; omega)) (Off_mono hO2 (fun b j q => by unfold DE; omega)))
      have hE2' : EC v2 e p n (ins p n Y (br p n T (Y.2 l) (EU.2 i))) := hE2.to (ESm.rfl'.insv (by omega) hval)
      have hil : ild p n Y (fun c => v 66 (0 + c)) = ild p n Y (br p n T (Y.2 l) (EU.2 i)) := ild_cg (by omega) hval
      have hG2 : Gr p n E (ins p n Y (br p n T (Y.2 l) (EU.2 i))) := Gr_ins hPR (by omega) hGu
      have hc := cd_ins (v := br p n T (Y.2 l) (EU.2 i)) (show 0 ≤ n by omega) hGu.1
      have hgu := hGu.2.1
      rw [hil] at hr
      refine ⟨fun q => ?_, fun q => ?_⟩
      · have hil2 : ¬ ild p n Y (br p n T (Y.2 l) (EU.2 i)) < n := fun z => by rw [if_pos z] at hr; omega
        have e4 := ins_no hil2
        exact ih2 (g2, v2) ⟨by omega, by rw [lp_succ i0, hY, if_pos g1]; exact hE2', by rw [lp_succ i0, hY, if_pos g1]; exact hG2, by rw [lp_succ i0, hY, if_pos g1, e4]; exact hg2, hOv2⟩
      · have hil2 : ild p n Y (br p n T (Y.2 l) (EU.2 i)) < n := Classical.byContradiction (fun z => by rw [if_neg z] at hr; omega)
        rw [if_pos hil2] at hc
        exact ih2 (1, v2) ⟨by omega, by rw [lp_succ i0, hY, if_pos g1]; exact hE2', by rw [lp_succ i0, hY, if_pos g1]; exact hG2, by rw [lp_succ i0, hY, if_pos g1, if_neg (by omega)], hOv2⟩
theorem An_growToPart_s {a e p n : Int} {T : Int → Int} {E : ES} (hW : WD σ a p n T) (ha : a ≤ 20) (hE : EC σ e p n E) (he : e ≠ 69 ∧ e ≠ 107)
    (h : ∀ r σ', EC σ' e p n (gP p n T E) → r = (if cd (gP p n T E).1 n = cd E.1 n then 0 else 1) → Off (DE e) σ σ' → Q r σ') : Tri (d + 4) M_An_growToPart [vA 42, vA a, vA e] σ Q := by
  obtain ⟨b1, b2, b3, b4⟩ := hW.pn.b
  obtain ⟨ho, hp, hn, _, hT⟩ := id hW
  obtain ⟨kw1, _, _⟩ := kd_world ho
  have hel := ech_list hE.1
  have hPR := hW.pn.pr
  have hEW : EW p n E := hE.2.2.2.2.2.2.2.2.2.1
  obtain ⟨kx1, kx2⟩ := kd_rows hE.1 he.1 he.2
  refine t_An_growToPart ?_
  refine loop_up (P := fun l (s : Int × SG) => L (d + 4) M_An_growToPart 5 [vA 42, vA a, vA e, vI s.1, vI l, vU] [] s.2 Q)
    (fun l s => 0 ≤ l ∧ EC s.2 e p n (lp (fun l E => lp (fun m E => if E.1 l = true ∧ E.1 m = true then ins p n E (br p n T (E.2 l) (E.2 m)) else E) (l + 1) n E) 0 l E) ∧ Gr p n E (lp (fun l E => lp (fun m E => if E.1 l = true ∧ E.1 m = true then ins p n E (br p n T (E.2 l) (E.2 m)) else E) (l + 1) n E) 0 l E) ∧ s.1 = (if cd (lp (fun l E => lp (fun m E => if E.1 l = true ∧ E.1 m = true then ins p n E (br p n T (E.2 l) (E.2 m)) else E) (l + 1) n E) 0 l E).1 n = cd E.1 n then 0 else 1) ∧ Off (DE e) σ s.2) n ?_ ?_ 0 (by omega) (0, σ) ⟨by omega, by rw [lp_nil (by omega)]; exact hE, by rw [lp_nil (by omega)]; exact Gr_rfl hEW, by rw [lp_nil (by omega), if_pos rfl], Off_rfl⟩
  · rintro ⟨g, t⟩ ⟨_, hEt, _, hg, hOt⟩
    simp only at hEt hg hOt ⊢
    have hnt : t a 2 = n := (hOt a 2 (by unfold DE; omega)).trans hn
    exact s_An_growToPart_5 ⟨ho, fun _ => ⟨by rw [hg]; split <;> omega, h g t hEt hg hOt⟩, fun q => by omega⟩
  · rintro l ⟨g, t⟩ hl ⟨l0, hEt, hGt, hg, hOt⟩ ih
    simp only at hEt hGt hg hOt ⊢
    have hnt : t a 2 = n := (hOt a 2 (by unfold DE; omega)).trans hn
    refine s_An_growToPart_5 ⟨ho, fun q => by omega, fun _ => ?_⟩
    rw [w32_id (x := l + 1) (by omega) (by omega)]
    generalize hX : lp (fun l E => lp (fun m E => if E.1 l = true ∧ E.1 m = true then ins p n E (br p n T (E.2 l) (E.2 m)) else E) (l + 1) n E) 0 l E = X at hEt hGt hg
    refine loop_up (P := fun i (s : Int × SG) => L (d + 4) M_An_growToPart 20 [vA 42, vA a, vA e, vI s.1, vI l, vI i] [] s.2 Q)
      (fun i s => l + 1 ≤ i ∧ EC s.2 e p n (lp (fun m E => if E.1 l = true ∧ E.1 m = true then ins p n E (br p n T (E.2 l) (E.2 m)) else E) (l + 1) i X) ∧ Gr p n E (lp (fun m E => if E.1 l = true ∧ E.1 m = true then ins p n E (br p n T (E.2 l) (E.2 m)) else E) (l + 1) i X) ∧ s.1 = (if cd (lp (fun m E => if E.1 l = true ∧ E.1 m = true then ins p n E (br p n T (E.2 l) (E.2 m)) else E) (l + 1) i X).1 n = cd E.1 n then 0 else 1) ∧ Off (DE e) σ s.2) n ?_ ?_ (l + 1) (by omega) (g, t) ⟨by omega, by rw [lp_nil (by omega)]; exact hEt, by rw [lp_nil (by omega)]; exact hGt, by rw [lp_nil (by omega)]; exact hg, hOt⟩
    · rintro ⟨g2, u⟩ ⟨_, hEu, hGu, hg2, hOu⟩
      simp only at hEu hGu hg2 hOu ⊢
      have hnu : u a 2 = n := (hOu a 2 (by unfold DE; omega)).trans hn
      refine s_An_growToPart_20 ⟨ho, fun _ => ?_, fun q => by omega⟩
      rw [w32_id (by omega) (by omega)]
      exact ih (g2, u) ⟨by omega, by rw [lp_succ l0, hX]; exact hEu, by rw [lp_succ l0, hX]; exact hGu, by rw [lp_succ l0, hX]; exact hg2, hOu⟩
    · rintro i ⟨g2, u⟩ hi ⟨i0, hEu, hGu, hg2, hOu⟩ ih2
      simp only at hEu hGu hg2 hOu ⊢
      have hWu : WD u a p n T := hW.cg (fun k => hOu a k (by unfold DE; omega)) (fun k => hOu (a + 1) k (by unfold DE; omega))
      have hnu : u a 2 = n := hWu.2.2.1
      refine s_An_growToPart_20 ⟨ho, fun q => by omega, fun _ => ⟨hE.1, ?_⟩⟩
      rw [w32_id (x := l * 5) (by omega) (by omega), w32_id (x := i * 5) (by omega) (by omega), w32_id (x := i + 1) (by omega) (by omega)]
      generalize hY : lp (fun m E => if E.1 l = true ∧ E.1 m = true then ins p n E (br p n T (E.2 l) (E.2 m)) else E) (l + 1) i X = Y at hEu hGu hg2
      have hno : ¬ (Y.1 l = true ∧ Y.1 i = true) → L (d + 4) M_An_growToPart 20 [vA 42, vA a, vA e, vI g2, vI l, vI (i + 1)] [] u Q := fun q => ih2 (g2, u) ⟨by omega, by rw [lp_succ i0, hY, if_neg q]; exact hEu, by rw [lp_succ i0, hY, if_neg q]; exact hGu, by rw [lp_succ i0, hY, if_neg q]; exact hg2, hOu⟩
      refine Ec_leadsAt_s hEu l0 hl (fun g1 => ⟨fun q => by omega, fun _ => ⟨hE.1, ?_⟩⟩) (fun g1 => ⟨fun _ => hno (by rw [g1]; simp), fun q => by omega⟩)
      refine Ec_leadsAt_s hEu (by omega) hi (fun g3 => ⟨fun q => by omega, fun _ => ⟨hE.1, hE.1, ho, ?_⟩⟩) (fun g3 => ⟨fun _ => hno (by rw [g3]; simp), fun q => by omega⟩)
      refine Wd_br_s hWu kx1 kx1 (by omega) kd_66 (by omega) (by omega) (by omega) (by omega) (by omega) (by omega) (by omega) (by omega) (by omega) (by omega) (by omega) (hEu.rowb (stl5 he.1 he.2) l0 hl g1) (hEu.rowb (stl5 he.1 he.2) (by omega) hi g3) (fun v hv hOv => ⟨hE.1, ?_⟩)
      have hEv : EC v e p n Y := hEu.cg (fun k => hOv e k (by omega)) (fun k => hOv (e + 1) k (by omega))
      have hval : ∀ c, 0 ≤ c → c < n → v 66 (0 + c) = br p n T (Y.2 l) (Y.2 i) c := fun c c0 c1 => by rw [show (0 : Int) + c = c by omega]; exact (hv c c0 c1).1
      refine Ec_add_s hEv kd_66 (by omega) (by omega) (by omega) (by omega) (fun c c0 c1 => by rw [hval c c0 c1]; exact (hv c c0 c1).2) (fun r v2 hE2 hr hO2 => ?_)
      have hOv2 : Off (DE e) σ v2 := Off_trans hOu (Off_trans (Off_mono hOv (fun b j q => by unfold DE; omega)) (Off_mono hO2 (fun b j q => by unfold DE; omega)))
      have hE2' : EC v2 e p n (ins p n Y (br p n T (Y.2 l) (Y.2 i))) := hE2.to (ESm.rfl'.insv (by omega) hval)
      have hil : ild p n Y (fun c => v 66 (0 + c)) = ild p n Y (br p n T (Y.2 l) (Y.2 i)) := ild_cg (by omega) hval
      have hG2 : Gr p n E (ins p n Y (br p n T (Y.2 l) (Y.2 i))) := Gr_ins hPR (by omega) hGu
      have hc := cd_ins (v := br p n T (Y.2 l) (Y.2 i)) (show 0 ≤ n by omega) hGu.1
      have hgu := hGu.2.1
      have hgg : Y.1 l = true ∧ Y.1 i = true := ⟨g1, g3⟩
      rw [hil] at hr
      refine ⟨fun q => ?_, fun q => ?_⟩
      · have hil2 : ¬ ild p n Y (br p n T (Y.2 l) (Y.2 i)) < n := fun z => by rw [if_pos z] at hr; omega
        have e4 := ins_no hil2
        exact ih2 (g2, v2) ⟨by omega, by rw [lp_succ i0, hY, if_pos hgg]; exact hE2', by rw [lp_succ i0, hY, if_pos hgg]; exact hG2, by rw [lp_succ i0, hY, if_pos hgg, e4]; exact hg2, hOv2⟩
      · have hil2 : ild p n Y (br p n T (Y.2 l) (Y.2 i)) < n := Classical.byContradiction (fun z => by rw [if_neg z] at hr; omega)
        rw [if_pos hil2] at hc
        exact ih2 (1, v2) ⟨by omega, by rw [lp_succ i0, hY, if_pos hgg]; exact hE2', by rw [lp_succ i0, hY, if_pos hgg]; exact hG2, by rw [lp_succ i0, hY, if_pos hgg, if_neg (by omega)], hOv2⟩
theorem An_closeUp_s {a e p n id_ : Int} {T : Int → Int} {E : ES} (hW : WD σ a p n T) (ha : a ≤ 20) (hE : EC σ e p n E) (he : e ≠ 69 ∧ e ≠ 107)
    (h : ∀ E' σ', EC σ' e p n E' → Lst p n T (id_ ≠ 0) E E' → Off (DE e) σ σ' → Q 0 σ') : Tri (d + 5) M_An_closeUp [vA 42, vA a, vA e, vI id_] σ Q := by
  obtain ⟨b1, b2, b3, b4⟩ := hW.pn.b
  obtain ⟨ho, hp, hn, _, hT⟩ := id hW
  obtain ⟨kw1, _, _⟩ := kd_world ho
  have hel := ech_list hE.1
  have hPR := hW.pn.pr
  have hEW : EW p n E := hE.2.2.2.2.2.2.2.2.2.1
  refine t_An_closeUp (fun _ => ?_)
  refine loop_up (P := fun k (s : Int × SG) => L (d + 5) M_An_closeUp 6 [vA 42, vA a, vA e, vI id_, vI s.1, vI k] [] s.2 Q)
    (fun k s => 0 ≤ k ∧ ∃ X, EC s.2 e p n X ∧ (∀ u, In p n E u → In p n X u) ∧ (∀ F, EW p n F → (∀ u, In p n E u → In p n F u) → (id_ ≠ 0 → ClI p n T F) → (¬ id_ ≠ 0 → ClP p n T F F) → ∀ u, In p n X u → In p n F u) ∧ (s.1 = 0 → (id_ ≠ 0 → ClI p n T X) ∧ (¬ id_ ≠ 0 → ClP p n T X X)) ∧ (s.1 ≠ 0 → k ≤ cd X.1 n) ∧ Off (DE e) σ s.2) 6 ?_ ?_ 0 (by omega) (1, σ) ⟨by omega, E, hE, fun _ h => h, fun F _ h _ _ => h, fun q => absurd (show (1 : Int) = 0 from q) (by decide), fun _ => (cd_b (by omega)).1, Off_rfl⟩
  · rintro ⟨g, t⟩ ⟨_, X, hX, h1, h2, h3, h4, hO⟩
    simp only at hX h3 h4 hO ⊢
    have hg : g = 0 := Classical.byContradiction (fun q => by have := h4 q; have := (cd_b (ℓ := X.1) (w := n) (by omega)).2; omega)
    exact s_An_closeUp_6 ⟨fun _ => h X t hX ⟨hX.2.2.2.2.2.2.2.2.2.1, h1, (h3 hg).1, (h3 hg).2, h2⟩ hO, fun q => by omega⟩
  · rintro k ⟨g, t⟩ hk ⟨k0, X, hX, h1, h2, h3, h4, hO⟩ ih
    simp only at hX h3 h4 hO ⊢
    have hXW : EW p n X := hX.2.2.2.2.2.2.2.2.2.1
    have hWt : WD t a p n T := hW.cg (fun k => hO a k (by unfold DE; omega)) (fun k => hO (a + 1) k (by unfold DE; omega))
    refine s_An_closeUp_6 ⟨fun q => by omega, fun _ => ⟨fun q => h X t hX ⟨hXW, h1, (h3 q).1, (h3 q).2, h2⟩ hO, fun q => ⟨fun hi => ?_, fun hi => ?_⟩⟩⟩
    · refine An_growToPart_s hWt ha hX he (fun r t2 hX2 hr hO2 => ?_)
      rw [w32_id (by omega) (by omega)]
      obtain ⟨g1, g2, g3, g4⟩ := Gr_gP (T := T) hPR (show 0 ≤ n by omega) hXW
      refine ih (r, t2) ⟨by omega, gP p n T X, hX2, fun u hu => g3 u (h1 u hu), fun F hF h5 h6 h7 => gP_sub hPR (by omega) hXW (h7 (by omega)) (h2 F hF h5 h6 h7), fun z => ?_, fun z => ?_, Off_trans hO hO2⟩
      · have z2 : cd (gP p n T X).1 n = cd X.1 n := Classical.byContradiction (fun y => by rw [if_neg y] at hr; simp only at z; omega)
        refine ⟨fun y => absurd hi y, fun _ => ?_⟩
        rw [g4 z2]; exact gP_still hT hXW z2
      · have z2 : cd (gP p n T X).1 n ≠ cd X.1 n := fun y => by rw [if_pos y] at hr; exact z hr
        have := h4 q; omega
    · refine An_growToIdeal_s hWt ha hX he (fun r t2 hX2 hr hO2 => ?_)
      rw [w32_id (by omega) (by omega)]
      obtain ⟨g1, g2, g3, g4⟩ := Gr_gI (T := T) hPR (show 0 ≤ n by omega) hXW
      refine ih (r, t2) ⟨by omega, gI p n T X, hX2, fun u hu => g3 u (h1 u hu), fun F hF h5 h6 h7 => gI_sub hPR (by omega) hXW (h6 hi) (h2 F hF h5 h6 h7), fun z => ?_, fun z => ?_, Off_trans hO hO2⟩
      · have z2 : cd (gI p n T X).1 n = cd X.1 n := Classical.byContradiction (fun y => by rw [if_neg y] at hr; simp only at z; omega)
        refine ⟨fun _ => ?_, fun y => absurd hi y⟩
        rw [g4 z2]; exact gI_still hT hXW z2
      · have z2 : cd (gI p n T X).1 n ≠ cd X.1 n := fun y => by rw [if_pos y] at hr; exact z hr
        have := h4 q; omega
theorem An_isIdeal_s {a e p n : Int} {T : Int → Int} {E : ES} (hW : WD σ a p n T) (ha : a ≤ 20) (hE : EC σ e p n E) (he : e ≠ 69 ∧ e ≠ 107)
    (h1 : ∀ σ', ClI p n T E → Off (fun b j => b = 66 ∨ b = e + 2) σ σ' → Q 1 σ') (h0 : ∀ σ', ¬ ClI p n T E → Off (fun b j => b = 66 ∨ b = e + 2) σ σ' → Q 0 σ') : Tri (d + 4) M_An_isIdeal [vA 42, vA a, vA e] σ Q := by
  obtain ⟨b1, b2, b3, b4⟩ := hW.pn.b
  obtain ⟨ho, hp, hn, _, hT⟩ := id hW
  obtain ⟨kw1, _, _⟩ := kd_world ho
  have hel := ech_list hE.1
  have hEW : EW p n E := hE.2.2.2.2.2.2.2.2.2.1
  obtain ⟨kx1, kx2⟩ := kd_rows hE.1 he.1 he.2
  refine t_An_isIdeal ?_
  refine loop_up (P := fun l t => L (d + 4) M_An_isIdeal 2 [vA 42, vA a, vA e, vI l, vU] [] t Q)
    (fun l t => 0 ≤ l ∧ (∀ l' i, 0 ≤ l' → l' < l → E.1 l' = true → 0 ≤ i → i < n → In p n E (br p n T (E.2 l') (EU.2 i))) ∧ Off (fun b j => b = 66 ∨ b = e + 2) σ t) n ?_ ?_ 0 (by omega) σ ⟨by omega, fun l' i _ _ => by omega, Off_rfl⟩
  · rintro t ⟨_, ht, hO⟩
    have hnt : t a 2 = n := (hO a 2 (by omega)).trans hn
    exact s_An_isIdeal_2 ⟨ho, fun _ => h1 t (ClI_of hT (fun l i l0 l1 hl i0 i1 => ht l i l0 l1 hl i0 i1)) hO, fun q => by omega⟩
  · rintro l t hl ⟨l0, ht, hO⟩ ih
    have hnt : t a 2 = n := (hO a 2 (by omega)).trans hn
    refine s_An_isIdeal_2 ⟨ho, fun q => by omega, fun _ => ?_⟩
    refine loop_up (P := fun i u => L (d + 4) M_An_isIdeal 13 [vA 42, vA a, vA e, vI l, vI i] [] u Q)
      (fun i u => 0 ≤ i ∧ (E.1 l = true → ∀ i', 0 ≤ i' → i' < i → In p n E (br p n T (E.2 l) (EU.2 i'))) ∧ Off (fun b j => b = 66 ∨ b = e + 2) σ u) n ?_ ?_ 0 (by omega) t ⟨by omega, fun _ i' _ _ => by omega, hO⟩
    · rintro u ⟨_, hu, hOu⟩
      have hnu : u a 2 = n := (hOu a 2 (by omega)).trans hn
      refine s_An_isIdeal_13 ⟨ho, fun _ => ?_, fun q => by omega⟩
      rw [w32_id (by omega) (by omega)]
      refine ih u ⟨by omega, fun l' i g0 g1 g2 g3 g4 => ?_, hOu⟩
      by_cases hll : l' = l
      · subst hll; exact hu g2 i g3 g4
      · exact ht l' i g0 (by omega) g2 g3 g4
    · rintro i u hi ⟨i0, hu, hOu⟩ ih2
      have hWu : WD u a p n T := hW.cg (fun k => hOu a k (by omega)) (fun k => hOu (a + 1) k (by omega))
      have hnu : u a 2 = n := hWu.2.2.1
      have hEu : EC u e p n E := hE.cg (fun k => hOu e k (by omega)) (fun k => hOu (e + 1) k (by omega))
      refine L_units_of (fun hUN => ?_)
      refine s_An_isIdeal_13 ⟨ho, fun q => by omega, fun _ => ⟨hE.1, ?_⟩⟩
      rw [w32_id (x := l * 5) (by omega) (by omega), w32_id (x := i * 5) (by omega) (by omega), w32_id (x := i + 1) (by omega) (by omega)]
      refine Ec_leadsAt_s hEu l0 hl (fun g1 => ⟨fun q => by omega, fun _ => ⟨hE.1, ho, ?_⟩⟩) (fun g1 => ⟨fun _ => ih2 u ⟨by omega, fun g => (by rw [g1] at g; cases g), hOu⟩, fun q => by omega⟩)
      refine Wd_br_s hWu kx1 kd_m2 (by omega) kd_66 (by omega) (by omega) (by omega) (by omega) (by omega) (by omega) (by omega) (by omega) (by omega) (by omega) (by omega) (hEu.rowb (stl5 he.1 he.2) l0 hl g1) (hUN.row i0 (by omega) b1 b4) (fun v hv hOv => ⟨hE.1, ?_⟩)
      have hEv : EC v e p n E := hEu.cg (fun k => hOv e k (by omega)) (fun k => hOv (e + 1) k (by omega))
      have hval : ∀ c, 0 ≤ c → c < n → v 66 (0 + c) = br p n T (E.2 l) (EU.2 i) c := fun c c0 c1 => by rw [show (0 : Int) + c = c by omega]; exact (hv c c0 c1).1
      have hil : ild p n E (fun c => v 66 (0 + c)) = ild p n E (br p n T (E.2 l) (EU.2 i)) := ild_cg (by omega) hval
      refine Ec_holds_s hEv kd_66 (by omega) (by omega) (by omega) (by omega) (fun c c0 c1 => by rw [hval c c0 c1]; exact (hv c c0 c1).2) (fun v2 hi2 hO2 => ⟨fun _ => ?_, fun q => by omega⟩) (fun v2 hi2 hO2 => ⟨fun q => by omega, fun _ => ?_⟩)
      · rw [hil] at hi2
        refine ih2 v2 ⟨by omega, fun g i' g0 g1 => ?_, Off_trans hOu (Off_trans (Off_mono hOv (fun b j q => by omega)) (Off_mono hO2 (fun b j q => by omega)))⟩
        by_cases hii : i' = i
        · subst hii; exact (In_ild (by omega)).mpr hi2
        · exact hu g i' g0 (by omega)
      · rw [hil] at hi2
        refine h0 v2 (fun hc => ?_) (Off_trans hOu (Off_trans (Off_mono hOv (fun b j q => by omega)) (Off_mono hO2 (fun b j q => by omega))))
        have := (In_ild (show 0 ≤ n by omega)).mp (hc _ (EU.2 i) (In_row hEW l0 hl g1))
        omega
theorem An_bracketsLieIn_s {a e f p n : Int} {T : Int → Int} {E F : ES} (hW : WD σ a p n T) (ha : a ≤ 20) (hE : EC σ e p n E) (hF : EC σ f p n F) (he : e ≠ 69 ∧ e ≠ 107)
    (h1 : ∀ σ', ClP p n T E F → Off (fun b j => b = 66 ∨ b = f + 2) σ σ' → Q 1 σ') (h0 : ∀ σ', ¬ ClP p n T E F → Off (fun b j => b = 66 ∨ b = f + 2) σ σ' → Q 0 σ') : Tri (d + 4) M_An_bracketsLieIn [vA 42, vA a, vA e, vA f] σ Q := by
  obtain ⟨b1, b2, b3, b4⟩ := hW.pn.b
  obtain ⟨ho, hp, hn, _, hT⟩ := id hW
  obtain ⟨kw1, _, _⟩ := kd_world ho
  have hel := ech_list hE.1
  have hfl := ech_list hF.1
  have hEW : EW p n E := hE.2.2.2.2.2.2.2.2.2.1
  obtain ⟨kx1, kx2⟩ := kd_rows hE.1 he.1 he.2
  refine t_An_bracketsLieIn ?_
  refine loop_up (P := fun l t => L (d + 4) M_An_bracketsLieIn 3 [vA 42, vA a, vA e, vA f, vI l, vU] [] t Q)
    (fun l t => 0 ≤ l ∧ (∀ l' m, 0 ≤ l' → l' < l → l' < m → m < n → E.1 l' = true → E.1 m = true → In p n F (br p n T (E.2 l') (E.2 m))) ∧ Off (fun b j => b = 66 ∨ b = f + 2) σ t) n ?_ ?_ 0 (by omega) σ ⟨by omega, fun l' i _ _ => by omega, Off_rfl⟩
  · rintro t ⟨_, ht, hO⟩
    have hnt : t a 2 = n := (hO a 2 (by omega)).trans hn
    exact s_An_bracketsLieIn_3 ⟨ho, fun _ => h1 t (ClP_of hT (fun l m l0 hlm m1 hl hm => ht l m l0 (by omega) hlm m1 hl hm)) hO, fun q => by omega⟩
  · rintro l t hl ⟨l0, ht, hO⟩ ih
    have hnt : t a 2 = n := (hO a 2 (by omega)).trans hn
    refine s_An_bracketsLieIn_3 ⟨ho, fun q => by omega, fun _ => ?_⟩
    rw [w32_id (x := l + 1) (by omega) (by omega)]
    refine loop_up (P := fun i u => L (d + 4) M_An_bracketsLieIn 18 [vA 42, vA a, vA e, vA f, vI l, vI i] [] u Q)
      (fun i u => l + 1 ≤ i ∧ (∀ m, l < m → m < i → E.1 l = true → E.1 m = true → In p n F (br p n T (E.2 l) (E.2 m))) ∧ Off (fun b j => b = 66 ∨ b = f + 2) σ u) n ?_ ?_ (l + 1) (by omega) t ⟨by omega, fun m _ _ => by omega, hO⟩
    · rintro u ⟨_, hu, hOu⟩
      have hnu : u a 2 = n := (hOu a 2 (by omega)).trans hn
      refine s_An_bracketsLieIn_18 ⟨ho, fun _ => ?_, fun q => by omega⟩
      rw [w32_id (by omega) (by omega)]
      refine ih u ⟨by omega, fun l' m g0 g1 g2 g3 g4 g5 => ?_, hOu⟩
      by_cases hll : l' = l
      · subst hll; exact hu m g2 g3 g4 g5
      · exact ht l' m g0 (by omega) g2 g3 g4 g5
    · rintro i u hi ⟨i0, hu, hOu⟩ ih2
      have hWu : WD u a p n T := hW.cg (fun k => hOu a k (by omega)) (fun k => hOu (a + 1) k (by omega))
      have hnu : u a 2 = n := hWu.2.2.1
      have hEu : EC u e p n E := hE.cg (fun k => hOu e k (by omega)) (fun k => hOu (e + 1) k (by omega))
      have hFu : EC u f p n F := hF.cg (fun k => hOu f k (by omega)) (fun k => hOu (f + 1) k (by omega))
      refine s_An_bracketsLieIn_18 ⟨ho, fun q => by omega, fun _ => ⟨hE.1, ?_⟩⟩
      rw [w32_id (x := l * 5) (by omega) (by omega), w32_id (x := i * 5) (by omega) (by omega), w32_id (x := i + 1) (by omega) (by omega)]
      have hno : ¬ (E.1 l = true ∧ E.1 i = true) → L (d + 4) M_An_bracketsLieIn 18 [vA 42, vA a, vA e, vA f, vI l, vI (i + 1)] [] u Q := fun q => ih2 u ⟨by omega, fun m g0 g1 g2 g3 => by
        by_cases hm : m = i
        · subst hm; exact absurd ⟨g2, g3⟩ q
        · exact hu m g0 (by omega) g2 g3, hOu⟩
      refine Ec_leadsAt_s hEu l0 hl (fun g1 => ⟨fun q => by omega, fun _ => ⟨hE.1, ?_⟩⟩) (fun g1 => ⟨fun _ => hno (by rw [g1]; simp), fun q => by omega⟩)
      refine Ec_leadsAt_s hEu (by omega) hi (fun g3 => ⟨fun q => by omega, fun _ => ⟨hE.1, hE.1, ho, ?_⟩⟩) (fun g3 => ⟨fun _ => hno (by rw [g3]; simp), fun q => by omega⟩)
      refine Wd_br_s hWu kx1 kx1 (by omega) kd_66 (by omega) (by omega) (by omega) (by omega) (by omega) (by omega) (by omega) (by omega) (by omega) (by omega) (by omega) (hEu.rowb (stl5 he.1 he.2) l0 hl g1) (hEu.rowb (stl5 he.1 he.2) (by omega) hi g3) (fun v hv hOv => ⟨hF.1, ?_⟩)
      have hFv : EC v f p n F := hFu.cg (fun k => hOv f k (by omega)) (fun k => hOv (f + 1) k (by omega))
      have hval : ∀ c, 0 ≤ c → c < n → v 66 (0 + c) = br p n T (E.2 l) (E.2 i) c := fun c c0 c1 => by rw [show (0 : Int) + c = c by omega]; exact (hv c c0 c1).1
      have hil : ild p n F (fun c => v 66 (0 + c)) = ild p n F (br p n T (E.2 l) (E.2 i)) := ild_cg (by omega) hval
      refine Ec_holds_s hFv kd_66 (by omega) (by omega) (by omega) (by omega) (fun c c0 c1 => by rw [hval c c0 c1]; exact (hv c c0 c1).2) (fun v2 hi2 hO2 => ⟨fun _ => ?_, fun q => by omega⟩) (fun v2 hi2 hO2 => ⟨fun q => by omega, fun _ => ?_⟩)
      · rw [hil] at hi2
        refine ih2 v2 ⟨by omega, fun m g0 g4 g5 g6 => ?_, Off_trans hOu (Off_trans (Off_mono hOv (fun b j q => by omega)) (Off_mono hO2 (fun b j q => by omega)))⟩
        by_cases hm : m = i
        · subst hm; exact (In_ild (by omega)).mpr hi2
        · exact hu m g0 (by omega) g5 g6
      · rw [hil] at hi2
        refine h0 v2 (fun hc => ?_) (Off_trans hOu (Off_trans (Off_mono hOv (fun b j q => by omega)) (Off_mono hO2 (fun b j q => by omega))))
        have := (In_ild (show 0 ≤ n by omega)).mp (hc _ _ (In_row hEW l0 hl g1) (In_row hEW (by omega) hi g3))
        omega
end CLO
