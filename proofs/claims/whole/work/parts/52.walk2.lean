/-! ===== the class's walk: what is met, summed up; what is told by it ===== -/
def cds (p n m : Int) : Int := p ^ (nf n (tb m) n).toNat
def SM (p n z : Int) (F : Int → Int → Int) (m x : Int) : Int := sR (fun m' => if bt m' = z then sR (F m') 0 (cds p n m') else 0) 0 m + sR (F m) 0 x
def TT (p n z : Int) (F : Int → Int → Int) : Int := sR (fun m' => if bt m' = z then sR (F m') 0 (cds p n m') else 0) 0 (2 ^ n.toNat)
theorem SM_skip {p n z m m' : Int} {F : Int → Int → Int} (h0 : 0 ≤ m) (h1 : m ≤ m') (hn : ∀ k, m ≤ k → k < m' → bt k ≠ z) : SM p n z F m' 0 = SM p n z F m 0 := by
  unfold SM
  rw [sR_split h0 h1, sR_zero' (lo := m) (fun k k0 k1 => by rw [if_neg (hn k k0 k1)]), sR_nil (lo := 0) (hi := 0) (by omega), sR_nil (lo := 0) (hi := 0) (by omega)]
  omega
theorem SM_next {p n z m : Int} {F : Int → Int → Int} (h0 : 0 ≤ m) (hz : bt m = z) : SM p n z F (m + 1) 0 = SM p n z F m (cds p n m) := by
  unfold SM
  rw [sR_succ h0, if_pos hz, sR_nil (lo := 0) (hi := 0) (by omega)]
  omega
theorem SM_TT {p n z : Int} {F : Int → Int → Int} : SM p n z F (2 ^ n.toNat) 0 = TT p n z F := by
  unfold SM TT
  rw [sR_nil (lo := 0) (hi := 0) (by omega), Int.add_zero]
theorem sR_nn {f : Int → Int} {lo hi : Int} (h : ∀ k, lo ≤ k → k < hi → 0 ≤ f k) : 0 ≤ sR f lo hi := by
  have := sR_le (f := fun _ => 0) (g := f) (lo := lo) (hi := hi) h
  rw [sR_zero] at this; exact this
theorem SM_le {p n z m x : Int} {F : Int → Int → Int} (hF : ∀ m x, 0 ≤ F m x) (h0 : 0 ≤ m) (h1 : m < 2 ^ n.toNat) (hz : bt m = z) (x0 : 0 ≤ x) (x1 : x < cds p n m) : 0 ≤ SM p n z F m x ∧ SM p n z F m (x + 1) = SM p n z F m x + F m x ∧ SM p n z F m (x + 1) ≤ TT p n z F := by
  have hnn : ∀ k, 0 ≤ (if bt k = z then sR (F k) 0 (cds p n k) else 0) := fun k => by
    split
    · exact sR_nn (fun j _ _ => hF k j)
    · exact Int.le_refl _
  unfold SM TT
  have e1 := sR_split (f := fun m' => if bt m' = z then sR (F m') 0 (cds p n m') else 0) (lo := 0) (mid := m) (hi := 2 ^ n.toNat) h0 (by omega)
  have e2 := sR_split (f := fun m' => if bt m' = z then sR (F m') 0 (cds p n m') else 0) (lo := m) (mid := m + 1) (hi := 2 ^ n.toNat) (by omega) (by omega)
  rw [sR_succ (lo := m) (by omega), sR_nil (lo := m) (hi := m) (by omega), if_pos hz] at e2
  have e3 := sR_split (f := F m) (lo := 0) (mid := x + 1) (hi := cds p n m) (by omega) (by omega)
  have a1 := sR_nn (f := fun m' => if bt m' = z then sR (F m') 0 (cds p n m') else 0) (lo := 0) (hi := m) (fun k _ _ => hnn k)
  have a2 := sR_nn (f := fun m' => if bt m' = z then sR (F m') 0 (cds p n m') else 0) (lo := m + 1) (hi := 2 ^ n.toNat) (fun k _ _ => hnn k)
  have a3 := sR_nn (f := F m) (lo := 0) (hi := x) (fun k _ _ => hF m k)
  have a4 := sR_nn (f := F m) (lo := x + 1) (hi := cds p n m) (fun k _ _ => hF m k)
  have e4 := sR_succ (f := F m) x0
  refine ⟨by omega, by omega, by omega⟩
theorem sR_const {lo hi : Int} (h : lo ≤ hi) : sR (fun _ => 1) lo hi = hi - lo := by
  refine up_ind (P := fun hi => sR (fun _ => 1) lo hi = hi - lo) ?_ ?_ hi h
  · rw [sR_nil (by omega)]; omega
  · intro k hk ih; rw [sR_succ hk, ih]; omega
theorem TT_one {p n z : Int} (hp : 2 ≤ p) : TT p n z (fun _ _ => 1) = cum p n z (2 ^ n.toNat) := by
  unfold TT cum
  apply sR_congr
  intro k _ _
  have : 0 ≤ cds p n k := by unfold cds; have := ppos hp (nf n (tb k) n).toNat; omega
  split
  · rw [sR_const this]; unfold cds; omega
  · rfl
theorem sR_pos {f : Int → Int} {lo hi k : Int} (h : ∀ k, 0 ≤ f k) (h0 : lo ≤ k) (h1 : k < hi) : f k ≤ sR f lo hi := by
  have e1 := sR_split (f := f) (lo := lo) (mid := k) (hi := hi) h0 (by omega)
  have e2 := sR_split (f := f) (lo := k) (mid := k + 1) (hi := hi) (by omega) (by omega)
  rw [sR_succ (lo := k) (by omega), sR_nil (lo := k) (hi := k) (by omega)] at e2
  have a1 := sR_nn (f := f) (lo := lo) (hi := k) (fun k _ _ => h k)
  have a2 := sR_nn (f := f) (lo := k + 1) (hi := hi) (fun k _ _ => h k)
  omega
/-- the walk, with all before (m, x) met -/
def WK (σ : SG) (p n z m x : Int) : Prop := (σ 61 3 = p ∧ σ 61 4 = n ∧ σ 61 5 = z ∧ σ 62 0 = 5) ∧ ((σ 61 6 = -1 ∧ m = 0 ∧ x = 0) ∨ (WS σ p n z m (x - 1) ∧ 1 ≤ x))
theorem WK.nn {σ : SG} {p n z m x : Int} (h : WK σ p n z m x) : 0 ≤ m ∧ 0 ≤ x := by
  rcases h.2 with ⟨_, h1, h2⟩ | ⟨h1, h2⟩
  · omega
  · have := h1.2.1.1; omega
theorem WS.wk {σ : SG} {p n z m x : Int} (h : WS σ p n z m x) : WK σ p n z m (x + 1) := by
  refine ⟨⟨h.1.1, h.1.2.1, h.1.2.2.1, ?_⟩, Or.inr ⟨by rw [show x + 1 - 1 = x by omega]; exact h, by have := h.2.2.1.1; omega⟩⟩
  rw [h.2.2.2.2.2.2.1, stl5 (by omega) (by omega)]
theorem WK.cg {σ σ' : SG} {p n z m x : Int} (h : WK σ p n z m x) (h1 : ∀ b k, 61 ≤ b → b ≤ 65 → b ≠ 64 → σ' b k = σ b k) : WK σ' p n z m x := by
  obtain ⟨⟨a1, a2, a3, a4⟩, b⟩ := h
  refine ⟨⟨by rw [h1 61 3 (by omega) (by omega) (by omega)]; exact a1, by rw [h1 61 4 (by omega) (by omega) (by omega)]; exact a2, by rw [h1 61 5 (by omega) (by omega) (by omega)]; exact a3, by rw [h1 62 0 (by omega) (by omega) (by omega)]; exact a4⟩, ?_⟩
  rcases b with ⟨c1, c2⟩ | ⟨⟨⟨a1, a2, a3, a4⟩, b, c, d, e, f⟩, c2⟩
  · exact Or.inl ⟨by rw [h1 61 6 (by omega) (by omega) (by omega)]; exact c1, c2⟩
  · refine Or.inr ⟨⟨⟨?_, ?_, ?_, ?_⟩, b, c, ?_, fun l c' hf => ?_, f.cg (fun k => h1 62 k (by omega) (by omega) (by omega)) (fun k => h1 63 k (by omega) (by omega) (by omega))⟩, c2⟩
    · rw [h1 61 3 (by omega) (by omega) (by omega)]; exact a1
    · rw [h1 61 4 (by omega) (by omega) (by omega)]; exact a2
    · rw [h1 61 5 (by omega) (by omega) (by omega)]; exact a3
    · rw [h1 61 6 (by omega) (by omega) (by omega)]; exact a4
    · rw [h1 61 2 (by omega) (by omega) (by omega)]; exact d
    · rw [h1 65 _ (by omega) (by omega) (by omega)]; exact e l c' hf
def DW (b j : Int) : Prop := (b = 61 ∧ (j = 2 ∨ j = 6)) ∨ (b = 62 ∧ 3 ≤ j ∧ j ≤ 6) ∨ b = 63 ∨ b = 65
/-- what a class's SPAN is, by kinds -/
def KD (p n : Int) (T : Int → Int) (what : Int) (E : ES) : Prop :=
  if what = -1 then True else if what = 0 then ClP p n T E E else if what = 1 then ClI p n T E else if what = 2 then ClP p n T E E0
  else ClP p n T E E ∧ cd (ser p n T True E (cd E.1 n).toNat).1 n = 0 ∧ n - cd (mvr p n T E E).1 n = cd E.1 n
theorem ser_cgp {p n : Int} {T : Int → Int} {a b : Prop} [Decidable a] [Decidable b] {O : ES} (h : a ↔ b) : ∀ k, ser p n T a O k = ser p n T b O k
  | 0 => rfl
  | k + 1 => by
    show brk p n T (ser p n T a O k) (if a then O else ser p n T a O k) = brk p n T (ser p n T b O k) (if b then O else ser p n T b O k)
    rw [ser_cgp h k]
    by_cases hb : b
    · rw [if_pos hb, if_pos (h.mpr hb)]
    · rw [if_neg hb, if_neg (fun z => hb (h.mp z))]
section WALK2
variable {d : Nat} {σ : SG} {Q : Int → SG → Prop}
theorem Sp_begin_s {a p n z : Int} {T : Int → Int} (hW : WD σ a p n T) (ha : a ≤ 20) (h0 : σ 62 0 = 5) (h : ∀ σ', WK σ' p n z 0 0 → Off (fun b j => b = 61 ∧ 3 ≤ j ∧ j ≤ 6) σ σ' → Q 0 σ') : Tri (d + 1) M_Sp_begin [vA 61, vA a, vI z] σ Q := by
  obtain ⟨ho, hp, hn, _, _⟩ := hW
  refine t_Sp_begin (fun _ => ⟨ho, fun s1 e1 => ⟨ho, fun s2 e2 s3 e3 s4 e4 => ?_⟩⟩)
  have e12 : s1 a 2 = n := by rw [e1, up_ne (by omega)]; exact hn
  have hx : s4 = up (up (up (up σ 61 3 p) 61 4 n) 61 5 z) 61 6 (-1) := by rw [e4, e3, e2, e12, e1, hp]
  refine h s4 ⟨⟨?_, ?_, ?_, ?_⟩, Or.inl ⟨?_, rfl, rfl⟩⟩ (fun b j hb => ?_)
  · rw [hx, up_ne (by omega), up_ne (by omega), up_ne (by omega), up_same]
  · rw [hx, up_ne (by omega), up_ne (by omega), up_same]
  · rw [hx, up_ne (by omega), up_same]
  · rw [hx, up_ne (by omega), up_ne (by omega), up_ne (by omega), up_ne (by omega)]; exact h0
  · rw [hx, up_same]
  · rw [hx, up_ne (by omega), up_ne (by omega), up_ne (by omega), up_ne (by omega)]
theorem Sp_goOn_s {p n z m x : Int} (hpn : PN p n) (hW : WK σ p n z m x)
    (h1 : ∀ m' x' σ', WS σ' p n z m' x' → (∀ F, SM p n z F m' x' = SM p n z F m x) → Off DW σ σ' → Q 1 σ') (h0 : ∀ σ', (∀ F, TT p n z F = SM p n z F m x) → Off DW σ σ' → Q 0 σ') : Tri (d + 4) M_Sp_goOn [vA 61] σ Q := by
  obtain ⟨b1, b2, b3, b4⟩ := hpn.b
  have hp5 := pw5 (n := n) (by omega) b4
  obtain ⟨⟨a1, a2, a3, a4⟩, hc⟩ := hW
  refine t_Sp_goOn ⟨fun q => ?_, fun q => ?_⟩
  · rcases hc with ⟨c1, rfl, rfl⟩ | ⟨c1, c2⟩
    · refine Sp_nextLeads_s hpn a4 a1 a2 a3 c1 (by omega) (by omega) (fun m s hm hs hW' hO => ⟨fun q => by omega, fun _ => h1 m 0 s hW' (fun F => SM_skip (by omega) (by omega) (fun k k0 k1 => hs k (by omega) k1)) (Off_mono hO (fun b j q => q))⟩) (fun hs => ⟨fun _ => h0 σ (fun F => ?_) Off_rfl, fun q => by omega⟩)
      rw [← SM_TT]
      exact SM_skip (by omega) (by omega) (fun k k0 k1 => hs k (by omega) k1)
    · have := c1.1.2.2.2; have := c1.2.1.1; omega
  · rcases hc with ⟨c1, c2⟩ | ⟨c1, c2⟩
    · omega
    · have hm := c1.2.1
      refine Sp_turnFree_s hpn c1 (fun s hx hW' hO => ⟨fun _ => h1 m x s (by rw [show x - 1 + 1 = x by omega] at hW'; exact hW') (fun F => rfl) (Off_mono hO (fun b j q => by unfold DW; omega)), fun q => by omega⟩) (fun s hx hO => ⟨fun q => by omega, fun _ => ?_⟩)
      have hxe : x = cds p n m := by unfold cds; omega
      have f : ∀ k, s 61 k = σ 61 k := fun k => hO 61 k (by omega)
      refine Sp_nextLeads_s hpn ((hO 62 0 (by omega)).trans a4) ((f 3).trans a1) ((f 4).trans a2) ((f 5).trans a3) ((f 6).trans c1.1.2.2.2) (by omega) hm.2.1 (fun m' s' hm' hs hW' hO' => ⟨fun q => by omega, fun _ => h1 m' 0 s' hW' (fun F => ?_) (Off_trans (Off_mono hO (fun b j q => by unfold DW; omega)) (Off_mono hO' (fun b j q => q)))⟩) (fun hs => ⟨fun _ => h0 s (fun F => ?_) (Off_mono hO (fun b j q => by unfold DW; omega)), fun q => by omega⟩)
      · rw [hxe, ← SM_next hm.1 hm.2.2]
        exact SM_skip (by omega) (by omega) (fun k k0 k1 => hs k (by omega) k1)
      · rw [← SM_TT, hxe, ← SM_next hm.1 hm.2.2]
        exact SM_skip (by omega) (by omega) (fun k k0 k1 => hs k (by omega) k1)
theorem An_isOfKind_s {a e p n what : Int} {T : Int → Int} {E : ES} (hW : WD σ a p n T) (ha : a ≤ 20) (hST : ST σ) (hE : EC σ e p n E) (he : e = 62) (hN : EC σ 52 p n E0) (hw : -1 ≤ what ∧ what ≤ 3)
    (h1 : ∀ σ', KD p n T what E → ST σ' → Off (fun b j => (43 ≤ b ∧ b ≤ 48) ∨ b = 54 ∨ 64 = b ∨ b = 66 ∨ b = 67 ∨ (58 ≤ b ∧ b ≤ 60)) σ σ' → Q 1 σ') (h0 : ∀ σ', ¬ KD p n T what E → ST σ' → Off (fun b j => (43 ≤ b ∧ b ≤ 48) ∨ b = 54 ∨ 64 = b ∨ b = 66 ∨ b = 67 ∨ (58 ≤ b ∧ b ≤ 60)) σ σ' → Q 0 σ') : Tri (d + 6) M_An_isOfKind [vA 42, vA a, vA e, vI what] σ Q := by
  subst he
  obtain ⟨b1, b2, b3, b4⟩ := hW.pn.b
  have hTW : TW p n T := hW.2.2.2.2
  have hEW : EW p n E := hE.2.2.2.2.2.2.2.2.2.1
  have hce := cd_b (ℓ := E.1) (w := n) (by omega)
  unfold KD at h1 h0
  refine t_An_isOfKind (fun _ => ⟨fun q => ?_, fun q => ?_, fun q => ?_, fun q => ?_, fun q => ?_⟩)
  · rw [if_neg (by omega), if_neg (by omega), if_neg (by omega), if_neg (by omega)] at h1 h0
    refine An_bracketsLieIn_s hW ha hE hE (by omega) (fun s hc hO => ⟨fun q => by omega, fun _ => ⟨ob_62, ?_⟩⟩) (fun s hc hO => ⟨fun _ => h0 s (fun z => hc z.1) (hST.off hO (fun e h' => by have := ech_list h'; omega)) (Off_mono hO (fun b j q => by omega)), fun q => by omega⟩)
    have hEs : EC s 62 p n E := hE.cg (fun k => hO 62 k (by omega)) (fun k => hO 63 k (by omega))
    have hSTs : ST s := hST.off hO (fun e h' => by have := ech_list h'; omega)
    have hWs : WD s a p n T := hW.cg (fun k => hO a k (by omega)) (fun k => hO (a + 1) k (by omega))
    rw [hEs.2.2.2.2.1]
    refine An_seriesSize_s (lo := 1) hWs ha hSTs hEs (by omega) ⟨hce.1, by omega⟩ (ser_stb hTW hEW hc) (fun s2 hS2 hO2 => ⟨fun q => h0 s2 (fun z => q (by rw [ser_cgp (b := True) (by simp)]; exact z.2.1)) hS2 (Off_trans (Off_mono hO (fun b j q => by omega)) (Off_mono hO2 (fun b j q => by omega))), fun q => ?_⟩)
    rw [ser_cgp (b := True) (by simp)] at q
    have hE2 : EC s2 62 p n E := hEs.cg (fun k => hO2 62 k (by omega)) (fun k => hO2 63 k (by omega))
    have hO2' : Off (fun b j => (43 ≤ b ∧ b ≤ 48) ∨ b = 54 ∨ 64 = b ∨ b = 66 ∨ b = 67 ∨ (58 ≤ b ∧ b ≤ 60)) σ s2 := Off_trans (Off_mono hO (fun b j q => by omega)) (Off_mono hO2 (fun b j q => by omega))
    refine An_sizeOfMovers_s (hWs.cg (fun k => hO2 a k (by omega)) (fun k => hO2 (a + 1) k (by omega))) ha hS2 hE2 hE2 (by omega) (by omega) (fun s3 hS3 hO3 => ⟨ob_62, fun q3 => h0 s3 (fun z => q3 ?_) hS3 (Off_trans hO2' (Off_mono hO3 (fun b j q => by omega))), fun q3 => h1 s3 ⟨hc, q, ?_⟩ hS3 (Off_trans hO2' (Off_mono hO3 (fun b j q => by omega)))⟩)
    · rw [hO3 62 5 (by omega), hE2.2.2.2.2.1]; exact z.2.2
    · rw [hO3 62 5 (by omega), hE2.2.2.2.2.1] at q3; exact q3
  · rw [if_pos q] at h1
    exact h1 σ trivial hST Off_rfl
  · subst q
    rw [if_neg (by omega), if_pos rfl] at h1 h0
    exact An_bracketsLieIn_s hW ha hE hE (by omega) (fun s hc hO => ⟨Or.inr rfl, h1 s hc (hST.off hO (fun e h' => by have := ech_list h'; omega)) (Off_mono hO (fun b j q => by omega))⟩) (fun s hc hO => ⟨Or.inl rfl, h0 s hc (hST.off hO (fun e h' => by have := ech_list h'; omega)) (Off_mono hO (fun b j q => by omega))⟩)
  · subst q
    rw [if_neg (by omega), if_neg (by omega), if_pos rfl] at h1 h0
    exact An_isIdeal_s hW ha hE (by omega) (fun s hc hO => ⟨Or.inr rfl, h1 s hc (hST.off hO (fun e h' => by have := ech_list h'; omega)) (Off_mono hO (fun b j q => by omega))⟩) (fun s hc hO => ⟨Or.inl rfl, h0 s hc (hST.off hO (fun e h' => by have := ech_list h'; omega)) (Off_mono hO (fun b j q => by omega))⟩)
  · subst q
    rw [if_neg (by omega), if_neg (by omega), if_neg (by omega), if_pos rfl] at h1 h0
    exact An_bracketsLieIn_s hW ha hE hN (by omega) (fun s hc hO => ⟨Or.inr rfl, h1 s hc (hST.off hO (fun e h' => by have := ech_list h'; omega)) (Off_mono hO (fun b j q => by omega))⟩) (fun s hc hO => ⟨Or.inl rfl, h0 s hc (hST.off hO (fun e h' => by have := ech_list h'; omega)) (Off_mono hO (fun b j q => by omega))⟩)
noncomputable def ind (P : Prop) : Int := @ite Int P (Classical.propDecidable P) 1 0
theorem ind_t {P : Prop} (h : P) : ind P = 1 := by unfold ind; rw [if_pos h]
theorem ind_f {P : Prop} (h : ¬ P) : ind P = 0 := by unfold ind; rw [if_neg h]
theorem ind_nn {P : Prop} : 0 ≤ ind P ∧ ind P ≤ 1 := by
  by_cases h : P
  · rw [ind_t h]; omega
  · rw [ind_f h]; omega
theorem An_countSpans_s {a p n z what : Int} {T : Int → Int} (hW : WD σ a p n T) (ha : a ≤ 20) (hST : ST σ) (hw : -1 ≤ what ∧ what ≤ 3)
    (h : ∀ σ', ST σ' → Off (fun b j => 43 ≤ b ∧ b ≤ 67) σ σ' → Q (TT p n z (fun m x => ind (KD p n T what (spn p n (tb m) x)))) σ') : Tri (d + 7) M_An_countSpans [vA 42, vA a, vI z, vI what] σ Q := by
  obtain ⟨b1, b2, b3, b4⟩ := hW.pn.b
  obtain ⟨ho, hp, hn, _, hT⟩ := id hW
  obtain ⟨kw1, _, _⟩ := kd_world ho
  have hcum := cum_b (z := z) hW.pn
  rw [← TT_one b1] at hcum
  refine t_An_countSpans (fun _ _ => ⟨ho, ho, ?_⟩)
  rw [hp, hn]
  refine Ec_begin_s ob_52 (hST 52 ob_52) hW.pn.pr (by omega) (by rw [stl5 (by omega) (by omega)]; omega) (fun s1 hE1 hO1 => ?_)
  have hW1 : WD s1 a p n T := hW.cg (fun k => hO1 a k (by omega)) (fun k => hO1 (a + 1) k (by omega))
  have hS1 : ST s1 := hST.off hO1 (fun e h' => by have := ech_list h'; omega)
  refine Sp_begin_s hW1 ha (by rw [hS1 62 ob_62, stl5 (by omega) (by omega)]) (fun s2 hK2 hO2 => ?_)
  refine loop_up (P := fun i (s : Int × SG) => L (d + 7) M_An_countSpans 30 [vA 42, vA a, vU, vI what, vI s.1, vI i] [] s.2 Q)
    (fun i s => 0 ≤ i ∧ ST s.2 ∧ WD s.2 a p n T ∧ EC s.2 52 p n E0 ∧ Off (fun b j => 43 ≤ b ∧ b ≤ 67) σ s.2 ∧ ∃ m x, WK s.2 p n z m x ∧ i = SM p n z (fun _ _ => 1) m x ∧ s.1 = SM p n z (fun m x => ind (KD p n T what (spn p n (tb m) x))) m x ∧ s.1 ≤ i ∧ i < 4000 ∧ 0 ≤ s.1) 4000 ?_ ?_ 0 (by omega) (0, s2) ⟨by omega, hS1.off hO2 (fun e h' => by have := ech_list h'; omega), hW1.cg (fun k => hO2 a k (by omega)) (fun k => hO2 (a + 1) k (by omega)), hE1.cg (fun k => hO2 52 k (by omega)) (fun k => hO2 53 k (by omega)), Off_trans (Off_mono hO1 (fun b j q => by omega)) (Off_mono hO2 (fun b j q => by omega)), 0, 0, hK2, by unfold SM; rw [sR_nil (by omega), sR_nil (by omega)]; rfl, by unfold SM; rw [sR_nil (by omega), sR_nil (by omega)]; rfl, by simp only; omega, by omega, by simp only; omega⟩
  · rintro ⟨c, t⟩ ⟨_, _, _, _, _, m, x, _, _, _, _, q, _⟩
    omega
  · rintro i ⟨c, t⟩ hi ⟨i0, hSt, hWt, hEt, hOt, m, x, hK, hi1, hc1, hci, hi4, hc0⟩ ih
    simp only at hSt hWt hEt hOt hK hi1 hc1 hci hc0 ⊢
    refine s_An_countSpans_30 ⟨fun q => by omega, fun _ => ?_⟩
    refine Sp_goOn_s hW.pn hK (fun m' x' u hWu hF hOu => ⟨fun q => by omega, fun _ => ?_⟩) (fun u hF hOu => ⟨fun _ => ?_, fun q => by omega⟩)
    · have hmm := hWu.2.1
      have hxx := hWu.2.2.1
      have l1 := SM_le (p := p) (n := n) (z := z) (F := fun _ _ => 1) (fun _ _ => by omega) hmm.1 hmm.2.1 hmm.2.2 hxx.1 hxx.2
      have l2 := SM_le (p := p) (n := n) (z := z) (F := fun m x => ind (KD p n T what (spn p n (tb m) x))) (fun _ _ => ind_nn.1) hmm.1 hmm.2.1 hmm.2.2 hxx.1 hxx.2
      have f1 := hF (fun _ _ => 1)
      have f2 := hF (fun m x => ind (KD p n T what (spn p n (tb m) x)))
      rw [f1] at l1
      rw [f2] at l2
      have hSu : ST u := hSt.off hOu (fun e h' => by have := ech_list h'; unfold DW; omega)
      have hWu' : WD u a p n T := hWt.cg (fun k => hOu a k (by unfold DW; omega)) (fun k => hOu (a + 1) k (by unfold DW; omega))
      have hEu : EC u 52 p n E0 := hEt.cg (fun k => hOu 52 k (by unfold DW; omega)) (fun k => hOu 53 k (by unfold DW; omega))
      have hnext : ∀ v c', ST v → Off (fun b j => (43 ≤ b ∧ b ≤ 48) ∨ b = 54 ∨ 64 = b ∨ b = 66 ∨ b = 67 ∨ (58 ≤ b ∧ b ≤ 60)) u v → c' = c + ind (KD p n T what (spn p n (tb m') x')) → L (d + 7) M_An_countSpans 30 [vA 42, vA a, vU, vI what, vI c', vI (i + 1)] [] v Q := by
        intro v c' hSv hOv hc'
        have hi := ind_nn (P := KD p n T what (spn p n (tb m') x'))
        refine ih (c', v) ⟨by omega, hSv, hWu'.cg (fun k => hOv a k (by omega)) (fun k => hOv (a + 1) k (by omega)), hEu.cg (fun k => hOv 52 k (by omega)) (fun k => hOv 53 k (by omega)), Off_trans hOt (Off_trans (Off_mono hOu (fun b j q => by unfold DW at q; omega)) (Off_mono hOv (fun b j q => by omega))), m', x' + 1, hWu.wk.cg (fun b k b0 b1 b2 => hOv b k (by omega)), by omega, by simp only; omega, by simp only; omega, by omega, by simp only; omega⟩
      refine An_isOfKind_s hWu' ha hSu hWu.2.2.2.2.2 rfl hEu hw (fun v hk hSv hOv => ⟨fun q => by omega, fun _ => ?_⟩) (fun v hk hSv hOv => ⟨fun _ => ?_, fun q => by omega⟩)
      · rw [w32_id (by omega) (by omega), w32_id (by omega) (by omega)]
        exact hnext v _ hSv hOv (by rw [ind_t hk])
      · rw [w32_id (by omega) (by omega), w32_id (by omega) (by omega)]
        exact hnext v _ hSv hOv (by rw [ind_f hk])
    · rw [hc1, ← hF]
      exact h u (hSt.off hOu (fun e h' => by have := ech_list h'; unfold DW; omega)) (Off_trans hOt (Off_mono hOu (fun b j q => by unfold DW at q; omega)))
/-- the largest SIZE of those that are so -/
def MX (p n : Int) (G : Int → Int → Prop) (r : Int) : Prop := (r = 0 ∨ ∃ m x, 0 ≤ m ∧ m < 2 ^ n.toNat ∧ 0 ≤ x ∧ x < cds p n m ∧ bt m = r ∧ G m x) ∧ 0 ≤ r ∧ ∀ m x, 0 ≤ m → m < 2 ^ n.toNat → 0 ≤ x → x < cds p n m → G m x → bt m ≤ r
theorem MX_uniq {p n r r' : Int} {G : Int → Int → Prop} (h : MX p n G r) (h' : MX p n G r') : r = r' := by
  obtain ⟨a1, a2, a3⟩ := h
  obtain ⟨b1, b2, b3⟩ := h'
  have c1 : r ≤ r' := by
    rcases a1 with rfl | ⟨m, x, q1, q2, q3, q4, q5, q6⟩
    · omega
    · have := b3 m x q1 q2 q3 q4 q6; omega
  have c2 : r' ≤ r := by
    rcases b1 with rfl | ⟨m, x, q1, q2, q3, q4, q5, q6⟩
    · omega
    · have := a3 m x q1 q2 q3 q4 q6; omega
  omega
def RDG (p n : Int) (T : Int → Int) (lo : Prop) [Decidable lo] (m x : Int) : Prop := ClI p n T (spn p n (tb m) x) ∧ cd (ser p n T lo (spn p n (tb m) x) (bt m).toNat).1 n = 0
theorem TT_zero {p n z : Int} {F : Int → Int → Int} (hF : ∀ m x, 0 ≤ F m x) (h : TT p n z F = 0) {m x : Int} (m0 : 0 ≤ m) (m1 : m < 2 ^ n.toNat) (hz : bt m = z) (x0 : 0 ≤ x) (x1 : x < cds p n m) : F m x = 0 := by
  have := SM_le (p := p) (n := n) (z := z) hF m0 m1 hz x0 x1
  have := hF m x
  omega
theorem An_radicalSize_s {a p n lo : Int} {T : Int → Int} (hW : WD σ a p n T) (ha : a ≤ 20) (hST : ST σ)
    (h : ∀ r σ', MX p n (RDG p n T (lo ≠ 0)) r → ST σ' → Off (fun b j => 43 ≤ b ∧ b ≤ 67) σ σ' → Q r σ') : Tri (d + 5) M_An_radicalSize [vA 42, vA a, vI lo] σ Q := by
  obtain ⟨b1, b2, b3, b4⟩ := hW.pn.b
  obtain ⟨ho, hp, hn, _, hT⟩ := id hW
  obtain ⟨kw1, _, _⟩ := kd_world ho
  refine t_An_radicalSize (fun _ => ⟨ho, ?_⟩)
  rw [hn]
  -- from above
  have key : ∀ (k : Nat) (t : SG), (k : Int) ≤ n → ST t → WD t a p n T → Off (fun b j => 43 ≤ b ∧ b ≤ 67) σ t → (∀ m x, 0 ≤ m → m < 2 ^ n.toNat → 0 ≤ x → x < cds p n m → RDG p n T (lo ≠ 0) m x → bt m ≤ k) → L (d + 5) M_An_radicalSize 5 [vA 42, vA a, vI lo, vI (k : Int), vU] [] t Q := by
    intro k
    induction k with
    | zero =>
      intro t _ hS _ hO hm
      exact s_An_radicalSize_5 ⟨fun _ => h 0 t ⟨Or.inl rfl, by omega, fun m x q1 q2 q3 q4 q5 => hm m x q1 q2 q3 q4 q5⟩ hS hO, fun q => by omega⟩
    | succ k ihk =>
      intro t hkn hS hWt hO hm
      generalize hz : ((k + 1 : Nat) : Int) = z
      have hcum := cum_b (z := z) hW.pn
      rw [← TT_one b1] at hcum
      refine s_An_radicalSize_5 ⟨fun q => by omega, fun _ => ?_⟩
      refine Sp_begin_s hWt ha (by rw [hS 62 ob_62, stl5 (by omega) (by omega)]) (fun s2 hK2 hO2 => ?_)
      have hdown : ∀ u, ST u → WD u a p n T → Off (fun b j => 43 ≤ b ∧ b ≤ 67) σ u → TT p n z (fun m x => ind (RDG p n T (lo ≠ 0) m x)) = 0 → L (d + 5) M_An_radicalSize 5 [vA 42, vA a, vI lo, vI (w32 (z + (-1))), vU] [] u Q := by
        intro u hSu hWu hOu hT0
        rw [w32_id (by omega) (by omega), show z + -1 = (k : Int) by omega]
        refine ihk u (by omega) hSu hWu hOu (fun m x q1 q2 q3 q4 q5 => ?_)
        have h1 := hm m x q1 q2 q3 q4 q5
        have h2 : bt m ≠ z := fun e => by
          have := TT_zero (F := fun m x => ind (RDG p n T (lo ≠ 0) m x)) (fun _ _ => ind_nn.1) hT0 q1 q2 e q3 q4
          simp only [ind_t q5] at this
          omega
        omega
      refine loop_up (P := fun i (s : SG) => L (d + 5) M_An_radicalSize 21 [vA 42, vA a, vI lo, vI z, vI i] [] s Q)
        (fun i s => 0 ≤ i ∧ ST s ∧ WD s a p n T ∧ Off (fun b j => 43 ≤ b ∧ b ≤ 67) σ s ∧ ∃ m x, WK s p n z m x ∧ i = SM p n z (fun _ _ => 1) m x ∧ 0 = SM p n z (fun m x => ind (RDG p n T (lo ≠ 0) m x)) m x ∧ i < 4000) 4000 ?_ ?_ 0 (by omega) s2 ⟨by omega, hS.off hO2 (fun e h' => by have := ech_list h'; omega), hWt.cg (fun k => hO2 a k (by omega)) (fun k => hO2 (a + 1) k (by omega)), Off_trans hO (Off_mono hO2 (fun b j q => by omega)), 0, 0, hK2, by unfold SM; rw [sR_nil (by omega), sR_nil (by omega)]; rfl, by unfold SM; rw [sR_nil (by omega), sR_nil (by omega)]; rfl, by omega⟩
      · rintro t ⟨_, _, _, _, m, x, _, _, _, q⟩
        omega
      · rintro i t hi ⟨i0, hSt, hWt, hOt, m, x, hK, hi1, hc1, hi4⟩ ih
        refine s_An_radicalSize_21 ⟨fun q => by omega, fun _ => ?_⟩
        refine Sp_goOn_s hW.pn hK (fun m' x' u hWu hF hOu => ⟨fun q => by omega, fun _ => ?_⟩) (fun u hF hOu => ⟨fun _ => ?_, fun q => by omega⟩)
        · have hmm := hWu.2.1
          have hxx := hWu.2.2.1
          have l1 := SM_le (p := p) (n := n) (z := z) (F := fun _ _ => 1) (fun _ _ => by omega) hmm.1 hmm.2.1 hmm.2.2 hxx.1 hxx.2
          have l2 := SM_le (p := p) (n := n) (z := z) (F := fun m x => ind (RDG p n T (lo ≠ 0) m x)) (fun _ _ => ind_nn.1) hmm.1 hmm.2.1 hmm.2.2 hxx.1 hxx.2
          have f1 := hF (fun _ _ => 1)
          have f2 := hF (fun m x => ind (RDG p n T (lo ≠ 0) m x))
          rw [f1] at l1
          rw [f2] at l2
          have hEW : EW p n (spn p n (tb m') x') := EW_spn b1
          have hSu : ST u := hSt.off hOu (fun e h' => by have := ech_list h'; unfold DW; omega)
          have hWu' : WD u a p n T := hWt.cg (fun k => hOu a k (by unfold DW; omega)) (fun k => hOu (a + 1) k (by unfold DW; omega))
          have hOu' : Off (fun b j => 43 ≤ b ∧ b ≤ 67) σ u := Off_trans hOt (Off_mono hOu (fun b j q => by unfold DW at q; omega))
          have hnext : ∀ v, ST v → Off (fun b j => (43 ≤ b ∧ b ≤ 48) ∨ b = 66 ∨ b = 64) u v → ¬ RDG p n T (lo ≠ 0) m' x' → L (d + 5) M_An_radicalSize 21 [vA 42, vA a, vI lo, vI z, vI (w32 (i + 1))] [] v Q := by
            intro v hSv hOv hno
            rw [w32_id (by omega) (by omega)]
            have := ind_f hno
            exact ih v ⟨by omega, hSv, hWu'.cg (fun k => hOv a k (by omega)) (fun k => hOv (a + 1) k (by omega)), Off_trans hOu' (Off_mono hOv (fun b j q => by omega)), m', x' + 1, hWu.wk.cg (fun b k b0 b1 b2 => hOv b k (by omega)), by omega, by omega, by omega⟩
          refine An_isIdeal_s hWu' ha hWu.2.2.2.2.2 (by omega) (fun v hk hOv => ⟨fun q => by omega, fun _ => ?_⟩) (fun v hk hOv => ⟨fun _ => hnext v (hSu.off hOv (fun e h' => by have := ech_list h'; omega)) (Off_mono hOv (fun b j q => by omega)) (fun z => hk z.1), fun q => by omega⟩)
          have hSv : ST v := hSu.off hOv (fun e h' => by have := ech_list h'; omega)
          refine An_seriesSize_s (hWu'.cg (fun k => hOv a k (by omega)) (fun k => hOv (a + 1) k (by omega))) ha hSv (hWu.2.2.2.2.2.cg (fun k => hOv 62 k (by omega)) (fun k => hOv 63 k (by omega))) (by omega) ⟨by omega, by omega⟩ (ser_stb hT hEW hk.p) (fun v2 hS2 hO2 => ⟨fun q => hnext v2 hS2 (Off_trans (Off_mono hOv (fun b j q => by omega)) (Off_mono hO2 (fun b j q => by omega))) (fun z' => q ?_), fun q => ?_⟩)
          · have := z'.2; rw [hmm.2.2] at this; exact this
          · refine h z v2 ⟨Or.inr ⟨m', x', hmm.1, hmm.2.1, hxx.1, hxx.2, hmm.2.2, hk, by rw [hmm.2.2]; exact q⟩, by omega, fun m x q1 q2 q3 q4 q5 => by have := hm m x q1 q2 q3 q4 q5; omega⟩ hS2 (Off_trans hOu' (Off_trans (Off_mono hOv (fun b j q => by omega)) (Off_mono hO2 (fun b j q => by omega))))
        · exact hdown u (hSt.off hOu (fun e h' => by have := ech_list h'; unfold DW; omega)) (hWt.cg (fun k => hOu a k (by unfold DW; omega)) (fun k => hOu (a + 1) k (by unfold DW; omega))) (Off_trans hOt (Off_mono hOu (fun b j q => by unfold DW at q; omega))) (by rw [hF, ← hc1])
  have h9 := key n.toNat σ (by omega) hST hW Off_rfl (fun m x q1 q2 q3 q4 q5 => by
    have h1 := bt_n q1 (by omega) b4 q2
    have h2 := cd_b (ℓ := tb m) (w := n) (by omega)
    omega)
  rw [show ((n.toNat : Nat) : Int) = n by omega] at h9
  exact h9
theorem An_countCommuting_s {a p n : Int} {T : Int → Int} (hW : WD σ a p n T) (ha : a ≤ 20) (hST : ST σ)
    (h : ∀ σ', ST σ' → Off (fun b j => 43 ≤ b ∧ b ≤ 67) σ σ' → Q (p ^ n.toNat + TT p n 1 (fun m x => (p - 1) * p ^ (n - cd (mvr p n T (spn p n (tb m) x) E0).1 n).toNat)) σ') : Tri (d + 6) M_An_countCommuting [vA 42, vA a] σ Q := by
  obtain ⟨b1, b2, b3, b4⟩ := hW.pn.b
  obtain ⟨ho, hp, hn, _, hT⟩ := id hW
  obtain ⟨kw1, _, _⟩ := kd_world ho
  have hcum := cum_b (z := 1) hW.pn
  rw [← TT_one b1] at hcum
  have hpw := hW.pn.pow
  have hpw0 := ppos b1 n.toNat
  refine t_An_countCommuting ⟨ho, ?_⟩
  refine Wd_vectors_s ho (by rw [hp, hn]; exact hW.pn) ?_
  rw [hp, hn]
  refine Sp_begin_s hW ha (by rw [hST 62 ob_62, stl5 (by omega) (by omega)]) (fun s1 hK1 hO1 => ⟨ho, ho, ?_⟩)
  have hW1 : WD s1 a p n T := hW.cg (fun k => hO1 a k (by omega)) (fun k => hO1 (a + 1) k (by omega))
  have hS1 : ST s1 := hST.off hO1 (fun e h' => by have := ech_list h'; omega)
  rw [hW1.2.1, hW1.2.2.1]
  refine Ec_begin_s ob_52 (hS1 52 ob_52) hW.pn.pr (by omega) (by rw [stl5 (by omega) (by omega)]; omega) (fun s2 hE2 hO2 => ?_)
  have hFb : ∀ m x, 0 ≤ (p - 1) * p ^ (n - cd (mvr p n T (spn p n (tb m) x) E0).1 n).toNat ∧ (p - 1) * p ^ (n - cd (mvr p n T (spn p n (tb m) x) E0).1 n).toNat ≤ 3750 ∧ 0 ≤ n - cd (mvr p n T (spn p n (tb m) x) E0).1 n ∧ p ^ (n - cd (mvr p n T (spn p n (tb m) x) E0).1 n).toNat ≤ 625 := fun m x => by
    have c1 := cd_b (ℓ := (mvr p n T (spn p n (tb m) x) E0).1) (w := n) (by omega)
    have c2 := pow_le (p := p) (k := (n - cd (mvr p n T (spn p n (tb m) x) E0).1 n).toNat) (n := n.toNat) (by omega) (by omega)
    have c3 := ppos b1 (n - cd (mvr p n T (spn p n (tb m) x) E0).1 n).toNat
    have c4 := mul_small (a := p - 1) (b := p ^ (n - cd (mvr p n T (spn p n (tb m) x) E0).1 n).toNat) (A := 6) (B := 625) (by omega) (by omega) (by omega) (by omega)
    omega
  refine loop_up (P := fun i (s : Int × SG) => L (d + 6) M_An_countCommuting 34 [vA 42, vA a, vU, vI s.1, vI i] [] s.2 Q)
    (fun i s => 0 ≤ i ∧ ST s.2 ∧ WD s.2 a p n T ∧ EC s.2 52 p n E0 ∧ Off (fun b j => 43 ≤ b ∧ b ≤ 67) σ s.2 ∧ ∃ m x, WK s.2 p n 1 m x ∧ i = SM p n 1 (fun _ _ => 1) m x ∧ s.1 = p ^ n.toNat + SM p n 1 (fun m x => (p - 1) * p ^ (n - cd (mvr p n T (spn p n (tb m) x) E0).1 n).toNat) m x ∧ s.1 ≤ 625 + 3750 * i ∧ i < 4000 ∧ 0 ≤ s.1) 4000 ?_ ?_ 0 (by omega) (p ^ n.toNat, s2) ⟨by omega, hS1.off hO2 (fun e h' => by have := ech_list h'; omega), hW1.cg (fun k => hO2 a k (by omega)) (fun k => hO2 (a + 1) k (by omega)), hE2, Off_trans (Off_mono hO1 (fun b j q => by omega)) (Off_mono hO2 (fun b j q => by omega)), 0, 0, hK1.cg (fun b k q0 q1 q2 => hO2 b k (by omega)), by unfold SM; rw [sR_nil (by omega), sR_nil (by omega)]; rfl, by unfold SM; rw [sR_nil (by omega), sR_nil (by omega)]; simp, by simp only; omega, by omega, by simp only; omega⟩
  · rintro ⟨c, t⟩ ⟨_, _, _, _, _, m, x, _, _, _, _, q, _⟩
    omega
  · rintro i ⟨c, t⟩ hi ⟨i0, hSt, hWt, hEt, hOt, m, x, hK, hi1, hc1, hci, hi4, hc0⟩ ih
    simp only at hSt hWt hEt hOt hK hi1 hc1 hci hc0 ⊢
    refine s_An_countCommuting_34 ⟨fun q => by omega, fun _ => ?_⟩
    refine Sp_goOn_s hW.pn hK (fun m' x' u hWu hF hOu => ⟨fun q => by omega, fun _ => ⟨ho, ho, ?_⟩⟩) (fun u hF hOu => ⟨fun _ => ?_, fun q => by omega⟩)
    · have hmm := hWu.2.1
      have hxx := hWu.2.2.1
      have l1 := SM_le (p := p) (n := n) (z := 1) (F := fun _ _ => 1) (fun _ _ => by omega) hmm.1 hmm.2.1 hmm.2.2 hxx.1 hxx.2
      have l2 := SM_le (p := p) (n := n) (z := 1) (F := fun m x => (p - 1) * p ^ (n - cd (mvr p n T (spn p n (tb m) x) E0).1 n).toNat) (fun m x => (hFb m x).1) hmm.1 hmm.2.1 hmm.2.2 hxx.1 hxx.2
      have f1 := hF (fun _ _ => 1)
      have f2 := hF (fun m x => (p - 1) * p ^ (n - cd (mvr p n T (spn p n (tb m) x) E0).1 n).toNat)
      rw [f1] at l1
      rw [f2] at l2
      have hSu : ST u := hSt.off hOu (fun e h' => by have := ech_list h'; unfold DW; omega)
      have hWu' : WD u a p n T := hWt.cg (fun k => hOu a k (by unfold DW; omega)) (fun k => hOu (a + 1) k (by unfold DW; omega))
      have hEu : EC u 52 p n E0 := hEt.cg (fun k => hOu 52 k (by unfold DW; omega)) (fun k => hOu 53 k (by unfold DW; omega))
      obtain ⟨g1, g2, g3, g4⟩ := hFb m' x'
      rw [hWu'.2.1]
      refine An_sizeOfMovers_s hWu' ha hSu hWu.2.2.2.2.2 hEu (by omega) (by omega) (fun v hSv hOv => ?_)
      refine X_raised_s (by omega) g3 (by omega) ?_
      rw [w32_id (x := p - 1) (by omega) (by omega), w32_id (x := (p - 1) * p ^ (n - cd (mvr p n T (spn p n (tb m') x') E0).1 n).toNat) (by omega) (by omega), w32_id (by omega) (by omega), w32_id (by omega) (by omega)]
      refine ih (_, v) ⟨by omega, hSv, hWu'.cg (fun k => hOv a k (by omega)) (fun k => hOv (a + 1) k (by omega)), hEu.cg (fun k => hOv 52 k (by omega)) (fun k => hOv 53 k (by omega)), Off_trans hOt (Off_trans (Off_mono hOu (fun b j q => by unfold DW at q; omega)) (Off_mono hOv (fun b j q => by omega))), m', x' + 1, hWu.wk.cg (fun b k b0 b1 b2 => hOv b k (by omega)), by omega, by simp only; omega, by simp only; omega, by omega, by simp only; omega⟩
    · rw [hc1, ← hF]
      exact h u (hSt.off hOu (fun e h' => by have := ech_list h'; unfold DW; omega)) (Off_trans hOt (Off_mono hOu (fun b j q => by unfold DW at q; omega)))
def SIM (p n : Int) (T : Int → Int) : Prop := cnt n T ≠ 0 ∧ ∀ x, 1 ≤ x → x < p ^ n.toNat → ∀ E', Lst p n T True (ins p n E0 (dg p x)) E' → cd E'.1 n = n
theorem Lst.cgp {p n : Int} {T : Int → Int} {a b : Prop} {E E' : ES} (h : Lst p n T a E E') (hab : a ↔ b) : Lst p n T b E E' := by
  have : a = b := propext hab
  rw [← this]; exact h
theorem An_isSimple_s {a p n : Int} {T : Int → Int} (hW : WD σ a p n T) (ha : a ≤ 20) (hST : ST σ)
    (h1 : ∀ σ', SIM p n T → ST σ' → Off (fun b j => 43 ≤ b ∧ b ≤ 67) σ σ' → Q 1 σ') (h0 : ∀ σ', ¬ SIM p n T → ST σ' → Off (fun b j => 43 ≤ b ∧ b ≤ 67) σ σ' → Q 0 σ') : Tri (d + 6) M_An_isSimple [vA 42, vA a] σ Q := by
  obtain ⟨b1, b2, b3, b4⟩ := hW.pn.b
  obtain ⟨ho, hp, hn, hTe, hT⟩ := id hW
  obtain ⟨kw1, _, _⟩ := kd_world ho
  have hpw := hW.pn.pow
  have hpw0 := ppos b1 n.toNat
  refine t_An_isSimple ⟨ho, ?_⟩
  refine Wd_countCells_s ho (by rw [hn]; omega) ?_
  rw [hn, hTe]
  refine ⟨fun hc => ⟨ho, ?_⟩, fun q => h0 σ (fun z => z.1 q) hST Off_rfl⟩
  refine Wd_vectors_s ho (by rw [hp, hn]; exact hW.pn) ?_
  rw [hp, hn]
  refine loop_up (P := fun x (s : SG) => L (d + 6) M_An_isSimple 16 [vA 42, vA a, vI (p ^ n.toNat), vI x] [] s Q)
    (fun x s => 1 ≤ x ∧ ST s ∧ WD s a p n T ∧ Off (fun b j => 43 ≤ b ∧ b ≤ 67) σ s ∧ ∀ y, 1 ≤ y → y < x → ∀ E', Lst p n T True (ins p n E0 (dg p y)) E' → cd E'.1 n = n) (p ^ n.toNat) ?_ ?_ 1 (by omega) σ ⟨by omega, hST, hW, Off_rfl, fun y _ _ => by omega⟩
  · rintro t ⟨_, hS, _, hO, hall⟩
    exact s_An_isSimple_16 ⟨fun _ => h1 t ⟨hc, hall⟩ hS hO, fun q => by omega⟩
  · rintro x t hx ⟨x0, hS, hWt, hO, hall⟩ ih
    refine s_An_isSimple_16 ⟨fun q => by omega, fun _ => ⟨ho, ?_⟩⟩
    have hp' := hWt.2.1
    have hn' := hWt.2.2.1
    refine Wd_unpack_s ho (by rw [hp', hn']; exact hW.pn) (by omega) kd_66 (by omega) (by omega) (by rw [hn']; omega) (by omega) (by omega) (fun s1 g1 hO1 => ⟨ho, ho, ?_⟩)
    rw [hp', hn'] at g1
    rw [hn'] at hO1
    have hW1 : WD s1 a p n T := hWt.cg (fun k => hO1 a k (by omega)) (fun k => hO1 (a + 1) k (by omega))
    have hS1 : ST s1 := hS.off hO1 (fun e h' => by have := ech_list h'; omega)
    rw [hW1.2.1, hW1.2.2.1]
    refine Ec_begin_s ob_55 (hS1 55 ob_55) hW.pn.pr (by omega) (by rw [stl5 (by omega) (by omega)]; omega) (fun s2 hE2 hO2 => ?_)
    have hv : ∀ c, 0 ≤ c → c < n → s2 66 (0 + c) = dg p x c := fun c c0 c1 => by rw [hO2 66 _ (by omega)]; exact g1 c c0 c1
    refine Ec_add_s hE2 kd_66 (by omega) (by omega) (by omega) (by omega) (fun c c0 c1 => by rw [hv c c0 c1]; exact dg_in b1) (fun r s3 hE3 _ hO3 => ?_)
    have hE3' : EC s3 55 p n (ins p n E0 (dg p x)) := hE3.to (ESm.rfl'.insv (by omega) hv)
    have hW3 : WD s3 a p n T := hW1.cg (fun k => (hO3 a k (by omega)).trans (hO2 a k (by omega))) (fun k => (hO3 (a + 1) k (by omega)).trans (hO2 (a + 1) k (by omega)))
    refine An_closeUp_s hW3 ha hE3' (by omega) (fun E' s4 hE4 hL hO4 => ?_)
    have hL' : Lst p n T True (ins p n E0 (dg p x)) E' := hL.cgp (by simp)
    have hW4 : WD s4 a p n T := hW3.cg (fun k => hO4 a k (by unfold DE; omega)) (fun k => hO4 (a + 1) k (by unfold DE; omega))
    have hS4 : ST s4 := ((hS1.off hO2 (fun e h' => by have := ech_list h'; omega)).off hO3 (fun e h' => by have := ech_list h'; omega)).off hO4 (fun e h' => by have := ech_list h'; unfold DE; omega)
    have hO' : Off (fun b j => 43 ≤ b ∧ b ≤ 67) σ s4 := Off_trans hO (Off_trans (Off_mono hO1 (fun b j q => by omega)) (Off_trans (Off_mono hO2 (fun b j q => by omega)) (Off_trans (Off_mono hO3 (fun b j q => by omega)) (Off_mono hO4 (fun b j q => by unfold DE at q; omega)))))
    have hcE := cd_b (ℓ := E'.1) (w := n) (by omega)
    have hc5 : s4 55 5 = cd E'.1 n := hE4.2.2.2.2.1
    refine ⟨ho, fun q => ?_, fun q => h0 s4 (fun z => ?_) hS4 hO'⟩
    · rw [w32_id (by omega) (by omega)]
      rw [hW4.2.2.1, hc5] at q
      refine ih s4 ⟨by omega, hS4, hW4, hO', fun y y0 y1 E'' hL2 => ?_⟩
      by_cases hy : y = x
      · subst hy
        rw [(Lst_uniq b1 hL2 hL').cdw]; omega
      · exact hall y y0 (by omega) E'' hL2
    · have := z.2 x x0 hx E' hL'
      rw [hW4.2.2.1, hc5] at q; omega
end WALK2
