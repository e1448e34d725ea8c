/-! ===== series ===== -/
theorem br_cg {p n : Int} {T x y x' y' : Int → Int} {k : Int} (hx : ∀ i, 0 ≤ i → i < n → x i = x' i) (hy : ∀ i, 0 ≤ i → i < n → y i = y' i) : br p n T x y k = br p n T x' y' k := by
  unfold br
  congr 1
  apply sR_congr
  intro i h0 h1
  apply sR_congr
  intro j h2 h3
  rw [hx i h0 h1, hy j h2 h3]
def brk (p n : Int) (T : Int → Int) (A B : ES) : ES := lp (fun l E => lp (fun m E => if A.1 l = true ∧ B.1 m = true then ins p n E (br p n T (A.2 l) (B.2 m)) else E) 0 n E) 0 n E0
def ser (p n : Int) (T : Int → Int) (lower : Prop) [Decidable lower] (O : ES) : Nat → ES
  | 0 => O
  | k + 1 => brk p n T (ser p n T lower O k) (if lower then O else ser p n T lower O k)
theorem EW_brk {p n : Int} {T : Int → Int} {A B : ES} (hp : PR p) (hn : 0 ≤ n) : EW p n (brk p n T A B) := by
  unfold brk
  refine lp_ind (P := fun _ E => EW p n E) EW0 (fun l E _ _ hE => ?_) hn
  refine lp_ind (P := fun _ E => EW p n E) hE (fun m E _ _ hE => ?_) hn
  show EW p n (if _ then _ else _)
  split
  · exact EW_ins hp hn hE
  · exact hE
theorem EW_ser {p n : Int} {T : Int → Int} {lower : Prop} [Decidable lower] {O : ES} (hp : PR p) (hn : 0 ≤ n) (hO : EW p n O) : ∀ k, EW p n (ser p n T lower O k)
  | 0 => hO
  | _ + 1 => EW_brk hp hn
theorem brk_cg {p n : Int} {T : Int → Int} {A B A' B' : ES} (hn : 0 ≤ n) (hA : ESm n A A') (hB : ESm n B B') : ESm n (brk p n T A B) (brk p n T A' B') := by
  unfold brk
  refine lp_rel (R := ESm n) ESm.rfl' (fun l E E' l0 l1 hE => ?_)
  refine lp_rel (R := ESm n) hE (fun m E E' m0 m1 hE => ?_)
  by_cases h : A.1 l = true ∧ B.1 m = true
  · rw [if_pos h, if_pos (by rw [← hA.1 l l0 l1, ← hB.1 m m0 m1]; exact h)]
    exact hE.insv hn (fun c c0 c1 => br_cg (fun i i0 i1 => hA.2 l i l0 l1 h.1 i0 i1) (fun i i0 i1 => hB.2 m i m0 m1 h.2 i0 i1))
  · rw [if_neg h, if_neg (by rw [← hA.1 l l0 l1, ← hB.1 m m0 m1]; exact h)]
    exact hE
/-- a series that stops once stops for ever -/
def Stb (p n : Int) (T : Int → Int) (lower : Prop) [Decidable lower] (O : ES) : Prop := ∀ k, cd (ser p n T lower O (k + 1)).1 n = cd (ser p n T lower O k).1 n → ESm n (ser p n T lower O (k + 1)) (ser p n T lower O k)
theorem ser_stop {p n : Int} {T : Int → Int} {lower : Prop} [Decidable lower] {O : ES} (hn : 0 ≤ n) (hS : Stb p n T lower O) {j : Nat} (h : cd (ser p n T lower O (j + 1)).1 n = cd (ser p n T lower O j).1 n) : ∀ k, ESm n (ser p n T lower O (j + k)) (ser p n T lower O j) := by
  intro k
  induction k with
  | zero => exact ESm.rfl'
  | succ k ih =>
    have h1 := hS j h
    refine ESm.trans (E' := ser p n T lower O (j + 1)) ?_ h1
    show ESm n (brk p n T _ _) (brk p n T _ _)
    refine brk_cg hn ih ?_
    split
    · exact ESm.rfl'
    · exact ih
theorem no_leads {ℓ : Int → Bool} {n : Int} (h : cd ℓ n = 0) : ∀ l, 0 ≤ l → l < n → ℓ l = false := by
  intro l h0 h1
  cases hb : ℓ l with
  | false => rfl
  | true =>
    have h2 := cd_lt h0 h1 hb
    have := (cd_b (ℓ := ℓ) h0).1
    omega
theorem brk_none {p n : Int} {T : Int → Int} {A B : ES} (h : cd A.1 n = 0) (hn : 0 ≤ n) : brk p n T A B = E0 := by
  unfold brk
  refine lp_ind (P := fun _ E => E = E0) rfl (fun l E l0 l1 hE => ?_) hn
  refine lp_ind (P := fun _ E => E = E0) hE (fun m E _ _ hE => ?_) hn
  show (if _ then _ else _) = E0
  rw [if_neg (by rw [no_leads h l l0 l1]; simp)]
  exact hE
theorem ser_none {p n : Int} {T : Int → Int} {lower : Prop} [Decidable lower] {O : ES} (hn : 0 ≤ n) {j : Nat} (h : cd (ser p n T lower O j).1 n = 0) : ∀ k, cd (ser p n T lower O (j + k)).1 n = 0 := by
  intro k
  induction k with
  | zero => exact h
  | succ k ih =>
    show cd (brk p n T (ser p n T lower O (j + k)) (if lower then O else ser p n T lower O (j + k))).1 n = 0
    rw [brk_none ih hn, cd0]
/-- every ECHELON has its stride -/
def ST (σ : SG) : Prop := ∀ e, obok 2 e → σ e 0 = stl e
theorem ech_list {e : Int} (h : obok 2 e) : e = 39 ∨ e = 43 ∨ e = 46 ∨ e = 49 ∨ e = 52 ∨ e = 55 ∨ e = 58 ∨ e = 62 ∨ e = 69 ∨ e = 89 ∨ e = 92 ∨ e = 95 ∨ e = 98 ∨ e = 101 ∨ e = 107 := by
  obtain ⟨h0, h1⟩ := h
  obtain ⟨n, rfl⟩ := nat_of h0
  rw [kd_nat] at h1
  have hn : n < 197 := by rw [← kf_len]; exact kdn_lt (by omega)
  have key : ∀ a, a < 197 → (kdn a).1 = 2 → a = 39 ∨ a = 43 ∨ a = 46 ∨ a = 49 ∨ a = 52 ∨ a = 55 ∨ a = 58 ∨ a = 62 ∨ a = 69 ∨ a = 89 ∨ a = 92 ∨ a = 95 ∨ a = 98 ∨ a = 101 ∨ a = 107 := by decide +kernel
  have := key n hn h1
  omega
theorem ST.off {D : Int → Int → Prop} {σ σ' : SG} (h : ST σ) (hO : Off D σ σ') (hD : ∀ e, obok 2 e → ¬ D e 0) : ST σ' := fun e he => (hO e 0 (hD e he)).trans (h e he)
/-- the class's WORLD at a is this one -/
def WD (σ : SG) (a p n : Int) (T : Int → Int) : Prop := obok 10 a ∧ σ a 1 = p ∧ σ a 2 = n ∧ σ (a + 1) = T ∧ TW p n T
theorem WD.cg {σ σ' : SG} {a p n : Int} {T : Int → Int} (h : WD σ a p n T) (h1 : ∀ k, σ' a k = σ a k) (h2 : ∀ k, σ' (a + 1) k = σ (a + 1) k) : WD σ' a p n T :=
  ⟨h.1, by rw [h1]; exact h.2.1, by rw [h1]; exact h.2.2.1, by rw [← h.2.2.2.1]; exact funext h2, h.2.2.2.2⟩
theorem WD.wc {σ : SG} {a p n : Int} {T : Int → Int} (h : WD σ a p n T) : WC σ a := by
  obtain ⟨h0, h1, h2, h3, h4⟩ := h
  refine ⟨h0, ?_⟩
  rw [h1, h2, h3]; exact h4
theorem WD.pn {σ : SG} {a p n : Int} {T : Int → Int} (h : WD σ a p n T) : PN p n := h.2.2.2.2.1
theorem Wd_br_s {d : Nat} {σ : SG} {Q : Int → SG → Prop} {a p n x at_ y by_ o : Int} {T : Int → Int} {lx ly lo : Nat} (hW : WD σ a p n T) (hkx : kd x = (100, lx)) (hky : kd y = (100, ly)) (h0 : 0 ≤ o) (hko : kd o = (100, lo)) (hat : 0 ≤ at_) (hby : 0 ≤ by_) (hlx : at_ + n ≤ (lx : Int)) (hly : by_ + n ≤ (ly : Int)) (hlo : n ≤ (lo : Int)) (hl1 : lx ≤ 5000) (hl2 : ly ≤ 5000) (hox : o ≠ x) (hoy : o ≠ y) (hoa : o ≠ a + 1) (hoa2 : o ≠ a) {X Y : Int → Int} (hX : ∀ i, 0 ≤ i → i < n → σ x (at_ + i) = X i ∧ 0 ≤ X i ∧ X i < p) (hY : ∀ i, 0 ≤ i → i < n → σ y (by_ + i) = Y i ∧ 0 ≤ Y i ∧ Y i < p) (h : ∀ σ', (∀ k, 0 ≤ k → k < n → σ' o k = br p n T X Y k ∧ 0 ≤ br p n T X Y k ∧ br p n T X Y k < p) → Off (fun b l => b = o ∧ 0 ≤ l ∧ l < n) σ σ' → Q 0 σ') : Tri (d + 3) M_Wd_bracketInto [vA a, vA x, vI at_, vA y, vI by_, vA o] σ Q := by
  have hwc := hW.wc
  have hb := hW.pn.b
  obtain ⟨_, e1, e2, e3, _⟩ := hW
  refine Wd_bracketInto_s hwc hkx hky h0 hko hat hby (by rw [e2]; exact hlx) (by rw [e2]; exact hly) (by rw [e2]; exact hlo) hl1 hl2 hox hoy hoa hoa2 (fun i i0 i1 => ?_) (fun i i0 i1 => ?_) (fun u hu hO => ?_)
  · rw [e2] at i1; rw [e1, (hX i i0 i1).1]; exact (hX i i0 i1).2
  · rw [e2] at i1; rw [e1, (hY i i0 i1).1]; exact (hY i i0 i1).2
  · rw [e1, e2, e3] at hu
    rw [e2] at hO
    refine h u (fun k k0 k1 => ⟨?_, Int.emod_nonneg _ (by omega), Int.emod_lt_of_pos _ (by omega)⟩) hO
    rw [hu k k0 k1]
    exact br_cg (fun i i0 i1 => (hX i i0 i1).1) (fun i i0 i1 => (hY i i0 i1).1)
section SER
variable {d : Nat} {σ : SG} {Q : Int → SG → Prop}
theorem EC.rowb {σ : SG} {e p w : Int} {E : ES} (h : EC σ e p w E) (he : stl e = 5) {l : Int} (l0 : 0 ≤ l) (l1 : l < w) (hl : E.1 l = true) : ∀ i, 0 ≤ i → i < w → σ (e + 1) (l * 5 + i) = E.2 l i ∧ 0 ≤ E.2 l i ∧ E.2 l i < p := fun i i0 i1 => by
  obtain ⟨_, _, _, _, _, _, _, _, a11, a12, _⟩ := h
  have := a11 l i l0 l1 hl i0 i1
  rw [he] at this
  exact ⟨this, (a12 l l0 l1 hl).1 i i0 i1⟩
theorem stl5 {e : Int} (h : e ≠ 69) (h' : e ≠ 107) : stl e = 5 := by unfold stl; rw [if_neg (by omega)]
theorem kd_rows {e : Int} (ho : obok 2 e) (h : e ≠ 69) (h' : e ≠ 107) : kd (e + 1) = (100, 25) ∧ kd (e + 2) = (100, 5) := by
  obtain ⟨_, _, h3⟩ := kd_ech ho
  rcases h3 with ⟨a, b, _⟩ | ⟨_, _, c⟩
  · exact ⟨a, b⟩
  · omega
theorem An_seriesSize_s {a e k lo p n : Int} {T : Int → Int} {O : ES} (hW : WD σ a p n T) (ha : a ≤ 20) (hST : ST σ) (hE : EC σ e p n O) (he : e ≠ 43 ∧ e ≠ 46 ∧ e ≠ 69 ∧ e ≠ 107) (hk : 0 ≤ k ∧ k ≤ 9) (hS : Stb p n T (lo ≠ 0) O)
    (h : ∀ σ', ST σ' → Off (fun b j => (43 ≤ b ∧ b ≤ 48) ∨ b = 66) σ σ' → Q (cd (ser p n T (lo ≠ 0) O k.toNat).1 n) σ') : Tri (d + 4) M_An_seriesSize [vA 42, vA a, vA e, vI k, vI lo] σ Q := by
  have ho := hW.1
  obtain ⟨kw1, kw2, kw3⟩ := kd_world ho
  have hPN : PN p n := hW.pn
  obtain ⟨b1, b2, b3, b4⟩ := hPN.b
  have hPR := hPN.pr
  have heo := hE.1
  have hel := ech_list heo
  obtain ⟨kr1, kr2⟩ := kd_rows heo he.2.2.1 he.2.2.2
  have o43 : obok 2 43 := ob_43
  have o46 : obok 2 46 := ob_46
  refine t_An_seriesSize (fun _ _ => Ec_copyFrom_s o43 (hST 43 o43) (by rw [stl5 (by omega) (by omega)]; omega) hE (by omega) (by omega) (by omega) (fun s1 hE1 hO1 => ?_))
  have hO1' : Off (fun b j => (43 ≤ b ∧ b ≤ 48) ∨ b = 66) σ s1 := Off_mono hO1 (fun b j q => by omega)
  have hST1 : ST s1 := hST.off hO1 (fun e' h' => by have := ech_list h'; omega)
  refine loop_up (P := fun k1 t => L (d + 4) M_An_seriesSize 11 [vA 42, vA a, vA e, vI k, vI lo, vI k1, vU, vU, vU] [] t Q)
    (fun k1 t => 0 ≤ k1 ∧ EC t 43 p n (ser p n T (lo ≠ 0) O k1.toNat) ∧ ST t ∧ Off (fun b j => (43 ≤ b ∧ b ≤ 48) ∨ b = 66) σ t) k ?_ ?_ 0 hk.1 s1 ⟨by omega, hE1, hST1, hO1'⟩
  · rintro t ⟨_, hEt, hSTt, hOt⟩
    refine s_An_seriesSize_11 ⟨fun _ => ?_, fun q => by omega⟩
    rw [hEt.2.2.2.2.1]
    exact h t hSTt hOt
  · rintro k1 t hk1 ⟨hk0, hEt, hSTt, hOt⟩ ih
    have hcnt : t 43 5 = cd (ser p n T (lo ≠ 0) O k1.toNat).1 n := hEt.2.2.2.2.1
    have hWt : WD t a p n T := hW.cg (fun k => hOt a k (by omega)) (fun k => hOt (a + 1) k (by omega))
    have hpt : t a 1 = p := hWt.2.1
    have hnt : t a 2 = n := hWt.2.2.1
    have hst := ser_stop (lower := lo ≠ 0) (by omega) hS (j := k1.toNat)
    refine s_An_seriesSize_11 ⟨fun q => by omega, fun _ => ⟨fun q => ?_, fun q => ?_⟩⟩
    · have z : cd (ser p n T (lo ≠ 0) O k1.toNat).1 n = 0 := by have := (cd_b (ℓ := (ser p n T (lo ≠ 0) O k1.toNat).1) (show 0 ≤ n by omega)).1; omega
      have z2 := ser_none (lower := lo ≠ 0) (by omega) z (k.toNat - k1.toNat)
      rw [show k1.toNat + (k.toNat - k1.toNat) = k.toNat by omega] at z2
      have h2 := h t hSTt hOt
      rw [z2] at h2
      rw [hcnt, z]; exact h2
    · rw [hpt, hnt]
      -- the next of the series
      have step : ∀ x6 B, EC t x6 p n B → x6 ≠ 46 → x6 ≠ 69 → x6 ≠ 107 → B = (if lo ≠ 0 then O else ser p n T (lo ≠ 0) O k1.toNat) → ∀ t1, EC t1 46 p n E0 → Off (fun b j => b = 46 ∧ 3 ≤ j ∧ j ≤ 6) t t1 → L (d + 4) M_An_seriesSize 60 [vA 42, vA a, vA e, vI k, vI lo, vI k1, vA x6, vI 0, vU] [] t1 Q := by
        intro x6 B hB n1 n2 n3 hBe t1 hL1 hO1
        have hxl := ech_list hB.1
        obtain ⟨kx1, kx2⟩ := kd_rows hB.1 n2 n3
        have hO1' : Off (fun b j => (b = 46 ∧ 3 ≤ j ∧ j ≤ 6) ∨ b = 47 ∨ b = 48 ∨ b = 66) t t1 := Off_mono hO1 (fun b j q => by omega)
        refine loop_up (P := fun l u => L (d + 4) M_An_seriesSize 60 [vA 42, vA a, vA e, vI k, vI lo, vI k1, vA x6, vI l, vU] [] u Q)
          (fun l u => 0 ≤ l ∧ EC u 46 p n (lp (fun l E => lp (fun m E => if (ser p n T (lo ≠ 0) O k1.toNat).1 l = true ∧ B.1 m = true then ins p n E (br p n T ((ser p n T (lo ≠ 0) O k1.toNat).2 l) (B.2 m)) else E) 0 n E) 0 l E0) ∧ Off (fun b j => (b = 46 ∧ 3 ≤ j ∧ j ≤ 6) ∨ b = 47 ∨ b = 48 ∨ b = 66) t u) n ?_ ?_ 0 (by omega) t1 ⟨by omega, by rw [lp_nil (by omega)]; exact hL1, hO1'⟩
        · rintro u ⟨_, hLu, hOu⟩
          have hnu : u a 2 = n := (hOu a 2 (by omega)).trans hnt
          have hLu' : EC u 46 p n (ser p n T (lo ≠ 0) O (k1 + 1).toNat) := by
            rw [show (k1 + 1).toNat = k1.toNat + 1 by omega]
            show EC u 46 p n (brk p n T _ _)
            rw [← hBe]; exact hLu
          have hc1 : u 46 5 = cd (ser p n T (lo ≠ 0) O (k1 + 1).toNat).1 n := hLu'.2.2.2.2.1
          have hc2 : u 43 5 = cd (ser p n T (lo ≠ 0) O k1.toNat).1 n := (hOu 43 5 (by omega)).trans hcnt
          have hSTu : ST u := hSTt.off hOu (fun e' h' => by have := ech_list h'; omega)
          have hOu2 : Off (fun b j => (43 ≤ b ∧ b ≤ 48) ∨ b = 66) σ u := Off_trans hOt (Off_mono hOu (fun b j q => by omega))
          refine s_An_seriesSize_60 ⟨ho, fun _ => ⟨fun q => ?_, fun q => ?_⟩, fun q => by omega⟩
          · refine Ec_copyFrom_s o43 (hSTu 43 o43) (by rw [stl5 (by omega) (by omega)]; omega) hLu' (by omega) (by omega) (by omega) (fun v hEv hOv => ?_)
            rw [w32_id (by omega) (by omega)]
            exact ih v ⟨by omega, hEv, hSTu.off hOv (fun e' h' => by have := ech_list h'; omega), Off_trans hOu2 (Off_mono hOv (fun b j q => by omega))⟩
          · have z := hst (by rw [show k1.toNat + 1 = (k1 + 1).toNat by omega, ← hc1, q, hc2]) (k.toNat - k1.toNat)
            rw [show k1.toNat + (k.toNat - k1.toNat) = k.toNat by omega] at z
            rw [hc2, ← z.cdw]
            exact h u hSTu hOu2
        · rintro l u hl ⟨l0, hLu, hOu⟩ ih2
          have hnu : u a 2 = n := (hOu a 2 (by omega)).trans hnt
          refine s_An_seriesSize_60 ⟨ho, fun q => by omega, fun _ => ?_⟩
          refine loop_up (P := fun m u => L (d + 4) M_An_seriesSize 72 [vA 42, vA a, vA e, vI k, vI lo, vI k1, vA x6, vI l, vI m] [] u Q)
            (fun m u => 0 ≤ m ∧ EC u 46 p n (lp (fun m E => if (ser p n T (lo ≠ 0) O k1.toNat).1 l = true ∧ B.1 m = true then ins p n E (br p n T ((ser p n T (lo ≠ 0) O k1.toNat).2 l) (B.2 m)) else E) 0 m (lp (fun l E => lp (fun m E => if (ser p n T (lo ≠ 0) O k1.toNat).1 l = true ∧ B.1 m = true then ins p n E (br p n T ((ser p n T (lo ≠ 0) O k1.toNat).2 l) (B.2 m)) else E) 0 n E) 0 l E0)) ∧ Off (fun b j => (b = 46 ∧ 3 ≤ j ∧ j ≤ 6) ∨ b = 47 ∨ b = 48 ∨ b = 66) t u) n ?_ ?_ 0 (by omega) u ⟨by omega, by rw [lp_nil (hi := 0) (by omega)]; exact hLu, hOu⟩
          · rintro v ⟨_, hLv, hOv⟩
            have hnv : v a 2 = n := (hOv a 2 (by omega)).trans hnt
            refine s_An_seriesSize_72 ⟨ho, fun _ => ?_, fun q => by omega⟩
            rw [w32_id (by omega) (by omega)]
            exact ih2 v ⟨by omega, by rw [lp_succ l0]; exact hLv, hOv⟩
          · rintro m v hm ⟨m0, hLv, hOv⟩ ih3
            have hnv : v a 2 = n := (hOv a 2 (by omega)).trans hnt
            have hpv : v a 1 = p := (hOv a 1 (by omega)).trans hpt
            have hNv : EC v 43 p n (ser p n T (lo ≠ 0) O k1.toNat) := hEt.cg (fun k => hOv 43 k (by omega)) (fun k => hOv 44 k (by omega))
            have hBv : EC v x6 p n B := hB.cg (fun k => hOv x6 k (by omega)) (fun k => hOv (x6 + 1) k (by omega))
            have hno : ¬ ((ser p n T (lo ≠ 0) O k1.toNat).1 l = true ∧ B.1 m = true) → L (d + 4) M_An_seriesSize 72 [vA 42, vA a, vA e, vI k, vI lo, vI k1, vA x6, vI l, vI (w32 (m + 1))] [] v Q := fun q => by
              rw [w32_id (by omega) (by omega)]
              exact ih3 v ⟨by omega, by rw [lp_succ m0, if_neg q]; exact hLv, hOv⟩
            refine s_An_seriesSize_72 ⟨ho, fun q => by omega, fun _ => ?_⟩
            refine Ec_leadsAt_s hNv l0 hl (fun g1 => ⟨fun q => by omega, fun _ => ⟨hB.1, ?_⟩⟩) (fun g1 => ⟨fun _ => hno (by rw [g1]; simp), fun q => by omega⟩)
            refine Ec_leadsAt_s hBv m0 hm (fun g2 => ⟨fun q => by omega, fun _ => ⟨hB.1, ho, ?_⟩⟩) (fun g2 => ⟨fun _ => hno (by rw [g2]; simp), fun q => by omega⟩)
            rw [w32_id (x := l * 5) (by omega) (by omega), w32_id (x := m * 5) (by omega) (by omega), w32_id (x := m + 1) (by omega) (by omega)]
            have r1 := hNv.rowb (stl5 (by omega) (by omega)) l0 hl g1
            have r2 := hBv.rowb (stl5 n2 n3) m0 hm g2
            have hWv : WD v a p n T := hWt.cg (fun k => hOv a k (by omega)) (fun k => hOv (a + 1) k (by omega))
            refine Wd_br_s hWv kd_44 kx1 (by omega) kd_66 (by omega) (by omega) (by omega) (by omega) (by omega) (by omega) (by omega) (by omega) (by omega) (by omega) (by omega) r1 r2 (fun u1 hu1 hOu1 => ?_)
            · have hval := fun c c0 c1 => (hu1 c c0 c1).1
              have hLu1 := hLv.cg (σ' := u1) (fun k => hOu1 46 k (by omega)) (fun k => hOu1 47 k (by omega))
              refine Ec_add_s hLu1 kd_66 (by omega) (by omega) (by omega) (by omega) (fun c c0 c1 => ?_) (fun r u2 hL2 _ hOu2 => ?_)
              · rw [show (0 : Int) + c = c by omega, hval c c0 c1]; exact (hu1 c c0 c1).2
              · refine ih3 u2 ⟨by omega, ?_, Off_trans hOv (Off_trans (Off_mono hOu1 (fun b j q => by omega)) (Off_mono hOu2 (fun b j q => by omega)))⟩
                rw [lp_succ m0, if_pos ⟨g1, g2⟩]
                refine hL2.to (ESm.rfl'.insv (by omega) (fun c c0 c1 => ?_))
                rw [show (0 : Int) + c = c by omega]; exact hval c c0 c1
      by_cases hlo : lo = 0
      · refine ⟨fun _ => ⟨ho, ho, Ec_begin_s o46 (hSTt 46 o46) hPR (by omega) (by rw [stl5 (by omega) (by omega)]; omega) (fun t1 g1 g2 => step 43 _ hEt (by omega) (by omega) (by omega) (by rw [if_neg (by omega)]) t1 g1 g2)⟩, fun q => absurd hlo q⟩
      · have hEt2 : EC t e p n O := hE.cg (fun k => hOt e k (by omega)) (fun k => hOt (e + 1) k (by omega))
        refine ⟨fun q => absurd q hlo, fun _ => ⟨ho, ho, Ec_begin_s o46 (hSTt 46 o46) hPR (by omega) (by rw [stl5 (by omega) (by omega)]; omega) (fun t1 g1 g2 => step e _ hEt2 (by omega) (by omega) (by omega) (by rw [if_pos hlo]) t1 g1 g2)⟩⟩
end SER
