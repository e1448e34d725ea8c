/-! ===== the model: rests, parts taken out ===== -/
theorem MK_zero {p m : Int} {w : Int → Int → Int → Int} (h : ∀ i j k, 0 ≤ i → i < j → j < m → 0 ≤ k → k < m → w i j k = 0) {t : Int} (t0 : 0 ≤ t) (t1 : t < 125) : MK p m w t = 0 := (MK_cg (w := fun _ _ _ => 0) h t0 t1).trans MK_0
section RRE
variable {d : Nat} {σ : SG} {Q : Int → SG → Prop}
theorem SP.leadr {σ : SG} {s many p n r : Int} {E : ES} (h : SP σ s many p n E) (hn : 0 ≤ n) (hp : 2 ≤ p) (r0 : 0 ≤ r) (r1 : r < many) : ldw n (fun c => σ s (5 * r + c)) = ksel E.1 n r ∧ 0 ≤ ksel E.1 n r ∧ ksel E.1 n r < n ∧ E.1 (ksel E.1 n r) = true ∧ cd E.1 (ksel E.1 n r) = r := by
  obtain ⟨q0, q1, q2, q3⟩ := ksel_s (ℓ := E.1) hn r0 (by rw [← h.1]; exact r1)
  obtain ⟨e1, e2, e3, e4⟩ := h.2.2 _ q0 q1 q2
  have hrow : ∀ c, 0 ≤ c → c < n → σ s (5 * r + c) = E.2 (ksel E.1 n r) c := fun c c0 c1 => by
    have := h.row q0 q1 q2 c c0 c1
    rw [q3] at this; exact this
  refine ⟨ldw_u hn q0 (by omega) (fun c c0 c1 => by rw [hrow c c0 (by omega)]; exact e3 c c0 c1) (fun _ => by rw [hrow _ q0 q1, e2]; omega), q0, q1, q2, q3⟩
theorem R_rest_l {p n taken : Int} {T : Int → Int} {E : ES} (hR : RW σ p n T) (hE : SP σ 172 taken p n E) (hm : taken < n) (h : ∀ σ', WM σ' 0 p (cd (nt E.1) n) (MK p (cd (nt E.1) n) (RST p n T E)) → Off (fun b j => b = 187 ∨ b = 168 ∨ b = 175 ∨ b = 185 ∨ (b = 166 ∧ 0 ≤ j ∧ j < 127)) σ σ' → Q (cd (nt E.1) n) σ') : L (d + 4) M_R_rest 62 [vA 161, vU, vU, vU, vI taken, vI 0, vI 0, vU, vU] [] σ Q := by
  obtain ⟨b1, b2, b3, b4⟩ := hR.1.1.b
  have hT := hR.1
  have htb := hE.b (show 0 ≤ n by omega)
  have hcn := cd_nt (ℓ := E.1) (n := n) (by omega)
  have htk := hE.1
  have hcb := cd_b (ℓ := E.1) (w := n) (by omega)
  have rcg : ∀ t, Off (fun b j => b = 187 ∨ b = 168 ∨ b = 175 ∨ b = 185) σ t → RW t p n T ∧ SP t 172 taken p n E := fun t h' => ⟨hR.fr (fun k _ _ => h' 161 k (by omega)) (fun k => h' 166 k (by omega)) (fun k => h' 196 k (by omega)), hE.cg (fun k => h' 172 k (by omega))⟩
  -- the places that are left
  refine loop_up (P := fun k (s : Int × SG) => L (d + 4) M_R_rest 62 [vA 161, vU, vU, vU, vI taken, vI s.1, vI k, vU, vU] [] s.2 Q)
    (fun k s => 0 ≤ k ∧ s.1 = cd (nt E.1) k ∧ (∀ l, 0 ≤ l → l < k → nt E.1 l = true → s.2 187 (cd (nt E.1) l) = l) ∧ Off (fun b j => b = 187) σ s.2) n ?_ ?_ 0 (by omega) (0, σ) ⟨by omega, by unfold cd; rw [sR_nil (by omega)], fun l _ _ => by omega, Off_rfl⟩
  · rintro ⟨sz, t⟩ ⟨_, hsz, hl, hO⟩
    simp only at hsz hl hO ⊢
    subst hsz
    have hO' : Off (fun b j => b = 187 ∨ b = 168 ∨ b = 175 ∨ b = 185) σ t := Off_mono hO (fun b j q => by omega)
    have hRt := (rcg t hO').1
    refine s_R_rest_62 ⟨fun _ => ?_, fun q => by have := hRt.2.2.1; omega⟩
    rw [hRt.2.1]
    generalize hmm : cd (nt E.1) n = m at *
    have hpn : PN p m := hT.1.less (by omega) (by omega)
    refine R_clear_s (by omega) kd_168 (by omega) (by omega) (by omega) (fun t1 z0 z1 z2 hO1 => ?_)
    have hO1' : Off (fun b j => b = 187 ∨ b = 168 ∨ b = 175 ∨ b = 185) σ t1 := Off_trans hO' (Off_mono hO1 (fun b j q => by omega))
    have hl1 : ∀ t2, Off (fun b j => b = 168 ∨ b = 175 ∨ b = 185) t1 t2 → ∀ l, 0 ≤ l → l < n → nt E.1 l = true → t2 187 (cd (nt E.1) l) = l := fun t2 h2 l l0 l1 hl' => by rw [h2 187 _ (by omega), hO1 187 _ (by omega)]; exact hl l l0 l1 hl'
    refine loop_up (P := fun x t => L (d + 4) M_R_rest 162 [vA 161, vU, vU, vU, vI taken, vI m, vI x, vU, vU] [] t Q)
      (fun x t2 => 0 ≤ x ∧ (t2 168 0 = p ∧ t2 168 1 = m) ∧ (∀ q, 0 ≤ q → q < 125 → t2 168 (0 + 2 + q) = MK p m (fun i j k => if i < x then RST p n T E i j k else 0) q) ∧ Off (fun b j => b = 168 ∨ b = 175 ∨ b = 185) t1 t2) m ?_ ?_ 0 (by omega) t1 ⟨by omega, ⟨z0, z1⟩, fun q q0 q1 => by
        rw [z2 q q0 q1]
        exact (MK_zero (fun i j k i0 ij jm k0 km => if_neg (by omega)) q0 q1).symm, Off_rfl⟩
    · rintro t2 ⟨_, hf, ht2, hO2⟩
      refine s_R_rest_162 ⟨fun _ => R_takeOther_s (TW_MK hpn) hf.1 hf.2 (fun q q0 q1 => ?_) (fun t3 hN hO3 => h t3 hN ?_), fun q => by omega⟩
      · rw [ht2 q q0 q1]
        refine MK_cg (fun i j k i0 ij jm k0 km => ?_) q0 q1
        rw [if_pos (by omega)]
      · exact Off_trans (Off_mono hO1' (fun b j q => by omega)) (Off_trans (Off_mono hO2 (fun b j q => by omega)) (Off_mono hO3 (fun b j q => by omega)))
    · rintro x t2 hx ⟨x0, hf, ht2, hO2⟩ ih
      refine s_R_rest_162 ⟨fun q => by omega, fun _ => ?_⟩
      rw [w32_id (by omega) (by omega)]
      refine loop_up (P := fun y t => L (d + 4) M_R_rest 175 [vA 161, vU, vU, vU, vI taken, vI m, vI x, vI y, vU] [] t Q)
        (fun y t2 => x + 1 ≤ y ∧ (t2 168 0 = p ∧ t2 168 1 = m) ∧ (∀ q, 0 ≤ q → q < 125 → t2 168 (0 + 2 + q) = MK p m (fun i j k => if i < x ∨ (i = x ∧ j < y) then RST p n T E i j k else 0) q) ∧ Off (fun b j => b = 168 ∨ b = 175 ∨ b = 185) t1 t2) m ?_ ?_ (x + 1) (by omega) t2 ⟨by omega, hf, fun q q0 q1 => by
          rw [ht2 q q0 q1]
          refine MK_cg (fun i j k i0 ij jm k0 km => ?_) q0 q1
          by_cases g : i < x
          · rw [if_pos g, if_pos (Or.inl g)]
          · rw [if_neg g, if_neg (by omega)], hO2⟩
      · rintro t3 ⟨_, hf3, ht3, hO3⟩
        refine s_R_rest_175 ⟨fun _ => ?_, fun q => by omega⟩
        rw [w32_id (by omega) (by omega)]
        refine ih t3 ⟨by omega, hf3, fun q q0 q1 => ?_, hO3⟩
        rw [ht3 q q0 q1]
        refine MK_cg (fun i j k i0 ij jm k0 km => ?_) q0 q1
        by_cases g : i < x ∨ (i = x ∧ j < m)
        · rw [if_pos g, if_pos (by omega)]
        · rw [if_neg g, if_neg (by omega)]
      · rintro y t3 hy ⟨y0, hf3, ht3, hO3⟩ ih3
        obtain ⟨p0, p1, p2, p3⟩ := ksel_s (ℓ := nt E.1) (n := n) (by omega) x0 (by omega)
        obtain ⟨r0, r1, r2, r3⟩ := ksel_s (ℓ := nt E.1) (n := n) (a := y) (by omega) (by omega) (by omega)
        refine s_R_rest_175 ⟨fun q => by omega, fun _ => ?_⟩
        refine loop_up (P := fun k t => L (d + 4) M_R_rest 185 [vA 161, vU, vU, vU, vI taken, vI m, vI x, vI y, vI k] [] t Q)
          (fun k t4 => 0 ≤ k ∧ (∀ c, 0 ≤ c → c < k → t4 175 c = T (25 * ksel (nt E.1) n x + 5 * ksel (nt E.1) n y + c)) ∧ Off (fun b j => b = 175) t3 t4) n ?_ ?_ 0 (by omega) t3 ⟨by omega, fun c _ _ => by omega, Off_rfl⟩
        · rintro t4 ⟨_, ht4, hO4⟩
          have hO4' : Off (fun b j => b = 168 ∨ b = 175 ∨ b = 185) t1 t4 := Off_trans hO3 (Off_mono hO4 (fun b j q => by omega))
          obtain ⟨hR4, hE4⟩ := rcg t4 (Off_trans hO1' (Off_mono hO4' (fun b j q => by omega)))
          refine s_R_rest_185 ⟨fun _ => ?_, fun q => by have := hR4.2.2.1; omega⟩
          have hv : ∀ c, 0 ≤ c → c < n → t4 175 (0 + c) = T (25 * ksel (nt E.1) n x + 5 * ksel (nt E.1) n y + c) := fun c c0 c1 => by rw [show (0 : Int) + c = c by omega]; exact ht4 c c0 c1
          refine R_reduce_s hR4 hE4 kd_172 (by omega) kd_175 (by omega) (by omega) (by omega) (by omega) (fun c c0 c1 => by rw [hv c c0 c1]; exact hT.2.1 _ (by omega) (by omega)) (fun t5 hr5 hO5 => ?_)
          have hO5' : Off (fun b j => b = 168 ∨ b = 175 ∨ b = 185) t1 t5 := Off_trans hO4' (Off_mono hO5 (fun b j q => by omega))
          have hu : ∀ c, 0 ≤ c → c < n → t5 185 c = rd p n E (br p n T (EU.2 (ksel (nt E.1) n x)) (EU.2 (ksel (nt E.1) n y))) c := fun c c0 c1 => by
            rw [hr5 c c0 c1]
            exact rd_cg (fun q q0 q1 => by rw [hv q q0 q1, br_units hT p0 p1 r0 r1 q0 q1]) c0 c1
          have hf5 : t5 168 0 = p ∧ t5 168 1 = m := ⟨by rw [hO5 168 _ (by omega), hO4 168 _ (by omega)]; exact hf3.1, by rw [hO5 168 _ (by omega), hO4 168 _ (by omega)]; exact hf3.2⟩
          refine loop_up (P := fun k t => L (d + 4) M_R_rest 245 [vA 161, vU, vU, vU, vI taken, vI m, vI x, vI y, vI k] [] t Q)
            (fun k t6 => 0 ≤ k ∧ (t6 168 0 = p ∧ t6 168 1 = m) ∧ (∀ q, 0 ≤ q → q < 125 → t6 168 (0 + 2 + q) = MK p m (fun i j c => if i < x ∨ (i = x ∧ (j < y ∨ (j = y ∧ c < k))) then RST p n T E i j c else 0) q) ∧ Off (fun b j => b = 168 ∧ 2 ≤ j) t5 t6) m ?_ ?_ 0 (by omega) t5 ⟨by omega, hf5, fun q q0 q1 => by
              rw [hO5 168 _ (by omega), hO4 168 _ (by omega), ht3 q q0 q1]
              refine MK_cg (fun i j k i0 ij jm k0 km => ?_) q0 q1
              by_cases g : i < x ∨ (i = x ∧ j < y)
              · rw [if_pos g, if_pos (by omega)]
              · rw [if_neg g, if_neg (by omega)], Off_rfl⟩
          · rintro t6 ⟨_, hf6, ht6, hO6⟩
            refine s_R_rest_245 ⟨fun _ => ?_, fun q => by omega⟩
            rw [w32_id (by omega) (by omega)]
            refine ih3 t6 ⟨by omega, hf6, fun q q0 q1 => ?_, Off_trans hO5' (Off_mono hO6 (fun b j q => by omega))⟩
            rw [ht6 q q0 q1]
            refine MK_cg (fun i j k i0 ij jm k0 km => ?_) q0 q1
            by_cases g : i < x ∨ (i = x ∧ (j < y ∨ (j = y ∧ k < m)))
            · rw [if_pos g, if_pos (by omega)]
            · rw [if_neg g, if_neg (by omega)]
          · rintro k t6 hk ⟨k0, hf6, ht6, hO6⟩ ih6
            obtain ⟨s0, s1, s2, s3⟩ := ksel_s (ℓ := nt E.1) (n := n) (a := k) (by omega) k0 (by omega)
            have e187 : t6 187 k = ksel (nt E.1) n k := by
              have := hl1 t6 (Off_trans hO5' (Off_mono hO6 (fun b j q => by omega))) _ s0 s1 s2
              rw [s3] at this; exact this
            have hub := rd_in (p := p) (w := n) (E := E) (v := br p n T (EU.2 (ksel (nt E.1) n x)) (EU.2 (ksel (nt E.1) n y))) (c := ksel (nt E.1) n k) (by omega)
            refine s_R_rest_245 ⟨fun q => by omega, fun _ => ?_⟩
            rw [e187, hO6 185 _ (by omega), hu _ s0 s1, w32_id (by omega) (by omega)]
            refine ⟨⟨k0, by omega⟩, ⟨s0, by omega⟩, R_setMK (by omega) kd_168 (by omega) (by omega) (by omega) hf6.1 hpn ht6 x0 (by omega) hy k0 hk (by omega) (fun t7 ht7 hO7 => ih6 t7 ⟨by omega, ⟨by rw [hO7 168 _ (by omega)]; exact hf6.1, by rw [hO7 168 _ (by omega)]; exact hf6.2⟩, fun q q0 q1 => ?_, Off_trans hO6 (Off_mono hO7 (fun b j q => by omega))⟩)⟩
            rw [ht7 q q0 q1]
            refine MK_cg (fun i j c i0 ij jm c0 cm => ?_) q0 q1
            unfold w3
            show (if i = x ∧ j = y ∧ c = k then rd p n E _ (ksel (nt E.1) n k) else if i < x ∨ (i = x ∧ (j < y ∨ (j = y ∧ c < k))) then RST p n T E i j c else 0) = _
            by_cases g : i = x ∧ j = y ∧ c = k
            · rw [if_pos g, if_pos (by omega), g.1, g.2.1, g.2.2]; rfl
            · rw [if_neg g]
              by_cases g2 : i < x ∨ (i = x ∧ (j < y ∨ (j = y ∧ c < k)))
              · rw [if_pos g2, if_pos (by omega)]
              · rw [if_neg g2, if_neg (by omega)]
        · rintro k t4 hk ⟨k0, ht4, hO4⟩ ih4
          have hO4' : Off (fun b j => b = 168 ∨ b = 175 ∨ b = 185) t1 t4 := Off_trans hO3 (Off_mono hO4 (fun b j q => by omega))
          obtain ⟨hR4, hE4⟩ := rcg t4 (Off_trans hO1' (Off_mono hO4' (fun b j q => by omega)))
          have ex : t4 187 x = ksel (nt E.1) n x := by have := hl1 t4 hO4' _ p0 p1 p2; rw [p3] at this; exact this
          have ey : t4 187 y = ksel (nt E.1) n y := by have := hl1 t4 hO4' _ r0 r1 r2; rw [r3] at this; exact this
          refine s_R_rest_185 ⟨fun q => by have := hR4.2.2.1; omega, fun _ => ?_⟩
          rw [ex, ey]
          refine ⟨⟨x0, by omega⟩, ⟨by omega, by omega⟩, R_table_s hR4 ⟨p0, by omega⟩ ⟨r0, by omega⟩ ⟨k0, by omega⟩ ⟨⟨k0, by omega⟩, fun t5 e5 => ?_⟩⟩
          rw [w32_id (by omega) (by omega)]
          refine ih4 t5 ⟨by omega, fun c c0 c1 => ?_, fun b j hb => by rw [e5, up_ne (by omega)]; exact hO4 b j hb⟩
          by_cases g : c = k
          · subst g; rw [e5, up_same]
          · rw [e5, up_ne (by omega)]; exact ht4 c c0 (by omega)
  · rintro k ⟨sz, t⟩ hk ⟨k0, hsz, hl, hO⟩ ih
    simp only at hsz hl hO ⊢
    obtain ⟨hRt, hEt⟩ := rcg t (Off_mono hO (fun b j q => by omega))
    have hsb := cd_b (ℓ := nt E.1) k0
    have hss := cd_succ (ℓ := nt E.1) k0
    refine s_R_rest_62 ⟨fun q => by have := hRt.2.2.1; omega, fun _ => ?_⟩
    refine loop_up (P := fun r f => L (d + 4) M_R_rest 77 [vA 161, vU, vU, vU, vI taken, vI sz, vI k, vI f, vI r] [] t Q)
      (fun r f => 0 ≤ r ∧ ((f = 0 ∧ ∀ q, 0 ≤ q → q < r → ksel E.1 n q ≠ k) ∨ (f = 1 ∧ E.1 k = true))) taken ?_ ?_ 0 htb.1 0 ⟨by omega, Or.inl ⟨rfl, fun q _ _ => by omega⟩⟩
    · rintro f ⟨_, hf⟩
      refine s_R_rest_77 ⟨fun _ => ⟨fun q => ⟨⟨by omega, by omega⟩, fun t2 e2 => ?_⟩, fun q => ?_⟩, fun q => by omega⟩
      · have hfk : nt E.1 k = true := by
          rcases hf with ⟨_, g⟩ | ⟨g, _⟩
          · unfold nt
            cases hb : E.1 k with
            | false => rfl
            | true =>
              have := cd_lt k0 hk hb
              exact absurd (ksel_at k0 hk hb) (g (cd E.1 k) (cd_b (ℓ := E.1) k0).1 (by omega))
          · omega
        rw [if_pos hfk] at hss
        rw [w32_id (by omega) (by omega), w32_id (by omega) (by omega)]
        refine ih (sz + 1, t2) ⟨by omega, by simp only; omega, fun l l0 l1 hl' => ?_, fun b j hb => by show t2 b j = _; rw [e2, up_ne (by omega)]; exact hO b j hb⟩
        show t2 187 _ = _
        by_cases g : l = k
        · subst g; rw [e2, hsz, up_same]
        · have := cd_lt l0 (show l < k by omega) hl'
          rw [e2, up_ne (by omega)]; exact hl l l0 (by omega) hl'
      · have hfk : ¬ nt E.1 k = true := by
          rcases hf with ⟨g, _⟩ | ⟨_, g⟩
          · exact absurd g q
          · unfold nt; rw [g]; simp
        rw [if_neg hfk] at hss
        rw [w32_id (by omega) (by omega)]
        refine ih (sz, t) ⟨by omega, by simp only; omega, fun l l0 l1 hl' => hl l l0 ?_ hl', hO⟩
        have : l ≠ k := fun e => hfk (by rw [← e]; exact hl')
        omega
    · rintro r f hr ⟨r0, hf⟩ ih2
      obtain ⟨q0, q1, q2, q3, q4⟩ := hEt.leadr (show 0 ≤ n by omega) b1 r0 hr
      refine s_R_rest_77 ⟨fun q => by omega, fun _ => ⟨fun q => ?_, fun q => ?_⟩⟩
      · rw [w32_id (by omega) (by omega)]
        exact ih2 1 ⟨by omega, Or.inr ⟨rfl, by rcases hf with ⟨g, _⟩ | ⟨_, g⟩; exact absurd g q; exact g⟩⟩
      · have hf' : ∀ q, 0 ≤ q → q < r → ksel E.1 n q ≠ k := by rcases hf with ⟨_, g⟩ | ⟨g, _⟩; exact g; omega
        rw [w32_id (x := 5 * r) (by omega) (by omega), w32_id (x := r + 1) (by omega) (by omega)]
        refine R_leadOf_s hRt kd_172 (by omega) (by omega) (by omega) ?_
        rw [q0, if_pos q2]
        refine ⟨fun z => ih2 0 ⟨by omega, Or.inl ⟨rfl, fun w w0 w1 => ?_⟩⟩, fun z => ih2 1 ⟨by omega, Or.inr ⟨rfl, by rw [← z]; exact q3⟩⟩⟩
        by_cases g : w = r
        · subst g; exact z
        · exact hf' w w0 (by omega)
theorem R_takeOut_l {p n size : Int} {T : Int → Int} {E : ES} (hR : RW σ p n T) (hE : SP σ 172 size p n E) (hm : 1 ≤ size) (z0 : σ 168 0 = p) (z1 : σ 168 1 = size) (z2 : ∀ t, 0 ≤ t → t < 125 → σ 168 (0 + 2 + t) = 0) (h : ∀ σ', WM σ' 0 p (cd E.1 n) (MK p (cd E.1 n) (PRT p n T E)) → Off (fun b j => b = 168 ∨ b = 178 ∨ (b = 166 ∧ 0 ≤ j ∧ j < 127)) σ σ' → Q size σ') : L (d + 4) M_R_takeOut 69 [vA 161, vU, vU, vU, vI size, vI 0, vU, vU] [] σ Q := by
  obtain ⟨b1, b2, b3, b4⟩ := hR.1.1.b
  have hT := hR.1
  have htb := hE.b (show 0 ≤ n by omega)
  have htk := hE.1
  rw [← htk] at h
  have hpn : PN p size := hT.1.less hm htb.2
  have rcg : ∀ t, Off (fun b j => b = 168 ∨ b = 178) σ t → RW t p n T ∧ SP t 172 size p n E := fun t h' => ⟨hR.fr (fun k _ _ => h' 161 k (by omega)) (fun k => h' 166 k (by omega)) (fun k => h' 196 k (by omega)), hE.cg (fun k => h' 172 k (by omega))⟩
  refine loop_up (P := fun x t => L (d + 4) M_R_takeOut 69 [vA 161, vU, vU, vU, vI size, vI x, vU, vU] [] t Q)
    (fun x t2 => 0 ≤ x ∧ (t2 168 0 = p ∧ t2 168 1 = size) ∧ (∀ q, 0 ≤ q → q < 125 → t2 168 (0 + 2 + q) = MK p size (fun i j k => if i < x then PRT p n T E i j k else 0) q) ∧ Off (fun b j => b = 168 ∨ b = 178) σ t2) size ?_ ?_ 0 (by omega) σ ⟨by omega, ⟨z0, z1⟩, fun q q0 q1 => by
      rw [z2 q q0 q1]
      exact (MK_zero (fun i j k i0 ij jm k0 km => if_neg (by omega)) q0 q1).symm, Off_rfl⟩
  · rintro t2 ⟨_, hf, ht2, hO2⟩
    refine s_R_takeOut_69 ⟨fun _ => R_takeOther_s (TW_MK hpn) hf.1 hf.2 (fun q q0 q1 => ?_) (fun t3 hN hO3 => h t3 hN ?_), fun q => by omega⟩
    · rw [ht2 q q0 q1]
      refine MK_cg (fun i j k i0 ij jm k0 km => ?_) q0 q1
      rw [if_pos (by omega)]
    · exact Off_trans (Off_mono hO2 (fun b j q => by omega)) (Off_mono hO3 (fun b j q => by omega))
  · rintro x t2 hx ⟨x0, hf, ht2, hO2⟩ ih
    refine s_R_takeOut_69 ⟨fun q => by omega, fun _ => ?_⟩
    rw [w32_id (by omega) (by omega)]
    refine loop_up (P := fun y t => L (d + 4) M_R_takeOut 82 [vA 161, vU, vU, vU, vI size, vI x, vI y, vU] [] t Q)
      (fun y t2 => x + 1 ≤ y ∧ (t2 168 0 = p ∧ t2 168 1 = size) ∧ (∀ q, 0 ≤ q → q < 125 → t2 168 (0 + 2 + q) = MK p size (fun i j k => if i < x ∨ (i = x ∧ j < y) then PRT p n T E i j k else 0) q) ∧ Off (fun b j => b = 168 ∨ b = 178) σ t2) size ?_ ?_ (x + 1) (by omega) t2 ⟨by omega, hf, fun q q0 q1 => by
        rw [ht2 q q0 q1]
        refine MK_cg (fun i j k i0 ij jm k0 km => ?_) q0 q1
        by_cases g : i < x
        · rw [if_pos g, if_pos (Or.inl g)]
        · rw [if_neg g, if_neg (by omega)], hO2⟩
    · rintro t3 ⟨_, hf3, ht3, hO3⟩
      refine s_R_takeOut_82 ⟨fun _ => ?_, fun q => by omega⟩
      rw [w32_id (by omega) (by omega)]
      refine ih t3 ⟨by omega, hf3, fun q q0 q1 => ?_, hO3⟩
      rw [ht3 q q0 q1]
      refine MK_cg (fun i j k i0 ij jm k0 km => ?_) q0 q1
      by_cases g : i < x ∨ (i = x ∧ j < size)
      · rw [if_pos g, if_pos (by omega)]
      · rw [if_neg g, if_neg (by omega)]
    · rintro y t3 hy ⟨y0, hf3, ht3, hO3⟩ ih3
      obtain ⟨hR3, hE3⟩ := rcg t3 hO3
      obtain ⟨_, p0, p1, p2, p3⟩ := hE3.leadr (show 0 ≤ n by omega) b1 x0 hx
      obtain ⟨_, r0, r1, r2, r3⟩ := hE3.leadr (r := y) (show 0 ≤ n by omega) b1 (by omega) hy
      have hrx : ∀ c, 0 ≤ c → c < n → t3 172 (5 * x + c) = E.2 (ksel E.1 n x) c := fun c c0 c1 => by have := hE3.row p0 p1 p2 c c0 c1; rw [p3] at this; exact this
      have hry : ∀ c, 0 ≤ c → c < n → t3 172 (5 * y + c) = E.2 (ksel E.1 n y) c := fun c c0 c1 => by have := hE3.row r0 r1 r2 c c0 c1; rw [r3] at this; exact this
      refine s_R_takeOut_82 ⟨fun q => by omega, fun _ => ?_⟩
      rw [w32_id (x := 5 * x) (by omega) (by omega), w32_id (x := 5 * y) (by omega) (by omega)]
      refine R_bracketOf_s hR3 kd_172 kd_172 (by omega) kd_178 (by omega) (by omega) (by omega) (by omega) (by omega) (by omega) (by omega) (by omega) (by omega) (by omega) (by omega) (by omega) (hE3.rowi (by omega) x0 hx) (hE3.rowi (by omega) (by omega) hy) (fun t4 hb4 hO4 => ?_)
      have hv : ∀ c, 0 ≤ c → c < n → t4 178 c = br p n T (E.2 (ksel E.1 n x)) (E.2 (ksel E.1 n y)) c := fun c c0 c1 => by rw [hb4 c c0 c1]; exact br_cg hrx hry
      have hO4' : Off (fun b j => b = 168 ∨ b = 178) σ t4 := Off_trans hO3 (Off_mono hO4 (fun b j q => by omega))
      refine loop_up (P := fun k t => L (d + 4) M_R_takeOut 116 [vA 161, vU, vU, vU, vI size, vI x, vI y, vI k] [] t Q)
        (fun k t6 => 0 ≤ k ∧ (t6 168 0 = p ∧ t6 168 1 = size) ∧ (∀ q, 0 ≤ q → q < 125 → t6 168 (0 + 2 + q) = MK p size (fun i j c => if i < x ∨ (i = x ∧ (j < y ∨ (j = y ∧ c < k))) then PRT p n T E i j c else 0) q) ∧ Off (fun b j => b = 168 ∧ 2 ≤ j) t4 t6) size ?_ ?_ 0 (by omega) t4 ⟨by omega, ⟨by rw [hO4 168 _ (by omega)]; exact hf3.1, by rw [hO4 168 _ (by omega)]; exact hf3.2⟩, fun q q0 q1 => by
          rw [hO4 168 _ (by omega), ht3 q q0 q1]
          refine MK_cg (fun i j k i0 ij jm k0 km => ?_) q0 q1
          by_cases g : i < x ∨ (i = x ∧ j < y)
          · rw [if_pos g, if_pos (by omega)]
          · rw [if_neg g, if_neg (by omega)], Off_rfl⟩
      · rintro t6 ⟨_, hf6, ht6, hO6⟩
        refine s_R_takeOut_116 ⟨fun _ => ?_, fun q => by omega⟩
        rw [w32_id (by omega) (by omega)]
        refine ih3 t6 ⟨by omega, hf6, fun q q0 q1 => ?_, Off_trans hO4' (Off_mono hO6 (fun b j q => by omega))⟩
        rw [ht6 q q0 q1]
        refine MK_cg (fun i j k i0 ij jm k0 km => ?_) q0 q1
        by_cases g : i < x ∨ (i = x ∧ (j < y ∨ (j = y ∧ k < size)))
        · rw [if_pos g, if_pos (by omega)]
        · rw [if_neg g, if_neg (by omega)]
      · rintro k t6 hk ⟨k0, hf6, ht6, hO6⟩ ih6
        obtain ⟨hR6, hE6⟩ := rcg t6 (Off_trans hO4' (Off_mono hO6 (fun b j q => by omega)))
        obtain ⟨s0, s1, s2, s3, s4⟩ := hE6.leadr (show 0 ≤ n by omega) b1 k0 hk
        refine s_R_takeOut_116 ⟨fun q => by omega, fun _ => ?_⟩
        rw [w32_id (x := 5 * k) (by omega) (by omega), w32_id (x := k + 1) (by omega) (by omega)]
        refine R_leadOf_s hR6 kd_172 (by omega) (by omega) (by omega) ?_
        rw [s0, if_pos s2, hO6 178 _ (by omega), hv _ s1 s2]
        have hbb : 0 ≤ br p n T (E.2 (ksel E.1 n x)) (E.2 (ksel E.1 n y)) (ksel E.1 n k) ∧ br p n T (E.2 (ksel E.1 n x)) (E.2 (ksel E.1 n y)) (ksel E.1 n k) < p := ⟨Int.emod_nonneg _ (by omega), Int.emod_lt_of_pos _ (by omega)⟩
        refine ⟨⟨s1, by omega⟩, R_setMK (by omega) kd_168 (by omega) (by omega) (by omega) hf6.1 hpn ht6 x0 (by omega) hy k0 hk (by omega) (fun t7 ht7 hO7 => ih6 t7 ⟨by omega, ⟨by rw [hO7 168 _ (by omega)]; exact hf6.1, by rw [hO7 168 _ (by omega)]; exact hf6.2⟩, fun q q0 q1 => ?_, Off_trans hO6 (Off_mono hO7 (fun b j q => by omega))⟩)⟩
        rw [ht7 q q0 q1]
        refine MK_cg (fun i j c i0 ij jm c0 cm => ?_) q0 q1
        unfold w3
        show (if i = x ∧ j = y ∧ c = k then br p n T _ _ (ksel E.1 n k) else if i < x ∨ (i = x ∧ (j < y ∨ (j = y ∧ c < k))) then PRT p n T E i j c else 0) = _
        by_cases g : i = x ∧ j = y ∧ c = k
        · rw [if_pos g, if_pos (by omega), g.1, g.2.1, g.2.2]; rfl
        · rw [if_neg g]
          by_cases g2 : i < x ∨ (i = x ∧ (j < y ∨ (j = y ∧ c < k)))
          · rw [if_pos g2, if_pos (by omega)]
          · rw [if_neg g2, if_neg (by omega)]
end RRE
