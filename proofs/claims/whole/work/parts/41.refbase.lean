/-! ===== the model: what it asks of a WORLD ===== -/
def RW (σ : SG) (p n : Int) (T : Int → Int) : Prop := TW p n T ∧ σ 161 26 = p ∧ σ 161 27 = n ∧ ((σ 161 24 = 166 ∧ 0 ≤ σ 161 25 ∧ σ 161 25 + 127 ≤ 3440) ∨ (σ 161 24 = 196 ∧ σ 161 25 = 0)) ∧ ∀ t, 0 ≤ t → t < 125 → σ (σ 161 24) (σ 161 25 + 2 + t) = T t
theorem RW.fr {σ σ' : SG} {p n : Int} {T : Int → Int} (h : RW σ p n T) (h1 : ∀ k, 24 ≤ k → k ≤ 27 → σ' 161 k = σ 161 k) (h2 : ∀ k, σ' 166 k = σ 166 k) (h3 : ∀ k, σ' 196 k = σ 196 k) : RW σ' p n T := by
  obtain ⟨a1, a2, a3, a4, a5⟩ := h
  refine ⟨a1, by rw [h1 26 (by omega) (by omega)]; exact a2, by rw [h1 27 (by omega) (by omega)]; exact a3, by rw [h1 24 (by omega) (by omega), h1 25 (by omega) (by omega)]; exact a4, fun t q1 q2 => ?_⟩
  rw [h1 24 (by omega) (by omega), h1 25 (by omega) (by omega), ← a5 t q1 q2]
  rcases a4 with ⟨e, _⟩ | ⟨e, _⟩ <;> rw [e]
  · exact h2 _
  · exact h3 _
section RB
variable {d : Nat} {σ : SG} {Q : Int → SG → Prop}
theorem R_left_s {v p : Int} (hp : 2 ≤ p ∧ p ≤ 7) (h : Q (v % p) σ) : Tri (d + 1) M_R_left [vI v, vI p] σ Q := by
  refine t_R_left (fun _ _ => ⟨by omega, by omega, ?_⟩)
  have h1 : -p < v.tmod p ∧ v.tmod p < p := by
    have a1 := Int.tmod_lt_of_pos v (show 0 < p by omega)
    have a2 := Int.tmod_lt_of_pos (-v) (show 0 < p by omega)
    rw [Int.neg_tmod] at a2
    omega
  rw [w32_id (by omega) (by omega), Int.tmod_eq_emod_of_nonneg (by omega), Int.add_emod_right]
  have e : v.tmod p % p = v % p := by
    have := Int.tmod_def v p
    rw [this, Int.sub_mul_emod_self_left]
  rw [e]; exact h
theorem R_inverse_s {p x : Int} (hp : PR p) (hpe : σ 161 26 = p) (h1 : 1 ≤ x) (h2 : x < p) (h : Q (iv p x) σ) : Tri (d + 1) M_R_inverse [vA 161, vI x] σ Q := by
  have hp2 : 2 ≤ p ∧ p ≤ 7 := by unfold PR at hp; omega
  obtain ⟨i1, i2, i3⟩ := iv_s hp h1 h2
  refine t_R_inverse (fun _ => ?_)
  refine loop_up (S := Unit) (P := fun y _ => L (d + 1) M_R_inverse 2 [vA 161, vI x, vI y] [] σ Q) (fun y _ => 1 ≤ y ∧ ∀ z, 1 ≤ z → z < y → x * z % p ≠ 1) p ?_ ?_ 1 (by omega) () ⟨by omega, fun z _ _ => by omega⟩
  · rintro _ ⟨_, hz⟩
    exact absurd i3 (hz _ i1 i2)
  · rintro y _ hy ⟨hy1, hz⟩ ih
    obtain ⟨m1, m2⟩ := mul_small (a := y) (b := x) (A := 7) (B := 7) (by omega) (by omega) (by omega) (by omega)
    refine s_R_inverse_2 ?_
    rw [hpe, w32_id (x := y * x) (by omega) (by omega), w32_id (x := y + 1) (by omega) (by omega), Int.tmod_eq_emod_of_nonneg m1, Int.mul_comm y x]
    refine ⟨by omega, fun q => ?_, fun q => ih () ⟨by omega, fun z g1 g2 => ?_⟩⟩
    · rw [iv_u hp h1 h2 hy1 hy q]; exact h
    · by_cases hzy : z = y
      · subst hzy; exact q
      · exact hz z g1 (by omega)
theorem R_table_s {p n i j k : Int} {T : Int → Int} (hR : RW σ p n T) (hi : 0 ≤ i ∧ i < 5) (hj : 0 ≤ j ∧ j < 5) (hk : 0 ≤ k ∧ k < 5) (h : Q (T (25 * i + 5 * j + k)) σ) : Tri (d + 2) M_R_table [vA 161, vI i, vI j, vI k] σ Q := by
  obtain ⟨a1, a2, a3, a4, a5⟩ := hR
  refine t_R_table (fun _ _ _ => R_cell_s hi hj hk ?_)
  rw [w32_id (by omega) (by omega), show σ 161 25 + (2 + 25 * i + 5 * j + k) = σ 161 25 + 2 + (25 * i + 5 * j + k) by omega, a5 _ (by omega) (by omega)]
  refine ⟨?_, h⟩
  rcases a4 with ⟨e, f1, f2⟩ | ⟨e, f1⟩ <;> rw [e]
  · exact rd_of kd_166 (by omega) (by omega)
  · exact rd_of kd_196 (by omega) (by omega)
theorem R_powerOf_s {p e : Int} (hpe : σ 161 26 = p) (hp : 1 ≤ p) (he : 0 ≤ e) (hb : p ^ e.toNat < 2147483648) (h : Q (p ^ e.toNat) σ) : Tri (d + 1) M_R_powerOf [vA 161, vI e] σ Q := by
  refine t_R_powerOf (fun he2 => ?_)
  refine loop_up (P := fun k x => L (d + 1) M_R_powerOf 4 [vA 161, vI e, vI x, vI k] [] σ Q) (fun k x => 0 ≤ k ∧ x = p ^ k.toNat) e ?_ ?_ 0 he 1 ⟨by omega, by simp⟩
  · rintro x ⟨_, rfl⟩
    exact s_R_powerOf_4 ⟨fun _ => h, fun q => by omega⟩
  · rintro k x hk ⟨h0, rfl⟩ ih
    refine s_R_powerOf_4 ⟨fun q => by omega, fun _ => ?_⟩
    have e1 : p ^ k.toNat * p = p ^ (k + 1).toNat := by
      rw [show (k + 1).toNat = k.toNat + 1 by omega, Int.pow_succ]
    have b1 := pow_le (p := p) (k := (k + 1).toNat) (n := e.toNat) hp (by omega)
    have b2 := pow_pos' (p := p) (k := (k + 1).toNat) hp
    unfold inI at he2
    rw [hpe, e1, w32_id (by omega) (by omega), w32_id (by omega) (by omega)]
    exact ih _ ⟨by omega, rfl⟩
theorem R_vectors_s {p n : Int} {T : Int → Int} (hR : RW σ p n T) (h : Q (p ^ n.toNat) σ) : Tri (d + 2) M_R_vectors [vA 161] σ Q := by
  obtain ⟨a1, a2, a3, a4, a5⟩ := hR
  have b1 := a1.1.b
  have b2 := a1.1.pow
  refine t_R_vectors ?_
  rw [a3]
  exact R_powerOf_s a2 (by omega) (by omega) (by omega) h
theorem R_isVector_s {p n x : Int} {T : Int → Int} (hR : RW σ p n T) (h1 : 0 ≤ x → x < p ^ n.toNat → Q 1 σ) (h0 : (x < 0 ∨ p ^ n.toNat ≤ x) → Q 0 σ) : Tri (d + 3) M_R_isVector [vA 161, vJ x] σ Q := by
  have b1 := hR.1.1.b
  have b2 := hR.1.1.pow
  have b3 := pow_pos' (p := p) (k := n.toNat) (by omega)
  refine t_R_isVector (fun _ => R_vectors_s hR ?_)
  rw [w32_id (by omega) (by omega)]
  exact R_isIn_s (fun g1 g2 => ⟨Or.inr rfl, h1 g1 (by omega)⟩) (fun g => ⟨Or.inl rfl, h0 (by omega)⟩)
theorem R_isBase_s {p n i : Int} {T : Int → Int} (hR : RW σ p n T) (h1 : 0 ≤ i → i < n → Q 1 σ) (h0 : (i < 0 ∨ n ≤ i) → Q 0 σ) : Tri (d + 2) M_R_isBase [vA 161, vI i] σ Q := by
  have b1 := hR.1.1.b
  obtain ⟨a1, a2, a3, a4, a5⟩ := hR
  refine t_R_isBase (fun _ => ?_)
  rw [a3, w32_id (by omega) (by omega)]
  exact R_isIn_s (fun g1 g2 => ⟨Or.inr rfl, h1 g1 (by omega)⟩) (fun g => ⟨Or.inl rfl, h0 (by omega)⟩)
theorem R_unit_s {p n i o : Int} {T : Int → Int} {len : Nat} (hR : RW σ p n T) (h0 : 0 ≤ o) (hk : kd o = (100, len)) (hl : n ≤ (len : Int)) (ho : o ≠ 161)
    (h : ∀ σ', (∀ k, 0 ≤ k → k < n → σ' o k = if k = i then 1 else 0) → Off (fun b j => b = o ∧ 0 ≤ j ∧ j < n) σ σ' → Q 0 σ') : Tri (d + 1) M_R_unit [vA 161, vI i, vA o] σ Q := by
  have b1 := hR.1.1.b
  obtain ⟨a1, a2, a3, a4, a5⟩ := hR
  refine t_R_unit (fun _ => ?_)
  refine loop_up (P := fun k s => L (d + 1) M_R_unit 2 [vA 161, vI i, vA o, vI k] [] s Q) (fun k s => 0 ≤ k ∧ (∀ t, 0 ≤ t → t < k → s o t = if t = i then 1 else 0) ∧ Off (fun b j => b = o ∧ 0 ≤ j ∧ j < n) σ s) n ?_ ?_ 0 (by omega) σ ⟨by omega, fun t _ _ => by omega, Off_rfl⟩
  · rintro s ⟨_, hs, hO⟩
    have e : s 161 27 = n := by rw [hO 161 27 (by omega)]; exact a3
    exact s_R_unit_2 ⟨fun _ => h s hs hO, fun q => by omega⟩
  · rintro k s hk2 ⟨hk0, hs, hO⟩ ih
    have e : s 161 27 = n := by rw [hO 161 27 (by omega)]; exact a3
    refine s_R_unit_2 ⟨fun q => by omega, fun _ => ?_⟩
    rw [w32_id (by omega) (by omega)]
    refine ⟨fun q => ⟨wr_of h0 hk (by omega) (by omega), fun s3 e3 => ih s3 ⟨by omega, fun t g1 g2 => ?_, fun b j hb => ?_⟩⟩, fun q => ⟨wr_of h0 hk (by omega) (by omega), fun s3 e3 => ih s3 ⟨by omega, fun t g1 g2 => ?_, fun b j hb => ?_⟩⟩⟩
    · by_cases ht : t = k
      · subst ht; rw [e3, up_same, if_neg q]
      · rw [e3, up_ne (by omega)]; exact hs t g1 (by omega)
    · rw [e3, up_ne (by omega)]; exact hO b j hb
    · by_cases ht : t = k
      · subst ht; rw [e3, up_same, if_pos q]
      · rw [e3, up_ne (by omega)]; exact hs t g1 (by omega)
    · rw [e3, up_ne (by omega)]; exact hO b j hb
theorem R_parts2_s {p n o f x : Int} {T : Int → Int} {len : Nat} (hR : RW σ p n T) (h0 : 0 ≤ o) (hk : kd o = (100, len)) (ho : o ≠ 161) (hf : 0 ≤ f) (hfl : f + n ≤ (len : Int)) (hlen : len ≤ 5000) (hx : 0 ≤ x)
    (h : ∀ σ', (∀ k, 0 ≤ k → k < n → σ' o (f + k) = dg p x k) → Off (fun b j => b = o ∧ f ≤ j ∧ j < f + n) σ σ' → Q 0 σ') : Tri (d + 1) M_R_parts2 [vA 161, vI x, vA o, vI f] σ Q := by
  obtain ⟨b1, b2, b3, b4⟩ := hR.1.1.b
  obtain ⟨a1, a2, a3, a4, a5⟩ := hR
  refine t_R_parts2 (fun hxi _ => ?_)
  unfold inI at hxi
  refine loop_up (S := Int × SG) (P := fun k s => L (d + 1) M_R_parts2 6 [vA 161, vU, vA o, vI f, vI s.1, vI k] [] s.2 Q)
    (fun k s => 0 ≤ k ∧ k ≤ n ∧ 0 ≤ s.1 ∧ s.1 ≤ x ∧ (∀ t, 0 ≤ t → dg p s.1 t = dg p x (k + t)) ∧ (∀ t, 0 ≤ t → t < k → s.2 o (f + t) = dg p x t) ∧ Off (fun b j => b = o ∧ f ≤ j ∧ j < f + n) σ s.2) n ?_ ?_ 0 (by omega) (x, σ) ⟨by omega, by omega, hx, by simp, fun t _ => by simp, fun t h1 h2 => by omega, Off_rfl⟩
  · rintro ⟨r, s⟩ ⟨_, _, _, _, _, hd, hO⟩
    have e2 : s 161 27 = n := (hO 161 27 (by omega)).trans a3
    exact s_R_parts2_6 ⟨fun _ => h _ (fun k h1 h2 => hd k h1 h2) hO, fun q => by simp only at q; omega⟩
  · rintro k ⟨r, s⟩ hk2 ⟨hk0, hkn, hr0, hrx, hdg, hd, hO⟩ ih
    have e2 : s 161 27 = n := (hO 161 27 (by omega)).trans a3
    have e1 : s 161 26 = p := (hO 161 26 (by omega)).trans a2
    simp only at hr0 hrx hdg hd ⊢
    refine s_R_parts2_6 ⟨fun q => by omega, fun _ => ?_⟩
    rw [e1, w32_id (x := f + k) (by omega) (by omega), w32_id (x := k + 1) (by omega) (by omega)]
    refine ⟨by omega, wr_of h0 hk (by omega) (by omega), fun s4 e4 => ?_⟩
    have e5 : s4 161 26 = p := by rw [e4, up_ne (by omega)]; exact e1
    have hq0 : 0 ≤ r / p := Int.ediv_nonneg hr0 (by omega)
    have hq1 : r / p ≤ r := Int.ediv_le_self _ hr0
    rw [e5, Int.tdiv_eq_ediv_of_nonneg hr0, w32_id (x := r / p) (by omega) (by omega)]
    refine ⟨by omega, ih (r / p, s4) ⟨by omega, by omega, hq0, by simp only; omega, fun t ht => ?_, fun t h1 h2 => ?_, fun b j hb => ?_⟩⟩
    · simp only
      rw [← dg_succ ht (by omega), hdg (t + 1) (by omega)]
      congr 1; omega
    · simp only
      by_cases htk : t = k
      · subst htk
        rw [e4, up_same, Int.tmod_eq_emod_of_nonneg hr0]
        have := hdg 0 (by omega)
        rw [dg_zero] at this
        rw [this]; congr 1; omega
      · rw [e4, up_ne (by omega)]
        exact hd t h1 (by omega)
    · simp only
      rw [e4, up_ne (by omega)]; exact hO b j hb
theorem R_leadOf_s {p n a f : Int} {T : Int → Int} {len : Nat} (hR : RW σ p n T) (hk : kd a = (100, len)) (hf : 0 ≤ f) (hfl : f + n ≤ (len : Int)) (hlen : len ≤ 5000)
    (h : Q (if ldw n (fun c => σ a (f + c)) < n then ldw n (fun c => σ a (f + c)) else -1) σ) : Tri (d + 1) M_R_leadOf [vA 161, vA a, vI f] σ Q := by
  have b1 := hR.1.1.b
  obtain ⟨a1, a2, a3, a4, a5⟩ := hR
  refine t_R_leadOf (fun _ => ?_)
  refine loop_up (S := Unit) (P := fun l _ => L (d + 1) M_R_leadOf 2 [vA 161, vA a, vI f, vI l] [] σ Q) (fun l _ => 0 ≤ l ∧ ∀ c, 0 ≤ c → c < l → σ a (f + c) = 0) n ?_ ?_ 0 (by omega) () ⟨by omega, fun c _ _ => by omega⟩
  · rintro _ ⟨_, hz⟩
    refine s_R_leadOf_2 ⟨fun _ => ?_, fun q => by omega⟩
    rw [ldw_u (r := n) (by omega) (by omega) (Int.le_refl _) hz (fun q => by omega), if_neg (by omega)] at h
    exact h
  · rintro l _ hl2 ⟨hl0, hz⟩ ih
    refine s_R_leadOf_2 ⟨fun q => by omega, fun _ => ?_⟩
    rw [w32_id (x := f + l) (by omega) (by omega), w32_id (x := l + 1) (by omega) (by omega)]
    refine ⟨rd_of hk (by omega) (by omega), fun q => ih () ⟨by omega, fun c g1 g2 => ?_⟩, fun q => ?_⟩
    · by_cases hcl : c = l
      · subst hcl; exact q
      · exact hz c g1 (by omega)
    · rw [ldw_u (r := l) (by omega) hl0 (by omega) hz (fun _ => q), if_pos hl2] at h
      exact h
theorem R_bracketOf_s {p n x at_ y by_ o : Int} {T : Int → Int} {lx ly lo : Nat} (hR : RW σ p n T) (hkx : kd x = (100, lx)) (hky : kd y = (100, ly)) (h0 : 0 ≤ o) (hko : kd o = (100, lo)) (hat : 0 ≤ at_) (hby : 0 ≤ by_) (hlx : at_ + n ≤ (lx : Int)) (hly : by_ + n ≤ (ly : Int)) (hlo : n ≤ (lo : Int)) (hl1 : lx ≤ 5000) (hl2 : ly ≤ 5000) (hox : o ≠ x) (hoy : o ≠ y) (ho1 : o ≠ 161) (ho2 : o ≠ 166) (ho3 : o ≠ 196)
    (hX : ∀ i, 0 ≤ i → i < n → 0 ≤ σ x (at_ + i) ∧ σ x (at_ + i) < p) (hY : ∀ i, 0 ≤ i → i < n → 0 ≤ σ y (by_ + i) ∧ σ y (by_ + i) < p)
    (h : ∀ σ', (∀ k, 0 ≤ k → k < n → σ' o k = br p n T (fun i => σ x (at_ + i)) (fun i => σ y (by_ + i)) k) → Off (fun b l => b = o ∧ 0 ≤ l ∧ l < n) σ σ' → Q 0 σ') : Tri (d + 3) M_R_bracketOf [vA 161, vA x, vI at_, vA y, vI by_, vA o] σ Q := by
  obtain ⟨b1, b2, b3, b4⟩ := hR.1.1.b
  have hT1 := hR.1.2.1
  refine t_R_bracketOf (fun _ _ => ?_)
  refine loop_up (P := fun k s => L (d + 3) M_R_bracketOf 3 [vA 161, vA x, vI at_, vA y, vI by_, vA o, vI k, vU, vU, vU] [] s Q)
    (fun k s => 0 ≤ k ∧ (∀ t, 0 ≤ t → t < k → s o t = br p n T (fun i => σ x (at_ + i)) (fun i => σ y (by_ + i)) t) ∧ Off (fun b l => b = o ∧ 0 ≤ l ∧ l < n) σ s) n ?_ ?_ 0 (by omega) σ ⟨by omega, fun t _ _ => by omega, Off_rfl⟩
  · rintro s ⟨_, hs, hO⟩
    have e2 : s 161 27 = n := by rw [hO 161 27 (by omega)]; exact hR.2.2.1
    exact s_R_bracketOf_3 ⟨fun _ => h s hs hO, fun q => by omega⟩
  · rintro k s hk ⟨hk0, hs, hO⟩ ih
    have hRs : RW s p n T := hR.fr (fun k _ _ => hO 161 k (by omega)) (fun k => hO 166 k (by omega)) (fun k => hO 196 k (by omega))
    have e2 : s 161 27 = n := hRs.2.2.1
    have e1 : s 161 26 = p := hRs.2.1
    have ex : ∀ i, s x i = σ x i := fun i => hO x i (by omega)
    have ey : ∀ i, s y i = σ y i := fun i => hO y i (by omega)
    refine s_R_bracketOf_3 ⟨fun q => by omega, fun _ => ?_⟩
    refine loop_up (P := fun i c => L (d + 3) M_R_bracketOf 18 [vA 161, vA x, vI at_, vA y, vI by_, vA o, vI k, vI c, vI i, vU] [] s Q)
      (fun i c => 0 ≤ i ∧ (0 ≤ c ∧ c ≤ 1500 * i) ∧ c = sR (fun i => sR (fun j => σ x (at_ + i) * σ y (by_ + j) * T (25 * i + 5 * j + k)) 0 n) 0 i) n ?_ ?_ 0 (by omega) 0 ⟨by omega, by omega, by rw [sR_nil (by omega)]⟩
    · rintro c ⟨_, hcb, hc⟩
      refine s_R_bracketOf_18 ⟨fun _ => ?_, fun q => by omega⟩
      rw [e1, w32_id (x := k + 1) (by omega) (by omega), Int.tmod_eq_emod_of_nonneg hcb.1]
      refine ⟨by omega, wr_of h0 hko (by omega) (by omega), fun s2 e => ih s2 ⟨by omega, fun t g1 g2 => ?_, fun b l hb => ?_⟩⟩
      · by_cases htk : t = k
        · subst htk; rw [e, up_same, hc]; rfl
        · rw [e, up_ne (by omega)]; exact hs t g1 (by omega)
      · rw [e, up_ne (by omega)]; exact hO b l hb
    · rintro i c hi ⟨hi0, hcb, hc⟩ ih2
      refine s_R_bracketOf_18 ⟨fun q => by omega, fun _ => ?_⟩
      refine loop_up (P := fun j c => L (d + 3) M_R_bracketOf 30 [vA 161, vA x, vI at_, vA y, vI by_, vA o, vI k, vI c, vI i, vI j] [] s Q)
        (fun j c' => 0 ≤ j ∧ (0 ≤ c' ∧ c' ≤ 1500 * i + 300 * j) ∧ c' = c + sR (fun j => σ x (at_ + i) * σ y (by_ + j) * T (25 * i + 5 * j + k)) 0 j) n ?_ ?_ 0 (by omega) c ⟨by omega, by omega, by rw [sR_nil (by omega)]; omega⟩
      · rintro c' ⟨_, hcb', hc'⟩
        refine s_R_bracketOf_30 ⟨fun _ => ?_, fun q => by omega⟩
        rw [w32_id (x := i + 1) (by omega) (by omega)]
        exact ih2 c' ⟨by omega, by omega, by rw [sR_succ hi0, ← hc]; exact hc'⟩
      · rintro j c' hj ⟨hj0, hcb', hc'⟩ ih3
        obtain ⟨x1, x2⟩ := hX i hi0 hi
        obtain ⟨y1, y2⟩ := hY j hj0 hj
        obtain ⟨t1, t2⟩ := hT1 (25 * i + 5 * j + k) (by omega) (by omega)
        obtain ⟨m1, m2⟩ := mul_small (A := 6) (B := 6) x1 (by omega) y1 (by omega)
        obtain ⟨m3, m4⟩ := mul_small (A := 36) (B := 6) m1 (by omega) t1 (by omega)
        refine s_R_bracketOf_30 ⟨fun q => by omega, fun _ => ?_⟩
        rw [w32_id (x := at_ + i) (by omega) (by omega), w32_id (x := by_ + j) (by omega) (by omega), ex, ey]
        refine ⟨rd_of hkx (by omega) (by omega), rd_of hky (by omega) (by omega), R_table_s hRs ⟨by omega, by omega⟩ ⟨by omega, by omega⟩ ⟨by omega, by omega⟩ ?_⟩
        simp (disch := omega) only [w32_id]
        exact ih3 _ ⟨by omega, by omega, by rw [sR_succ hj0, hc']; omega⟩
end RB
