/-! ===== swaps, scalings, additions of both ===== -/
def swB (u v i c : Int) : Int := EU.2 (if i = u then v else if i = v then u else i) c
def puB (u v s i c : Int) : Int := if i = v ∧ c = u then s else EU.2 i c
theorem EUv {i c : Int} : EU.2 i c = if i = c then 1 else 0 := rfl
theorem EUb {i c p : Int} (hp : 2 ≤ p) : 0 ≤ EU.2 i c ∧ EU.2 i c < p := by
  rw [EUv]; split <;> omega
theorem EU_sum {x : Int → Int} {l n : Int} (l0 : 0 ≤ l) (l1 : l < n) : sR (fun k => EU.2 l k * x k) 0 n = x l := by
  rw [sR_one (l := l) l0 l1 (fun k _ _ hk => by rw [EUv, if_neg (fun e => hk e.symm)]; simp), EUv, if_pos rfl, Int.one_mul]
theorem swB_inv {p n u v : Int} (hp : 2 ≤ p) (u0 : 0 ≤ u) (u1 : u < n) (v0 : 0 ≤ v) (v1 : v < n) : INV p n (swB u v) (swB u v) := by
  refine ⟨fun l k _ _ _ _ => EUb hp, fun l m l0 l1 m0 m1 => ?_⟩
  have hx : 0 ≤ (if l = u then v else if l = v then u else l) ∧ (if l = u then v else if l = v then u else l) < n := by
    by_cases g : l = u
    · rw [if_pos g]; exact ⟨v0, v1⟩
    · rw [if_neg g]
      by_cases g2 : l = v
      · rw [if_pos g2]; exact ⟨u0, u1⟩
      · rw [if_neg g2]; exact ⟨l0, l1⟩
  have e1 : sR (fun k => swB u v l k * swB u v k m) 0 n = swB u v (if l = u then v else if l = v then u else l) m := EU_sum (x := fun k => swB u v k m) hx.1 hx.2
  rw [e1]
  have e2 : swB u v (if l = u then v else if l = v then u else l) m = if l = m then 1 else 0 := by
    unfold swB
    rw [EUv]
    congr 1
    by_cases g : l = u
    · rw [if_pos g]
      by_cases g2 : v = u
      · rw [if_pos g2]; apply propext; omega
      · rw [if_neg g2, if_pos rfl, g]
    · rw [if_neg g]
      by_cases g2 : l = v
      · rw [if_pos g2, if_pos rfl, g2]
      · rw [if_neg g2, if_neg g, if_neg g2]
  rw [e2]
  exact ⟨0, by omega⟩
theorem puB_sum {x : Int → Int} {n u v s l : Int} (u0 : 0 ≤ u) (u1 : u < n) (l0 : 0 ≤ l) (l1 : l < n) : sR (fun k => puB u v s l k * x k) 0 n = x l + (if l = v then (s - EU.2 v u) * x u else 0) := by
  by_cases g : l = v
  · subst g
    have e : sR (fun k => puB u l s l k * x k) 0 n = sR (fun k => EU.2 l k * x k) 0 n + sR (fun k => if k = u then (s - EU.2 l u) * x u else 0) 0 n := by
      rw [← sR_add]
      apply sR_congr
      intro k _ _
      unfold puB
      by_cases g2 : k = u
      · subst g2; rw [if_pos ⟨rfl, rfl⟩, if_pos rfl]; grind
      · rw [if_neg (fun z => g2 z.2), if_neg g2]; omega
    rw [e, EU_sum l0 l1, sR_one (l := u) u0 u1 (fun k _ _ hk => if_neg hk), if_pos rfl, if_pos rfl]
  · rw [if_neg g, Int.add_zero, ← EU_sum (x := x) l0 l1]
    apply sR_congr
    intro k _ _
    unfold puB
    rw [if_neg (fun z => g z.1)]
theorem scB_inv {p n u s : Int} (hp : PR p) (u0 : 0 ≤ u) (u1 : u < n) (s0 : 1 ≤ s) (s1 : s < p) : INV p n (puB u u s) (puB u u (iv p s)) := by
  have hp2 : 2 ≤ p := by unfold PR at hp; omega
  obtain ⟨i1, i2, i3⟩ := iv_s hp s0 s1
  refine ⟨fun l k _ _ _ _ => ?_, fun l m l0 l1 m0 m1 => ?_⟩
  · unfold puB
    split
    · omega
    · exact EUb hp2
  · rw [puB_sum (x := fun k => puB u u s k m) u0 u1 l0 l1]
    obtain ⟨q, hq⟩ := emod_ex (s * iv p s) p
    have hq' : s * iv p s = 1 - p * q := by omega
    unfold puB
    by_cases g : l = u
    · subst g
      rw [if_pos rfl]
      by_cases g2 : m = l
      · subst g2
        rw [if_pos ⟨rfl, rfl⟩, if_pos rfl, EUv, if_pos rfl]
        exact ⟨-q, by grind⟩
      · rw [if_neg (fun z => g2 z.2), EUv, EUv, if_neg (show ¬ l = m from fun e => g2 e.symm)]
        exact ⟨0, by simp⟩
    · rw [if_neg g, if_neg (fun z => g z.1), EUv]
      exact ⟨0, by omega⟩
theorem adB_inv {p n u v s : Int} (hp : 2 ≤ p) (u0 : 0 ≤ u) (u1 : u < n) (huv : u ≠ v) (s0 : 0 ≤ s) (s1 : s < p) : INV p n (puB u v s) (puB u v ((-s) % p)) := by
  refine ⟨fun l k _ _ _ _ => ?_, fun l m l0 l1 m0 m1 => ?_⟩
  · unfold puB
    split
    · exact ⟨Int.emod_nonneg _ (by omega), Int.emod_lt_of_pos _ (by omega)⟩
    · exact EUb hp
  · rw [puB_sum (x := fun k => puB u v s k m) u0 u1 l0 l1]
    obtain ⟨q, hq⟩ := emod_ex (-s) p
    unfold puB
    by_cases g : l = v
    · subst g
      rw [if_pos rfl, if_neg (show ¬ (u = l ∧ m = u) from fun z => huv z.1)]
      by_cases g2 : m = u
      · subst g2
        rw [if_pos ⟨rfl, rfl⟩, EUv, EUv, if_neg (fun e => huv e.symm), if_pos rfl, hq]
        exact ⟨q, by omega⟩
      · rw [if_neg (fun z => g2 z.2), EUv, EUv, EUv, if_neg (show ¬ u = m from fun e => g2 e.symm)]
        exact ⟨0, by simp⟩
    · rw [if_neg g, if_neg (fun z => g z.1), EUv]
      exact ⟨0, by omega⟩
theorem INV.bok {p n : Int} {B P : Int → Int → Int} (hp : PR p) (hn : 0 ≤ n) (h : INV p n B P) : BOK p n B := (AUG_ok hp hn h).1
/-- what a step of the three kinds does: its base, if it is done -/
def LOK (p n op a b : Int) : Prop := 0 ≤ a ∧ a < n ∧ ((op = 1 ∧ ¬ b % p = 0) ∨ (op ≠ 1 ∧ 0 ≤ b ∧ b < n ∧ a ≠ b))
def LBS (p op a b c : Int) : Int → Int → Int := if op = 0 then swB a b else if op = 1 then puB a a (b % p) else puB a b (c % p)
theorem LBS_ok {p n op a b c : Int} (hpn : PN p n) (h : LOK p n op a b) : BOK p n (LBS p op a b c) ∧ ∀ i k, 0 ≤ LBS p op a b c i k ∧ LBS p op a b c i k < p := by
  obtain ⟨b1, b2, b3, b4⟩ := hpn.b
  obtain ⟨a0, a1, h⟩ := h
  have hm : ∀ x : Int, 0 ≤ x % p ∧ x % p < p := fun x => ⟨Int.emod_nonneg _ (by omega), Int.emod_lt_of_pos _ (by omega)⟩
  have hpu : ∀ u v x i k : Int, 0 ≤ puB u v (x % p) i k ∧ puB u v (x % p) i k < p := fun u v x i k => by
    unfold puB
    split
    · exact hm x
    · exact EUb b1
  unfold LBS
  by_cases g : op = 0
  · rw [if_pos g]
    exact ⟨(swB_inv b1 a0 a1 (by omega) (by omega)).bok hpn.pr (by omega), fun i k => EUb b1⟩
  · rw [if_neg g]
    by_cases g1 : op = 1
    · rw [if_pos g1]
      have := hm b
      exact ⟨(scB_inv hpn.pr a0 a1 (by omega) (by omega)).bok hpn.pr (by omega), hpu a a b⟩
    · rw [if_neg g1]
      have := hm c
      exact ⟨(adB_inv b1 a0 a1 (by omega) this.1 this.2).bok hpn.pr (by omega), hpu a b c⟩
section STP
variable {d : Nat} {σ : SG} {Q : Int → SG → Prop}
theorem Wo_isBaseOf_s {a p n x : Int} {T : Int → Int} (hW : WD σ a p n T) (h1 : 0 ≤ x → x < n → Q 1 σ) (h0 : ¬ (0 ≤ x ∧ x < n) → Q 0 σ) : Tri (d + 1) M_Wo_isBaseOf [vA a, vI x] σ Q := by
  obtain ⟨ho, hp, hn, hTe, hT⟩ := hW
  exact t_Wo_isBaseOf (fun _ => ⟨fun q => h0 (by omega), fun q => ⟨ho, fun z => h0 (by omega), fun z => h1 q (by omega)⟩⟩)
theorem cpu_110 {s : SG} (hU : UN σ) (e : s = cpy σ (-2) 0 110 0 25) : (∀ i c, 0 ≤ i → i < 5 → 0 ≤ c → c < 5 → s 110 (i * 5 + c) = EU.2 i c) ∧ Off (fun b j => b = 110) σ s := by
  refine ⟨fun i c i0 i1 c0 c1 => ?_, fun b j hb => by rw [e, cpy_ne (by omega)]⟩
  rw [e, cpy_in (by omega) (by omega), show (0 : Int) + (i * 5 + c - 0) = i * 5 + c by omega, hU _ (by omega) (by omega), unit5 i0 i1 c0 c1]; rfl
theorem Wo_laySwap_s {a p n u v : Int} {T : Int → Int} (hU : UN σ) (hW : WD σ a p n T) (h1 : LOK p n 0 u v → ∀ σ', (∀ i c, 0 ≤ i → i < n → 0 ≤ c → c < n → σ' 110 (i * 5 + c) = LBS p 0 u v 0 i c) → Off (fun b j => b = 110) σ σ' → Q 1 σ') (h0 : ¬ LOK p n 0 u v → Q 0 σ) : Tri (d + 2) M_Wo_laySwap [vA 104, vA a, vI u, vI v] σ Q := by
  obtain ⟨b1, b2, b3, b4⟩ := hW.pn.b
  refine t_Wo_laySwap (fun _ _ => ⟨fun q => h0 (fun z => by unfold LOK at z; omega), fun q => Wo_isBaseOf_s hW (fun u0 u1 => ⟨fun z => by omega, fun _ => Wo_isBaseOf_s hW (fun v0 v1 => ⟨fun _ => ⟨by rw [kd_110, kd_m2]; decide, fun s6 e6 => ?_⟩, fun z => by omega⟩) (fun z => ⟨fun y => absurd rfl y, fun _ => h0 (fun y => by unfold LOK at y; omega)⟩)⟩) (fun z => ⟨fun _ => h0 (fun y => by unfold LOK at y; omega), fun y => absurd rfl y⟩)⟩)
  obtain ⟨hc, hO⟩ := cpu_110 hU e6
  rw [w32_id (x := u * 5) (by omega) (by omega), w32_id (x := v * 5) (by omega) (by omega), w32_id (x := u * 5 + u) (by omega) (by omega), w32_id (x := v * 5 + v) (by omega) (by omega), w32_id (x := u * 5 + v) (by omega) (by omega), w32_id (x := v * 5 + u) (by omega) (by omega)]
  refine ⟨⟨by omega, by omega⟩, fun s7 e7 => ⟨⟨by omega, by omega⟩, fun s8 e8 => ⟨⟨by omega, by omega⟩, fun s9 e9 => ⟨⟨by omega, by omega⟩, fun s10 e10 => h1 ⟨u0, u1, Or.inr ⟨by omega, v0, v1, q⟩⟩ s10 (fun i c i0 i1 c0 c1 => ?_) (fun b j hb => by rw [e10, up_ne (by omega), e9, up_ne (by omega), e8, up_ne (by omega), e7, up_ne (by omega)]; exact hO b j hb)⟩⟩⟩⟩
  have hv : LBS p 0 u v 0 i c = if (if i = u then v else if i = v then u else i) = c then 1 else 0 := by unfold LBS; rw [if_pos rfl]; rfl
  rw [hv, e10]
  by_cases g1 : i = v ∧ c = u
  · rw [g1.1, g1.2, up_same, if_neg (show ¬ v = u from fun e => q e.symm), if_pos rfl, if_pos rfl]
  rw [up_ne (by omega), e9]
  by_cases g2 : i = u ∧ c = v
  · rw [g2.1, g2.2, up_same, if_pos rfl, if_pos rfl]
  rw [up_ne (by omega), e8]
  by_cases g3 : i = v ∧ c = v
  · rw [g3.1, g3.2, up_same, if_neg (show ¬ v = u from fun e => q e.symm), if_pos rfl, if_neg q]
  rw [up_ne (by omega), e7]
  by_cases g4 : i = u ∧ c = u
  · rw [g4.1, g4.2, up_same, if_pos rfl, if_neg (show ¬ v = u from fun e => q e.symm)]
  rw [up_ne (by omega), hc i c i0 (by omega) c0 (by omega), EUv]
  by_cases g5 : i = u
  · rw [if_neg (by omega), if_pos g5, if_neg (by omega)]
  · by_cases g6 : i = v
    · rw [if_neg (by omega), if_neg g5, if_pos g6, if_neg (by omega)]
    · rw [if_neg g5, if_neg g6]
theorem Wo_layScale_s {a p n u v : Int} {T : Int → Int} (hU : UN σ) (hW : WD σ a p n T) (h1 : LOK p n 1 u v → ∀ σ', (∀ i c, 0 ≤ i → i < n → 0 ≤ c → c < n → σ' 110 (i * 5 + c) = LBS p 1 u v 0 i c) → Off (fun b j => b = 110) σ σ' → Q 1 σ') (h0 : ¬ LOK p n 1 u v → Q 0 σ) : Tri (d + 2) M_Wo_layScale [vA 104, vA a, vI u, vI v] σ Q := by
  obtain ⟨b1, b2, b3, b4⟩ := hW.pn.b
  refine t_Wo_layScale (fun _ _ => ⟨hW.1, ?_⟩)
  rw [hW.2.1]
  refine X_mod_s b1 ⟨fun q => h0 (fun z => by unfold LOK at z; omega), fun q => Wo_isBaseOf_s hW (fun u0 u1 => ⟨fun _ => ⟨by rw [kd_110, kd_m2]; decide, fun s6 e6 => ?_⟩, fun z => by omega⟩) (fun z => ⟨fun y => absurd rfl y, fun _ => h0 (fun y => by unfold LOK at y; omega)⟩)⟩
  obtain ⟨hc, hO⟩ := cpu_110 hU e6
  rw [w32_id (x := u * 5) (by omega) (by omega), w32_id (x := u * 5 + u) (by omega) (by omega)]
  refine ⟨⟨by omega, by omega⟩, fun s7 e7 => h1 ⟨u0, u1, Or.inl ⟨rfl, q⟩⟩ s7 (fun i c i0 i1 c0 c1 => ?_) (fun b j hb => by rw [e7, up_ne (by omega)]; exact hO b j hb)⟩
  have hv : LBS p 1 u v 0 i c = if i = u ∧ c = u then v % p else EU.2 i c := by unfold LBS; rw [if_neg (by omega), if_pos rfl]; rfl
  rw [hv, e7]
  by_cases g : i = u ∧ c = u
  · rw [if_pos g, g.1, g.2, up_same]
  · rw [if_neg g, up_ne (by omega)]; exact hc i c i0 (by omega) c0 (by omega)
theorem Wo_layAdd_s {a p n u v w : Int} {T : Int → Int} (hU : UN σ) (hW : WD σ a p n T) (ha : a ≠ 110) (h1 : LOK p n 2 u v → ∀ σ', (∀ i c, 0 ≤ i → i < n → 0 ≤ c → c < n → σ' 110 (i * 5 + c) = LBS p 2 u v w i c) → Off (fun b j => b = 110) σ σ' → Q 1 σ') (h0 : ¬ LOK p n 2 u v → Q 0 σ) : Tri (d + 2) M_Wo_layAdd [vA 104, vA a, vI w, vI u, vI v] σ Q := by
  obtain ⟨b1, b2, b3, b4⟩ := hW.pn.b
  refine t_Wo_layAdd (fun _ _ _ => ⟨fun q => h0 (fun z => by unfold LOK at z; omega), fun q => Wo_isBaseOf_s hW (fun u0 u1 => ⟨fun z => by omega, fun _ => Wo_isBaseOf_s hW (fun v0 v1 => ⟨fun _ => ⟨by rw [kd_110, kd_m2]; decide, fun s6 e6 => ⟨hW.1, ?_⟩⟩, fun z => by omega⟩) (fun z => ⟨fun y => absurd rfl y, fun _ => h0 (fun y => by unfold LOK at y; omega)⟩)⟩) (fun z => ⟨fun _ => h0 (fun y => by unfold LOK at y; omega), fun y => absurd rfl y⟩)⟩)
  obtain ⟨hc, hO⟩ := cpu_110 hU e6
  rw [hO a 1 (by omega), hW.2.1, w32_id (x := v * 5) (by omega) (by omega), w32_id (x := v * 5 + u) (by omega) (by omega)]
  refine X_mod_s b1 ⟨⟨by omega, by omega⟩, fun s7 e7 => h1 ⟨u0, u1, Or.inr ⟨by omega, v0, v1, q⟩⟩ s7 (fun i c i0 i1 c0 c1 => ?_) (fun b j hb => by rw [e7, up_ne (by omega)]; exact hO b j hb)⟩
  have hv : LBS p 2 u v w i c = if i = v ∧ c = u then w % p else EU.2 i c := by unfold LBS; rw [if_neg (by omega), if_neg (by omega)]; rfl
  rw [hv, e7]
  by_cases g : i = v ∧ c = u
  · rw [if_pos g, g.1, g.2, up_same]
  · rw [if_neg g, up_ne (by omega)]; exact hc i c i0 (by omega) c0 (by omega)
/-- the model's step of the three kinds -/
theorem R_linear_s {p n f op a b c : Int} {T : Int → Int} (hR : RW σ p n T) (hf0 : 127 ≤ f) (hf1 : f + 7 ≤ 3440) (e0 : σ 166 f = op) (e1 : σ 166 (f + 1) = a) (e2 : σ 166 (f + 2) = b) (e3 : σ 166 (f + 3) = c) (hop : 0 ≤ op ∧ op ≤ 2) (hb : 0 ≤ b) (hc : op = 2 → 0 ≤ c)
    (h1 : LOK p n op a b → ∀ σ', WM σ' 0 p n (MK p n (BCH p n T (LBS p op a b c))) → Off (fun b j => (b = 166 ∧ 0 ≤ j ∧ j < 127) ∨ b = 168 ∨ b = 178 ∨ b = 190 ∨ b = 193 ∨ b = 194) σ σ' → Q 1 σ') (h0 : ¬ LOK p n op a b → Q 0 σ) : Tri (d + 5) M_R_linear [vA 161, vI f] σ Q := by
  obtain ⟨b1, b2, b3, b4⟩ := hR.1.1.b
  have go : LOK p n op a b → L (d + 5) M_R_linear 71 [vA 161, vI f, vI op, vI a, vI b] [] σ Q := fun hok => by
    obtain ⟨hB, hBb⟩ := LBS_ok (c := c) hR.1.1 hok
    have hok' := hok
    obtain ⟨a0, a1, hok2⟩ := hok
    refine s_R_linear_71 (R_wholeSpan_s hR kd_193 (by omega) (by omega) (fun s1 hS1 hO1 => ?_))
    have hE : ∀ i k, 0 ≤ i → i < n → 0 ≤ k → k < n → s1 193 (5 * i + k) = EU.2 i k := fun i k i0 i1 k0 k1 => by
      have := hS1.2.1 i k i0 i1 rfl k0 k1
      rw [cdU i0] at this; exact this
    have fin : ∀ s2, (∀ i k, 0 ≤ i → i < n → 0 ≤ k → k < n → s2 193 (5 * i + k) = LBS p op a b c i k) → Off (fun b j => b = 193) σ s2 → Tri (d + 4) M_R_changeInto [vA 161] s2 (fun r5 σ5 => Tri (d + 4) M_R_takeOther [vA 161] σ5 (fun r6 σ6 => Q 1 σ6)) := fun s2 h2 hO2 => by
      refine R_changeInto_s (hR.fr (fun k _ _ => hO2 161 k (by omega)) (fun k => hO2 166 k (by omega)) (fun k => hO2 196 k (by omega))) (fun i k i0 i1 k0 k1 => ⟨h2 i k i0 i1 k0 k1, hBb i k⟩) (fun _ s3 z0 z1 z2 hO3 => ?_) (fun hno => absurd hB hno)
      refine R_takeOther_s (TW_MK hR.1.1) z0 z1 z2 (fun s4 hM4 hO4 => h1 hok' s4 hM4 ?_)
      exact Off_trans (Off_mono hO2 (fun b j q => by omega)) (Off_trans (Off_mono hO3 (fun b j q => by omega)) (Off_mono hO4 (fun b j q => by omega)))
    have e26 : s1 161 26 = p := (hO1 161 26 (by omega)).trans hR.2.1
    refine ⟨fun q0 => ⟨fun q1 => ?_, fun q1 => ?_⟩, fun q0 => ?_⟩
    · rw [w32_id (x := f + 3) (by omega) (by omega), w32_id (x := 5 * b) (by omega) (by omega), w32_id (x := 5 * b + a) (by omega) (by omega), e26, hO1 166 _ (by omega), e3, Int.tmod_eq_emod_of_nonneg (hc (by omega))]
      refine ⟨⟨by omega, by omega⟩, by omega, ⟨by omega, by omega⟩, fun s4 e4 => fin s4 (fun i k i0 i1 k0 k1 => ?_) (fun b j hb => by rw [e4, up_ne (by omega)]; exact hO1 b j hb)⟩
      unfold LBS puB
      rw [if_neg q0, if_neg q1, e4]
      by_cases g : i = b ∧ k = a
      · rw [if_pos g, g.1, g.2, up_same]
      · rw [if_neg g, up_ne (by omega)]; exact hE i k i0 i1 k0 k1
    · rw [w32_id (x := 5 * a) (by omega) (by omega), w32_id (x := 5 * a + a) (by omega) (by omega), e26, Int.tmod_eq_emod_of_nonneg hb]
      refine ⟨by omega, ⟨by omega, by omega⟩, fun s4 e4 => fin s4 (fun i k i0 i1 k0 k1 => ?_) (fun b j hb => by rw [e4, up_ne (by omega)]; exact hO1 b j hb)⟩
      unfold LBS puB
      rw [if_neg q0, if_pos q1, e4]
      by_cases g : i = a ∧ k = a
      · rw [if_pos g, g.1, g.2, up_same]
      · rw [if_neg g, up_ne (by omega)]; exact hE i k i0 i1 k0 k1
    · refine R_exchange_s (hR.fr (fun k _ _ => hO1 161 k (by omega)) (fun k => hO1 166 k (by omega)) (fun k => hO1 196 k (by omega))) kd_193 (by omega) (by omega) a0 a1 (by omega) (by omega) (fun s4 h4 hO4 => fin s4 (fun i k i0 i1 k0 k1 => ?_) (Off_trans hO1 hO4))
      rw [h4 i k i0 i1 k0 k1]
      unfold LBS swB
      rw [if_pos q0]
      refine hE _ k ?_ ?_ k0 k1
      · by_cases g : i = a
        · rw [if_pos g]; omega
        · rw [if_neg g]
          by_cases g2 : i = b
          · rw [if_pos g2]; omega
          · rw [if_neg g2]; omega
      · by_cases g : i = a
        · rw [if_pos g]; omega
        · rw [if_neg g]
          by_cases g2 : i = b
          · rw [if_pos g2]; omega
          · rw [if_neg g2]; omega
  refine t_R_linear (fun _ => ?_)
  rw [w32_id (x := f + 1) (by omega) (by omega), w32_id (x := f + 2) (by omega) (by omega), e0, e1, e2]
  refine ⟨⟨by omega, by omega⟩, ⟨by omega, by omega⟩, ⟨by omega, by omega⟩, R_isBase_s hR (fun a0 a1 => ⟨fun z => by omega, fun _ => ⟨fun q => ⟨fun z => absurd q z, fun _ => ?_⟩, fun q => ?_⟩⟩) (fun z => ⟨fun _ => h0 (fun y => by unfold LOK at y; omega), fun y => absurd rfl y⟩)⟩
  · rw [hR.2.1, Int.tmod_eq_emod_of_nonneg hb]
    exact ⟨by omega, fun z => go ⟨a0, a1, Or.inl ⟨q, z⟩⟩, fun z => h0 (fun y => by unfold LOK at y; omega)⟩
  · refine R_isBase_s hR (fun c0 c1 => ⟨fun z => by omega, fun _ => ⟨fun z => h0 (fun y => by unfold LOK at y; omega), fun z => ⟨fun _ => go ⟨a0, a1, Or.inr ⟨q, c0, c1, z⟩⟩, fun y => absurd y q⟩⟩⟩) (fun z => ⟨fun _ => h0 (fun y => by unfold LOK at y; omega), fun y => absurd rfl y⟩)
end STP
