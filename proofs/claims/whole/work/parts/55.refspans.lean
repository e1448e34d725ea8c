/-! ===== the model: SPANS by sets and codes, what they are ===== -/
theorem bit_1 {m l : Int} (hm0 : 0 ≤ m) (hm : m < 2147483648) (hl0 : 0 ≤ l) (hl : l < 31) : (and32 (shr32 m l) 1 = 1) ↔ tb m l = true := by
  rw [bit_t hm0 hm hl0 hl]
  cases tb m l <;> simp
theorem In.eqv {p w : Int} {E : ES} {u u' : Int → Int} (h : In p w E u) (he : ∀ c, 0 ≤ c → c < w → u c = u' c) : In p w E u' := h.cg (fun c c0 c1 => by rw [he c c0 c1, Int.sub_self]; exact Int.dvd_zero p)
theorem cd_flat {ℓ : Int → Bool} {q l : Int} (q0 : 0 ≤ q) (h : q ≤ l) (he : cd ℓ q = cd ℓ l) : ∀ k, q ≤ k → k < l → ℓ k = false := fun k k0 k1 => by
  cases hb : ℓ k with
  | false => rfl
  | true =>
    have h1 := cd_mono (ℓ := ℓ) q0 k0
    have h2 := cd_lt (ℓ := ℓ) (by omega) k1 hb
    omega
theorem nf_flat {n q l : Int} {ℓ : Int → Bool} (q0 : 0 ≤ q) (h : q ≤ l) (he : cd ℓ q = cd ℓ l) : nf n ℓ q = nf n ℓ l := by
  have := sR_split (f := fun l => if ℓ l = true then nl ℓ (l + 1) n else 0) q0 h
  rw [sR_zero' (lo := q) (fun k k0 k1 => by rw [if_neg (by rw [cd_flat q0 h he k k0 k1]; simp)])] at this
  unfold nf; omega
def RL (σ : SG) (n m : Int) : Prop := σ 161 59 = cd (tb m) n ∧ σ 161 60 = nf n (tb m) n ∧ (∀ l, 0 ≤ l → l < n → tb m l = true → σ 187 (cd (tb m) l) = l) ∧ ∀ l c, Fp n (tb m) l c → σ 188 (fi n (tb m) l c) = cd (tb m) l ∧ σ 189 (fi n (tb m) l c) = c
theorem RL.cg {σ σ' : SG} {n m : Int} (h : RL σ n m) (h1 : σ' 161 59 = σ 161 59) (h2 : σ' 161 60 = σ 161 60) (h3 : ∀ b k, 187 ≤ b → b ≤ 189 → σ' b k = σ b k) : RL σ' n m := by
  obtain ⟨a, b, c, d⟩ := h
  exact ⟨h1.trans a, h2.trans b, fun l l0 l1 hl => by rw [h3 187 _ (by omega) (by omega)]; exact c l l0 l1 hl, fun l c' hf => by rw [h3 188 _ (by omega) (by omega), h3 189 _ (by omega) (by omega)]; exact d l c' hf⟩
theorem nf25 {n m : Int} {ℓ : Int → Bool} (hn : n ≤ 5) (m0 : 0 ≤ m) (m1 : m ≤ n) : 0 ≤ nf n ℓ m ∧ nf n ℓ m ≤ 25 := by
  have q1 := nf_b (n := n) (ℓ := ℓ) m0 m1
  have : m * n ≤ 5 * 5 := Int.mul_le_mul (by omega) (by omega) (by omega) (by omega)
  omega
theorem cd_E0_iff {p n : Int} {T : Int → Int} {E : ES} (hT : TW p n T) (hEE : EW p n E) : cd (brk p n T E E).1 n = 0 ↔ ClP p n T E E0 := by
  obtain ⟨b1, b2, b3, b4⟩ := hT.1.b
  have hE := EW_brk (T := T) (A := E) (B := E) hT.1.pr (show 0 ≤ n by omega)
  constructor
  · intro h u v hu hv
    have h1 := In_brk hT hu hv
    have hl := no_leads h
    refine In_E0.mpr (fun c c0 c1 => ?_)
    have h2 := h1 c c0 c1
    rw [sR_zero' (fun k k0 k1 => by rw [if_neg (by rw [hl k k0 k1]; simp)]), Int.sub_zero] at h2
    exact h2
  · intro h
    have hs := In_brk_sub (T := T) (A := E) (B := E) (F := E0) hT.1.pr (show 0 ≤ n by omega) (fun l m l0 l1 m0 m1 hl hm => ?_)
    · rcases Int.lt_or_le 0 (cd (brk p n T E E).1 n) with g | g
      · exfalso
        obtain ⟨l, l0, l1, l2, _⟩ := cd_sel (ℓ := (brk p n T E E).1) (w := n) (r := 0) (by omega) (by omega) g
        have := In_leads b1 hE EW0 hs l0 l1 l2
        cases this
      · have := (cd_b (ℓ := (brk p n T E E).1) (w := n) (by omega)).1
        omega
    · exact h _ _ (In_row hEE l0 l1 hl) (In_row hEE m0 m1 hm)
/-- a series comes to 0 at its SPAN's SIZE, or never -/
theorem ser_zero {p n : Int} {T : Int → Int} {lower : Prop} [Decidable lower] {O : ES} (hT : TW p n T) (hO : EW p n O) (hP : ClP p n T O O) {j : Nat} (h : cd (ser p n T lower O j).1 n = 0) : cd (ser p n T lower O (cd O.1 n).toNat).1 n = 0 := by
  obtain ⟨b1, b2, b3, b4⟩ := hT.1.b
  have hc := cd_b (ℓ := O.1) (w := n) (by omega)
  rcases Nat.le_total j (cd O.1 n).toNat with g | g
  · have := ser_none (lower := lower) (by omega) h ((cd O.1 n).toNat - j)
    rwa [show j + ((cd O.1 n).toNat - j) = (cd O.1 n).toNat by omega] at this
  · rw [← (ser_end (lower := lower) hT hO hP (k := (cd O.1 n).toNat) (m := j) (by omega) g).cdw]; exact h
theorem ser_never {p n : Int} {T : Int → Int} {lower : Prop} [Decidable lower] {O : ES} (hT : TW p n T) (hO : EW p n O) (hP : ClP p n T O O) {j : Nat} (h : cd (ser p n T lower O j).1 n ≠ 0) (h2 : cd (ser p n T lower O (j + 1)).1 n = cd (ser p n T lower O j).1 n) : cd (ser p n T lower O (cd O.1 n).toNat).1 n ≠ 0 := by
  obtain ⟨b1, b2, b3, b4⟩ := hT.1.b
  intro hz
  rcases Nat.le_total j (cd O.1 n).toNat with g | g
  · have := ser_stop (lower := lower) (by omega) (ser_stb hT hO hP) h2 ((cd O.1 n).toNat - j)
    rw [show j + ((cd O.1 n).toNat - j) = (cd O.1 n).toNat by omega] at this
    exact h (by rw [← this.cdw]; exact hz)
  · have := ser_none (lower := lower) (by omega) hz (j - (cd O.1 n).toNat)
    rw [show (cd O.1 n).toNat + (j - (cd O.1 n).toNat) = j by omega] at this
    exact h this
section RSP
variable {d : Nat} {σ : SG} {Q : Int → SG → Prop}
theorem R_lead_s {p n m : Int} {T : Int → Int} (hR : RW σ p n T) (m0 : 0 ≤ m) (m1 : m < 2 ^ n.toNat) (h : ∀ σ', RL σ' n m → Off (fun b j => (b = 161 ∧ (j = 59 ∨ j = 60)) ∨ (187 ≤ b ∧ b ≤ 189)) σ σ' → Q 0 σ') : Tri (d + 1) M_R_lead [vA 161, vI m] σ Q := by
  obtain ⟨b1, b2, b3, b4⟩ := hR.1.1.b
  have hp5 := pw5 (n := n) (by omega) b4
  have e27 := hR.2.2.1
  refine t_R_lead (fun _ s1 e1 s2 e2 => ?_)
  have hO2 : Off (fun b j => (b = 161 ∧ (j = 59 ∨ j = 60)) ∨ (187 ≤ b ∧ b ≤ 189)) σ s2 := fun b j hb => by rw [e2, up_ne (by omega), e1, up_ne (by omega)]
  refine loop_up (P := fun k t => L (d + 1) M_R_lead 12 [vA 161, vI m, vI k, vU] [] t Q)
    (fun k t => 0 ≤ k ∧ t 161 59 = cd (tb m) k ∧ t 161 60 = 0 ∧ (∀ l, 0 ≤ l → l < k → tb m l = true → t 187 (cd (tb m) l) = l) ∧ Off (fun b j => (b = 161 ∧ (j = 59 ∨ j = 60)) ∨ (187 ≤ b ∧ b ≤ 189)) σ t) n ?_ ?_ 0 (by omega) s2 ⟨by omega, ?_, by rw [e2, up_same], fun l l0 l1 => by omega, hO2⟩
  · rintro t ⟨_, t59, t60, tl, hO⟩
    have e27t : t 161 27 = n := (hO 161 27 (by omega)).trans e27
    refine s_R_lead_12 ⟨fun _ => ?_, fun q => by omega⟩
    have hcn := cd_b (ℓ := tb m) (w := n) (by omega)
    refine loop_up (P := fun r t => L (d + 1) M_R_lead 59 [vA 161, vI m, vI r, vU] [] t Q)
      (fun r t => 0 ≤ r ∧ t 161 59 = cd (tb m) n ∧ (∀ l, 0 ≤ l → l < n → tb m l = true → t 187 (cd (tb m) l) = l) ∧ (∃ q, 0 ≤ q ∧ q ≤ n ∧ cd (tb m) q = r ∧ t 161 60 = nf n (tb m) q ∧ ∀ l c, Fp n (tb m) l c → l < q → t 188 (fi n (tb m) l c) = cd (tb m) l ∧ t 189 (fi n (tb m) l c) = c) ∧ Off (fun b j => (b = 161 ∧ (j = 59 ∨ j = 60)) ∨ (187 ≤ b ∧ b ≤ 189)) σ t) (cd (tb m) n) ?_ ?_ 0 hcn.1 t ⟨by omega, t59, tl, ⟨0, by omega, by omega, by unfold cd; rw [sR_nil (by omega)], by rw [t60]; unfold nf; rw [sR_nil (by omega)], fun l c hf q => by have := hf.1; omega⟩, hO⟩
    · rintro t2 ⟨_, u59, ul, ⟨q, q0, q1, q2, q3, q4⟩, hO2⟩
      refine s_R_lead_59 ⟨fun _ => h t2 ⟨u59, by rw [q3]; exact nf_flat q0 q1 q2, ul, fun l c hf => q4 l c hf ?_⟩ hO2, fun z => by omega⟩
      rcases Int.lt_or_le l q with g | g
      · exact g
      · have := cd_flat q0 q1 q2 l g (by have := hf.2.1; have := hf.2.2.1; omega)
        have h3 := hf.2.2.2.1
        rw [this] at h3; cases h3
    · rintro r t2 hr ⟨r0, u59, ul, ⟨q, q0, q1, q2, q3, q4⟩, hO2⟩ ih
      obtain ⟨l, l0, l1, l2, l3⟩ := cd_sel (ℓ := tb m) (w := n) (by omega) r0 hr
      have hql : q ≤ l := by
        rcases Int.lt_or_le l q with g | g
        · have := cd_lt l0 g l2; omega
        · exact g
      have hnf : t2 161 60 = nf n (tb m) l := by rw [q3]; exact nf_flat q0 hql (by omega)
      have hdone : ∀ l' c, Fp n (tb m) l' c → l' < l → t2 188 (fi n (tb m) l' c) = cd (tb m) l' ∧ t2 189 (fi n (tb m) l' c) = c := fun l' c hf hl' => q4 l' c hf (by
        rcases Int.lt_or_le l' q with g | g
        · exact g
        · have := cd_flat (ℓ := tb m) q0 hql (by omega) l' g hl'
          have h3 := hf.2.2.2.1
          rw [this] at h3; cases h3)
      have hul := ul l l0 l1 l2
      rw [l3] at hul
      have hcd5 := cd_b (ℓ := tb m) l0
      have nb := nf25 (n := n) (ℓ := tb m) (m := l + 1) b4 (by omega) (by omega)
      have nb0 := nf25 (n := n) (ℓ := tb m) (m := l) b4 (by omega) (by omega)
      have nfs := nf_succ (n := n) (ℓ := tb m) l0
      rw [if_pos l2] at nfs
      refine s_R_lead_59 ⟨fun z => by omega, fun _ => ⟨⟨r0, by omega⟩, ?_⟩⟩
      rw [hul, w32_id (by omega) (by omega)]
      refine loop_up (P := fun k t => L (d + 1) M_R_lead 76 [vA 161, vI m, vI r, vI k] [] t Q)
        (fun k t3 => l + 1 ≤ k ∧ t3 161 59 = cd (tb m) n ∧ (∀ l, 0 ≤ l → l < n → tb m l = true → t3 187 (cd (tb m) l) = l) ∧ t3 161 60 = nf n (tb m) l + nl (tb m) (l + 1) k ∧ (∀ l' c, Fp n (tb m) l' c → (l' < l ∨ (l' = l ∧ c < k)) → t3 188 (fi n (tb m) l' c) = cd (tb m) l' ∧ t3 189 (fi n (tb m) l' c) = c) ∧ Off (fun b j => (b = 161 ∧ (j = 59 ∨ j = 60)) ∨ (187 ≤ b ∧ b ≤ 189)) σ t3) n ?_ ?_ (l + 1) (by omega) t2 ⟨by omega, u59, ul, by rw [hnf]; unfold nl; rw [sR_nil (by omega)]; omega, fun l' c hf hx => hdone l' c hf (by have := hf.2.1; omega), hO2⟩
      · rintro t3 ⟨_, v59, vl, v60, vf, hO3⟩
        have e27t : t3 161 27 = n := (hO3 161 27 (by omega)).trans e27
        refine s_R_lead_76 ⟨fun _ => ?_, fun z => by omega⟩
        rw [w32_id (by omega) (by omega)]
        refine ih t3 ⟨by omega, v59, vl, ⟨l + 1, by omega, by omega, by rw [cd_succ l0, if_pos l2]; omega, by rw [v60, nfs], fun l' c hf hx => vf l' c hf (by have := hf.2.2.1; omega)⟩, hO3⟩
      · rintro k t3 hk ⟨k0, v59, vl, v60, vf, hO3⟩ ih2
        have e27t : t3 161 27 = n := (hO3 161 27 (by omega)).trans e27
        have nlc := nl_succ (ℓ := tb m) k0
        have nb1 := nl_b (ℓ := tb m) k0
        refine s_R_lead_76 ⟨fun z => by omega, fun _ => ⟨fun z => ?_, fun z => ?_⟩⟩
        · have hb : tb m k = false := by
            cases hb : tb m k with
            | false => rfl
            | true => exact absurd ((bit_1 m0 (by omega) (by omega) (by omega)).mpr hb) z
          rw [hb] at nlc; simp at nlc
          have hf0 : Fp n (tb m) l k := ⟨l0, by omega, hk, l2, hb⟩
          have hfl := fi_lt hf0
          have hfe : fi n (tb m) l k = t3 161 60 := by unfold fi; omega
          refine ⟨⟨by omega, by omega⟩, fun t4 e4 => ?_⟩
          have e460 : t4 161 60 = t3 161 60 := by rw [e4, up_ne (by omega)]
          refine ⟨⟨by omega, by omega⟩, fun t5 e5 t6 e6 => ?_⟩
          have e560 : t5 161 60 = t3 161 60 := by rw [e5, up_ne (by omega)]; exact e460
          rw [e460] at e5
          rw [e560, w32_id (by omega) (by omega)] at e6
          rw [w32_id (by omega) (by omega)]
          refine ih2 t6 ⟨by omega, by rw [e6, up_ne (by omega), e5, up_ne (by omega), e4, up_ne (by omega)]; exact v59, fun l' g0 g1 g2 => by rw [e6, up_ne (by omega), e5, up_ne (by omega), e4, up_ne (by omega)]; exact vl l' g0 g1 g2, by rw [e6, up_same]; omega, fun l' c hf hx => ?_, fun b j hb' => ?_⟩
          · by_cases g : l' = l ∧ c = k
            · rw [g.1, g.2, hfe]
              refine ⟨?_, ?_⟩
              · rw [e6, up_ne (by omega), e5, up_ne (by omega), e4, up_same, l3]
              · rw [e6, up_ne (by omega), e5, up_same]
            · have hne : fi n (tb m) l' c ≠ fi n (tb m) l k := fun e => g (fi_inj hf hf0 e)
              have := vf l' c hf (by omega)
              refine ⟨?_, ?_⟩
              · rw [e6, up_ne (by omega), e5, up_ne (by omega), e4, up_ne (by omega)]; exact this.1
              · rw [e6, up_ne (by omega), e5, up_ne (by omega), e4, up_ne (by omega)]; exact this.2
          · rw [e6, up_ne (by omega), e5, up_ne (by omega), e4, up_ne (by omega)]; exact hO3 b j hb'
        · have hb := (bit_1 m0 (by omega) (by omega) (by omega)).mp z
          rw [hb] at nlc; simp at nlc
          rw [w32_id (by omega) (by omega)]
          refine ih2 t3 ⟨by omega, v59, vl, by omega, fun l' c hf hx => vf l' c hf ?_, hO3⟩
          have : c ≠ k := fun e => by have h3 := hf.2.2.2.2; rw [e, hb] at h3; cases h3
          omega
  · rintro k t hk ⟨k0, t59, t60, tl, hO⟩ ih
    have e27t : t 161 27 = n := (hO 161 27 (by omega)).trans e27
    have hck := cd_b (ℓ := tb m) k0
    have cds' := cd_succ (ℓ := tb m) k0
    refine s_R_lead_12 ⟨fun q => by omega, fun _ => ⟨fun q => ?_, fun q => ?_⟩⟩
    · have hb := (bit_ne m0 (by omega) k0 (by omega)).mp q
      rw [if_pos hb] at cds'
      refine ⟨⟨by omega, by omega⟩, fun t3 e3 t4 e4 => ?_⟩
      have e359 : t3 161 59 = t 161 59 := by rw [e3, up_ne (by omega)]
      rw [e359, w32_id (by omega) (by omega)] at e4
      rw [w32_id (by omega) (by omega)]
      refine ih t4 ⟨by omega, by rw [e4, up_same]; omega, by rw [e4, up_ne (by omega), e3, up_ne (by omega)]; exact t60, fun l l0 l1 hl => ?_, fun b j hb' => ?_⟩
      · by_cases g : l = k
        · subst g; rw [e4, up_ne (by omega), e3, t59, up_same]
        · have := cd_lt l0 (show l < k by omega) hl
          rw [e4, up_ne (by omega), e3, up_ne (by omega)]; exact tl l l0 (by omega) hl
      · rw [e4, up_ne (by omega), e3, up_ne (by omega)]; exact hO b j hb'
    · have hb := (bit_eq m0 (by omega) k0 (by omega)).mp q
      rw [if_neg (by rw [hb]; simp)] at cds'
      rw [w32_id (by omega) (by omega)]
      refine ih t ⟨by omega, by omega, t60, fun l l0 l1 hl => tl l l0 ?_ hl, hO⟩
      have : l ≠ k := fun e => by rw [e, hb] at hl; cases hl
      omega
  · rw [e2, up_ne (by omega), e1, up_same]; unfold cd; rw [sR_nil (by omega)]
theorem R_spanBy_s {p n m x : Int} {T : Int → Int} (hR : RW σ p n T) (m0 : 0 ≤ m) (m1 : m < 2 ^ n.toNat) (hL : RL σ n m) (x0 : 0 ≤ x) (h : ∀ σ', SP σ' 172 (cd (tb m) n) p n (spn p n (tb m) x) → Off (fun b j => b = 172) σ σ' → Q 0 σ') : Tri (d + 1) M_R_spanBy [vA 161, vI x] σ Q := by
  obtain ⟨b1, b2, b3, b4⟩ := hR.1.1.b
  have e27 := hR.2.2.1
  have e26 := hR.2.1
  obtain ⟨l59, l60, ll, lf⟩ := hL
  have hcn := cd_b (ℓ := tb m) (w := n) (by omega)
  have nb := nf25 (n := n) (ℓ := tb m) (m := n) b4 (by omega) (by omega)
  refine t_R_spanBy (fun hxi => ?_)
  unfold inI at hxi
  refine loop_up (P := fun r t => L (d + 1) M_R_spanBy 2 [vA 161, vI x, vI r, vU] [] t Q)
    (fun r t => 0 ≤ r ∧ (∀ l c, 0 ≤ l → l < n → tb m l = true → cd (tb m) l < r → 0 ≤ c → c < n → t 172 (5 * cd (tb m) l + c) = if l = c then 1 else 0) ∧ Off (fun b j => b = 172) σ t) (cd (tb m) n) ?_ ?_ 0 hcn.1 σ ⟨by omega, fun l c l0 _ _ g => by have := cd_b (ℓ := tb m) l0; omega, Off_rfl⟩
  · rintro t ⟨_, ht, hO⟩
    have e59 : t 161 59 = cd (tb m) n := (hO 161 59 (by omega)).trans l59
    refine s_R_spanBy_2 ⟨fun _ => ?_, fun q => by omega⟩
    refine loop_up (P := fun f (s : Int × SG) => L (d + 1) M_R_spanBy 61 [vA 161, vU, vI s.1, vI f] [] s.2 Q)
      (fun f s => 0 ≤ f ∧ 0 ≤ s.1 ∧ s.1 ≤ x ∧ (∀ t, 0 ≤ t → dg p s.1 t = dg p x (f + t)) ∧ (∀ l c, 0 ≤ l → l < n → tb m l = true → 0 ≤ c → c < n → s.2 172 (5 * cd (tb m) l + c) = if l = c then 1 else if l < c ∧ tb m c = false ∧ fi n (tb m) l c < f then dg p x (fi n (tb m) l c) else 0) ∧ Off (fun b j => b = 172) σ s.2) (nf n (tb m) n) ?_ ?_ 0 nb.1 (x, t) ⟨by omega, x0, by simp, fun t _ => by simp, fun l c l0 l1 hl c0 c1 => ?_, hO⟩
    · rintro ⟨y, t2⟩ ⟨_, _, _, _, hs, hO2⟩
      simp only at hs hO2 ⊢
      have e60 : t2 161 60 = nf n (tb m) n := (hO2 161 60 (by omega)).trans l60
      refine s_R_spanBy_61 ⟨fun _ => h t2 ⟨rfl, fun l c l0 l1 hl c0 c1 => ?_, EW_spn b1⟩ hO2, fun q => by omega⟩
      have hl' : tb m l = true := hl
      show t2 172 (5 * cd (tb m) l + c) = (if l = c then (1 : Int) else if l < c ∧ tb m c = false then dg p x (fi n (tb m) l c) else 0)
      rw [hs l c l0 l1 hl' c0 c1]
      by_cases g : l = c
      · rw [if_pos g, if_pos g]
      · rw [if_neg g, if_neg g]
        by_cases g2 : l < c ∧ tb m c = false
        · have hf : Fp n (tb m) l c := ⟨l0, g2.1, c1, hl', g2.2⟩
          have := fi_lt hf
          have := nf_mono (ℓ := tb m) (n := n) (a := l + 1) (b := n) (by omega) (by omega) (by omega)
          rw [if_pos g2, if_pos ⟨g2.1, g2.2, by omega⟩]
        · rw [if_neg g2, if_neg (fun z => g2 ⟨z.1, z.2.1⟩)]
    · rintro f ⟨y, t2⟩ hf ⟨f0, y0, yx, hy, hs, hO2⟩ ih
      simp only at y0 yx hy hs hO2 ⊢
      have e60 : t2 161 60 = nf n (tb m) n := (hO2 161 60 (by omega)).trans l60
      have e26t : t2 161 26 = p := (hO2 161 26 (by omega)).trans e26
      obtain ⟨l, c, hfp, hfi⟩ := fi_sur (n := n) (ℓ := tb m) (by omega) f0 hf
      obtain ⟨q1, q2, q3, q4, q5⟩ := id hfp
      obtain ⟨z1, z2⟩ := lf l c hfp
      rw [hfi] at z1 z2
      have e188 : t2 188 f = cd (tb m) l := (hO2 188 f (by omega)).trans z1
      have e189 : t2 189 f = c := (hO2 189 f (by omega)).trans z2
      have hcl := cd_b (ℓ := tb m) q1
      refine s_R_spanBy_61 ⟨fun q => by omega, fun _ => ?_⟩
      rw [e188, e189, e26t, w32_id (x := 5 * cd (tb m) l) (by omega) (by omega), w32_id (x := 5 * cd (tb m) l + c) (by omega) (by omega), w32_id (x := f + 1) (by omega) (by omega), Int.tmod_eq_emod_of_nonneg y0]
      refine ⟨⟨f0, by omega⟩, ⟨f0, by omega⟩, by omega, ⟨by omega, by omega⟩, fun t3 e3 => ?_⟩
      have e26' : t3 161 26 = p := by rw [e3, up_ne (by omega)]; exact e26t
      have hq0 : 0 ≤ y / p := Int.ediv_nonneg y0 (by omega)
      have hq1 : y / p ≤ y := Int.ediv_le_self _ y0
      rw [e26', Int.tdiv_eq_ediv_of_nonneg y0, w32_id (x := y / p) (by omega) (by omega)]
      refine ⟨by omega, ih (y / p, t3) ⟨by omega, hq0, by simp only; omega, fun t ht => ?_, fun l' c' l0 l1 hl c0 c1 => ?_, fun b j hb => by show t3 b j = σ b j; rw [e3, up_ne (by omega)]; exact hO2 b j hb⟩⟩
      · simp only
        rw [← dg_succ ht (by omega), hy (t + 1) (by omega)]
        congr 1; omega
      · simp only
        have hcl' := cd_b (ℓ := tb m) l0
        by_cases g : l' = l ∧ c' = c
        · rw [g.1, g.2, e3, up_same, if_neg (by omega), if_pos ⟨q2, q5, by omega⟩, hfi]
          have := hy 0 (by omega)
          rw [dg_zero, show f + 0 = f by omega] at this
          exact this
        · have hne : 5 * cd (tb m) l' + c' ≠ 5 * cd (tb m) l + c := fun e => g (by
            have e1 : cd (tb m) l' = cd (tb m) l ∧ c' = c := by omega
            exact ⟨cd_inj l0 q1 hl q4 e1.1, e1.2⟩)
          rw [e3, up_ne (by omega), hs l' c' l0 l1 hl c0 c1]
          by_cases g3 : l' = c'
          · rw [if_pos g3, if_pos g3]
          · rw [if_neg g3, if_neg g3]
            by_cases g2 : l' < c' ∧ tb m c' = false
            · have hf' : Fp n (tb m) l' c' := ⟨l0, g2.1, c1, hl, g2.2⟩
              have hnf : fi n (tb m) l' c' ≠ f := fun e => g (fi_inj hf' hfp (by omega))
              by_cases g4 : fi n (tb m) l' c' < f
              · rw [if_pos ⟨g2.1, g2.2, g4⟩, if_pos ⟨g2.1, g2.2, by omega⟩]
              · rw [if_neg (fun z => g4 z.2.2), if_neg (fun z => by have := z.2.2; omega)]
            · rw [if_neg (fun z => g2 ⟨z.1, z.2.1⟩), if_neg (fun z => g2 ⟨z.1, z.2.1⟩)]
    · simp only
      rw [ht l c l0 l1 hl (cd_lt l0 l1 hl) c0 c1]
      by_cases g : l = c
      · rw [if_pos g, if_pos g]
      · rw [if_neg g, if_neg g, if_neg (fun z => by
          have hfl := fi_lt (n := n) (ℓ := tb m) (l := l) (c := c) ⟨l0, z.1, c1, hl, z.2.1⟩
          have := (nf25 (n := n) (ℓ := tb m) (m := l) b4 l0 (by omega)).1
          omega)]
  · rintro r t hr ⟨r0, ht, hO⟩ ih
    have e59 : t 161 59 = cd (tb m) n := (hO 161 59 (by omega)).trans l59
    obtain ⟨l, l0, l1, l2, l3⟩ := cd_sel (ℓ := tb m) (w := n) (by omega) r0 hr
    have e187 : t 187 r = l := by rw [hO 187 r (by omega), ← l3]; exact ll l l0 l1 l2
    refine s_R_spanBy_2 ⟨fun q => by omega, fun _ => ?_⟩
    refine loop_up (P := fun k t => L (d + 1) M_R_spanBy 12 [vA 161, vI x, vI r, vI k] [] t Q)
      (fun k t2 => 0 ≤ k ∧ (∀ l c, 0 ≤ l → l < n → tb m l = true → 0 ≤ c → c < n → (cd (tb m) l < r ∨ (cd (tb m) l = r ∧ c < k)) → t2 172 (5 * cd (tb m) l + c) = if l = c then 1 else 0) ∧ Off (fun b j => b = 172) σ t2) n ?_ ?_ 0 (by omega) t ⟨by omega, fun l c l0 l1 hl c0 c1 g => ht l c l0 l1 hl (by omega) c0 c1, hO⟩
    · rintro t2 ⟨_, ht2, hO2⟩
      have e27t : t2 161 27 = n := (hO2 161 27 (by omega)).trans e27
      refine s_R_spanBy_12 ⟨fun _ => ?_, fun q => by omega⟩
      rw [w32_id (by omega) (by omega)]
      exact ih t2 ⟨by omega, fun l c l0 l1 hl g c0 c1 => ht2 l c l0 l1 hl c0 c1 (by omega), hO2⟩
    · rintro k t2 hk ⟨k0, ht2, hO2⟩ ih2
      have e27t : t2 161 27 = n := (hO2 161 27 (by omega)).trans e27
      have e187 : t2 187 r = l := by rw [hO2 187 r (by omega), ← l3]; exact ll l l0 l1 l2
      refine s_R_spanBy_12 ⟨fun q => by omega, fun _ => ?_⟩
      rw [e187, w32_id (x := 5 * r) (by omega) (by omega), w32_id (x := 5 * r + k) (by omega) (by omega), w32_id (x := k + 1) (by omega) (by omega)]
      have fin : ∀ v t3, v = (if l = k then 1 else 0) → t3 = up t2 172 (5 * r + k) v → L (d + 1) M_R_spanBy 12 [vA 161, vI x, vI r, vI (k + 1)] [] t3 Q := fun v t3 hv e3 => by
        refine ih2 t3 ⟨by omega, fun l' c l0' l1' hl c0 c1 g => ?_, fun b j hb => by rw [e3, up_ne (by omega)]; exact hO2 b j hb⟩
        have hcl' := cd_b (ℓ := tb m) l0'
        by_cases g2 : cd (tb m) l' = r ∧ c = k
        · have : l' = l := cd_inj l0' l0 hl l2 (by omega)
          rw [g2.1, g2.2, e3, up_same, hv, this]
        · rw [e3, up_ne (by omega)]; exact ht2 l' c l0' l1' hl c0 c1 (by omega)
      refine ⟨⟨r0, by omega⟩, fun q => ⟨⟨by omega, by omega⟩, fun t3 e3 => fin 0 t3 (by rw [if_neg (fun e => q e.symm)]) e3⟩, fun q => ⟨⟨by omega, by omega⟩, fun t3 e3 => fin 1 t3 (by rw [if_pos q.symm]) e3⟩⟩
theorem R_isPart_s {p n many : Int} {T : Int → Int} {E : ES} (hR : RW σ p n T) (hE : SP σ 172 many p n E) (h1 : ∀ σ', ClP p n T E E → Off (fun b j => b = 178 ∨ b = 185) σ σ' → Q 1 σ') (h0 : ∀ σ', ¬ ClP p n T E E → Off (fun b j => b = 178 ∨ b = 185) σ σ' → Q 0 σ') : Tri (d + 4) M_R_isPart [vA 161, vI many] σ Q := by
  obtain ⟨b1, b2, b3, b4⟩ := hR.1.1.b
  have hT := hR.1
  have hm := hE.b (show 0 ≤ n by omega)
  have hEW := hE.2.2
  refine t_R_isPart (fun _ => ?_)
  refine loop_up (P := fun i t => L (d + 4) M_R_isPart 2 [vA 161, vI many, vI i, vU] [] t Q)
    (fun i t => 0 ≤ i ∧ (∀ i' j', 0 ≤ i' → i' < i → i' < j' → j' < many → In p n E (br p n T (fun c => σ 172 (5 * i' + c)) (fun c => σ 172 (5 * j' + c)))) ∧ Off (fun b j => b = 178 ∨ b = 185) σ t) many ?_ ?_ 0 hm.1 σ ⟨by omega, fun i' j' _ _ => by omega, Off_rfl⟩
  · rintro t ⟨_, hall, hO⟩
    refine s_R_isPart_2 ⟨fun _ => h1 t (ClP_of hT (fun l m l0 hlm m1 hl hm' => ?_)) hO, fun q => by omega⟩
    have hcl := cd_lt l0 hlm hl
    have hcm := cd_lt (show 0 ≤ m by omega) m1 hm'
    have hb := cd_b (ℓ := E.1) l0
    have := hall (cd E.1 l) (cd E.1 m) hb.1 (by rw [hE.1]; omega) hcl (by rw [hE.1]; exact hcm)
    exact this.eqv (fun c c0 c1 => br_cg (fun i i0 i1 => hE.row l0 (by omega) hl i i0 i1) (fun i i0 i1 => hE.row (by omega) m1 hm' i i0 i1))
  · rintro i t hi ⟨i0, hall, hO⟩ ih
    refine s_R_isPart_2 ⟨fun q => by omega, fun _ => ?_⟩
    rw [w32_id (by omega) (by omega)]
    refine loop_up (P := fun j t => L (d + 4) M_R_isPart 11 [vA 161, vI many, vI i, vI j] [] t Q)
      (fun j t => i + 1 ≤ j ∧ (∀ j', i < j' → j' < j → In p n E (br p n T (fun c => σ 172 (5 * i + c)) (fun c => σ 172 (5 * j' + c)))) ∧ Off (fun b j => b = 178 ∨ b = 185) σ t) many ?_ ?_ (i + 1) (by omega) t ⟨by omega, fun j' _ _ => by omega, hO⟩
    · rintro t2 ⟨_, hall2, hO2⟩
      refine s_R_isPart_11 ⟨fun _ => ?_, fun q => by omega⟩
      rw [w32_id (by omega) (by omega)]
      refine ih t2 ⟨by omega, fun i' j' i0' i1' q1 q2 => ?_, hO2⟩
      by_cases g : i' = i
      · subst g; exact hall2 j' q1 q2
      · exact hall i' j' i0' (by omega) q1 q2
    · rintro j t2 hj ⟨j0, hall2, hO2⟩ ih2
      have hR2 : RW t2 p n T := hR.fr (fun k _ _ => hO2 161 k (by omega)) (fun k => hO2 166 k (by omega)) (fun k => hO2 196 k (by omega))
      have e172 : ∀ k, t2 172 k = σ 172 k := fun k => hO2 172 k (by omega)
      refine s_R_isPart_11 ⟨fun q => by omega, fun _ => ?_⟩
      rw [w32_id (x := 5 * i) (by omega) (by omega), w32_id (x := 5 * j) (by omega) (by omega), w32_id (x := j + 1) (by omega) (by omega)]
      refine R_bracketOf_s hR2 kd_172 kd_172 (by omega) kd_178 (by omega) (by omega) (by omega) (by omega) (by omega) (by omega) (by omega) (by omega) (by omega) (by omega) (by omega) (by omega) (fun c c0 c1 => by rw [e172]; exact hE.rowi (by omega) i0 hi c c0 c1) (fun c c0 c1 => by rw [e172]; exact hE.rowi (by omega) (by omega) hj c c0 c1) (fun t3 hb3 hO3 => ?_)
      have hb4 : ∀ c, 0 ≤ c → c < n → t3 178 (0 + c) = br p n T (fun c => σ 172 (5 * i + c)) (fun c => σ 172 (5 * j + c)) c := fun c c0 c1 => by
        rw [show (0 : Int) + c = c by omega, hb3 c c0 c1]
        exact br_cg (fun k _ _ => e172 _) (fun k _ _ => e172 _)
      have hO3' : Off (fun b j => b = 178 ∨ b = 185) σ t3 := Off_trans hO2 (Off_mono hO3 (fun b j q => by omega))
      refine R_holds_s (hR2.fr (fun k _ _ => hO3 161 k (by omega)) (fun k => hO3 166 k (by omega)) (fun k => hO3 196 k (by omega))) (hE.cg (fun k => hO3' 172 k (by omega))) kd_172 (by omega) kd_178 (by omega) (by omega) (by omega) (by omega) (fun c c0 c1 => by rw [hb4 c c0 c1]; exact ⟨Int.emod_nonneg _ (by omega), Int.emod_lt_of_pos _ (by omega)⟩) (fun t4 hil hO4 => ⟨fun _ => ?_, fun q => by omega⟩) (fun t4 hil hO4 => ⟨fun q => by omega, fun _ => ?_⟩)
      · have hin := (In_ild (show 0 ≤ n by omega)).mpr hil
        refine ih2 t4 ⟨by omega, fun j' q1 q2 => ?_, Off_trans hO3' (Off_mono hO4 (fun b j q => by omega))⟩
        by_cases g : j' = j
        · subst g; exact hin.eqv hb4
        · exact hall2 j' q1 (by omega)
      · refine h0 t4 (fun hc => ?_) (Off_trans hO3' (Off_mono hO4 (fun b j q => by omega)))
        obtain ⟨l, l0, l1, l2, _, l4⟩ := hE.rowb (show 0 ≤ n by omega) i0 hi
        obtain ⟨m, m0, m1, m2, _, m4⟩ := hE.rowb (show 0 ≤ n by omega) (show 0 ≤ j by omega) hj
        have hin := hc _ _ (In_row hEW l0 l1 l2) (In_row hEW m0 m1 m2)
        have := (In_ild (show 0 ≤ n by omega)).mp (hin.eqv (u' := fun c => t3 178 (0 + c)) (fun c c0 c1 => by
          rw [hb4 c c0 c1]
          exact br_cg (fun k k0 k1 => (l4 k k0 k1).1.symm) (fun k k0 k1 => (m4 k k0 k1).1.symm)))
        omega
theorem R_isIdeal_s {p n many : Int} {T : Int → Int} {E : ES} (hR : RW σ p n T) (hE : SP σ 172 many p n E) (h1 : ∀ σ', ClI p n T E → Off (fun b j => b = 176 ∨ b = 178 ∨ b = 185) σ σ' → Q 1 σ') (h0 : ∀ σ', ¬ ClI p n T E → Off (fun b j => b = 176 ∨ b = 178 ∨ b = 185) σ σ' → Q 0 σ') : Tri (d + 4) M_R_isIdeal [vA 161, vI many] σ Q := by
  obtain ⟨b1, b2, b3, b4⟩ := hR.1.1.b
  have hT := hR.1
  have hm := hE.b (show 0 ≤ n by omega)
  have hEW := hE.2.2
  refine t_R_isIdeal (fun _ => ?_)
  refine loop_up (P := fun i t => L (d + 4) M_R_isIdeal 2 [vA 161, vI many, vI i, vU] [] t Q)
    (fun i t => 0 ≤ i ∧ (∀ i' j', 0 ≤ i' → i' < i → 0 ≤ j' → j' < n → In p n E (br p n T (fun c => σ 172 (5 * i' + c)) (EU.2 j'))) ∧ Off (fun b j => b = 176 ∨ b = 178 ∨ b = 185) σ t) many ?_ ?_ 0 hm.1 σ ⟨by omega, fun i' j' _ _ => by omega, Off_rfl⟩
  · rintro t ⟨_, hall, hO⟩
    refine s_R_isIdeal_2 ⟨fun _ => h1 t (ClI_of hT (fun l i l0 l1 hl i0 i1 => ?_)) hO, fun q => by omega⟩
    have hcl := cd_lt l0 l1 hl
    have hb := cd_b (ℓ := E.1) l0
    have := hall (cd E.1 l) i hb.1 (by rw [hE.1]; omega) i0 i1
    exact this.eqv (fun c c0 c1 => br_cg (fun i i0 i1 => hE.row l0 l1 hl i i0 i1) (fun i i0 i1 => rfl))
  · rintro i t hi ⟨i0, hall, hO⟩ ih
    refine s_R_isIdeal_2 ⟨fun q => by omega, fun _ => ?_⟩
    refine loop_up (P := fun j t => L (d + 4) M_R_isIdeal 9 [vA 161, vI many, vI i, vI j] [] t Q)
      (fun j t => 0 ≤ j ∧ (∀ j', 0 ≤ j' → j' < j → In p n E (br p n T (fun c => σ 172 (5 * i + c)) (EU.2 j'))) ∧ Off (fun b j => b = 176 ∨ b = 178 ∨ b = 185) σ t) n ?_ ?_ 0 (by omega) t ⟨by omega, fun j' _ _ => by omega, hO⟩
    · rintro t2 ⟨_, hall2, hO2⟩
      have e27 : t2 161 27 = n := (hO2 161 27 (by omega)).trans hR.2.2.1
      refine s_R_isIdeal_9 ⟨fun _ => ?_, fun q => by omega⟩
      rw [w32_id (by omega) (by omega)]
      refine ih t2 ⟨by omega, fun i' j' i0' i1' q1 q2 => ?_, hO2⟩
      by_cases g : i' = i
      · subst g; exact hall2 j' q1 q2
      · exact hall i' j' i0' (by omega) q1 q2
    · rintro j t2 hj ⟨j0, hall2, hO2⟩ ih2
      have hR2 : RW t2 p n T := hR.fr (fun k _ _ => hO2 161 k (by omega)) (fun k => hO2 166 k (by omega)) (fun k => hO2 196 k (by omega))
      have e27 : t2 161 27 = n := hR2.2.2.1
      refine s_R_isIdeal_9 ⟨fun q => by omega, fun _ => ?_⟩
      rw [w32_id (x := 5 * i) (by omega) (by omega), w32_id (x := j + 1) (by omega) (by omega)]
      refine R_unit_s hR2 (by omega) kd_176 (by omega) (by omega) (fun t3 hu hO3 => ?_)
      have hO3' : Off (fun b j => b = 176 ∨ b = 178 ∨ b = 185) σ t3 := Off_trans hO2 (Off_mono hO3 (fun b j q => by omega))
      have e172 : ∀ k, t3 172 k = σ 172 k := fun k => hO3' 172 k (by omega)
      have hu2 : ∀ c, 0 ≤ c → c < n → t3 176 (0 + c) = EU.2 j c := fun c c0 c1 => by
        rw [show (0 : Int) + c = c by omega, hu c c0 c1]
        show _ = (if j = c then (1 : Int) else 0)
        by_cases e : c = j
        · rw [if_pos e, if_pos e.symm]
        · rw [if_neg e, if_neg (fun z => e z.symm)]
      have hub := (EWU (p := p) (w := n) b1 j j0 hj rfl).1
      have hR3 : RW t3 p n T := hR.fr (fun k _ _ => hO3' 161 k (by omega)) (fun k => hO3' 166 k (by omega)) (fun k => hO3' 196 k (by omega))
      refine R_bracketOf_s hR3 kd_172 kd_176 (by omega) kd_178 (by omega) (by omega) (by omega) (by omega) (by omega) (by omega) (by omega) (by omega) (by omega) (by omega) (by omega) (by omega) (fun c c0 c1 => by rw [e172]; exact hE.rowi (by omega) i0 hi c c0 c1) (fun c c0 c1 => by rw [hu2 c c0 c1]; exact hub c c0 c1) (fun t4 hb3 hO4 => ?_)
      have hb4 : ∀ c, 0 ≤ c → c < n → t4 178 (0 + c) = br p n T (fun c => σ 172 (5 * i + c)) (EU.2 j) c := fun c c0 c1 => by
        rw [show (0 : Int) + c = c by omega, hb3 c c0 c1]
        exact br_cg (fun k _ _ => e172 _) hu2
      have hO4' : Off (fun b j => b = 176 ∨ b = 178 ∨ b = 185) σ t4 := Off_trans hO3' (Off_mono hO4 (fun b j q => by omega))
      refine R_holds_s (hR.fr (fun k _ _ => hO4' 161 k (by omega)) (fun k => hO4' 166 k (by omega)) (fun k => hO4' 196 k (by omega))) (hE.cg (fun k => hO4' 172 k (by omega))) kd_172 (by omega) kd_178 (by omega) (by omega) (by omega) (by omega) (fun c c0 c1 => by rw [hb4 c c0 c1]; exact ⟨Int.emod_nonneg _ (by omega), Int.emod_lt_of_pos _ (by omega)⟩) (fun t5 hil hO5 => ⟨fun _ => ?_, fun q => by omega⟩) (fun t5 hil hO5 => ⟨fun q => by omega, fun _ => ?_⟩)
      · have hin := (In_ild (show 0 ≤ n by omega)).mpr hil
        refine ih2 t5 ⟨by omega, fun j' q1 q2 => ?_, Off_trans hO4' (Off_mono hO5 (fun b j q => by omega))⟩
        by_cases g : j' = j
        · subst g; exact hin.eqv hb4
        · exact hall2 j' q1 (by omega)
      · refine h0 t5 (fun hc => ?_) (Off_trans hO4' (Off_mono hO5 (fun b j q => by omega)))
        obtain ⟨l, l0, l1, l2, _, l4⟩ := hE.rowb (show 0 ≤ n by omega) i0 hi
        have hin := hc _ (EU.2 j) (In_row hEW l0 l1 l2)
        have := (In_ild (show 0 ≤ n by omega)).mp (hin.eqv (u' := fun c => t4 178 (0 + c)) (fun c c0 c1 => by
          rw [hb4 c c0 c1]
          exact br_cg (fun k k0 k1 => (l4 k k0 k1).1.symm) (fun k k0 k1 => rfl)))
        omega
theorem R_isAbelianPart_s {p n many : Int} {T : Int → Int} {E : ES} (hR : RW σ p n T) (hE : SP σ 172 many p n E) (h1 : ∀ σ', ClP p n T E E0 → Off (fun b j => b = 171 ∨ b = 178 ∨ b = 185) σ σ' → Q 1 σ') (h0 : ∀ σ', ¬ ClP p n T E E0 → Off (fun b j => b = 171 ∨ b = 178 ∨ b = 185) σ σ' → Q 0 σ') : Tri (d + 5) M_R_isAbelianPart [vA 161, vI many] σ Q := by
  refine t_R_isAbelianPart (fun _ => R_brackets_s hR hE hE kd_172 kd_172 kd_171 (by omega) (by omega) (by omega) (by omega) (by omega) (fun r s hS hO => ⟨fun q => h0 s (fun hc => q ?_) (Off_mono hO (fun b j q => by omega)), fun q => h1 s ?_ (Off_mono hO (fun b j q => by omega))⟩))
  · rw [hS.1]; exact (cd_E0_iff hR.1 hE.2.2).mpr hc
  · exact (cd_E0_iff hR.1 hE.2.2).mp (by rw [← hS.1]; exact q)
theorem R_endsIn0_s {p n many lo : Int} {T : Int → Int} {E : ES} (hR : RW σ p n T) (hE : SP σ 172 many p n E) (hP : ClP p n T E E) (h1 : ∀ σ', cd (ser p n T (lo ≠ 0) E many.toNat).1 n = 0 → Off (fun b j => b = 170 ∨ b = 171 ∨ b = 174 ∨ b = 178 ∨ b = 185) σ σ' → Q 1 σ') (h0 : ∀ σ', cd (ser p n T (lo ≠ 0) E many.toNat).1 n ≠ 0 → Off (fun b j => b = 170 ∨ b = 171 ∨ b = 174 ∨ b = 178 ∨ b = 185) σ σ' → Q 0 σ') : Tri (d + 5) M_R_endsIn0 [vA 161, vI many, vI lo] σ Q := by
  obtain ⟨b1, b2, b3, b4⟩ := hR.1.1.b
  have hT := hR.1
  have hEW := hE.2.2
  rw [hE.1] at h1 h0
  refine t_R_endsIn0 (fun _ _ => R_copySpan_s kd_172 kd_170 (by omega) (by omega) (fun s1 hc1 hO1 => ?_))
  refine loop_wf (S := Int × Int × Nat × SG) (P := fun s => L (d + 5) M_R_endsIn0 17 [vA 161, vI many, vI lo, vI s.1, vI s.2.1] [] s.2.2.2 Q)
    (fun s => SP s.2.2.2 170 s.1 p n (ser p n T (lo ≠ 0) E s.2.2.1) ∧ (s.2.1 = -1 ∨ (∃ j, s.2.2.1 = j + 1 ∧ s.2.1 = cd (ser p n T (lo ≠ 0) E j).1 n)) ∧ Off (fun b j => b = 170 ∨ b = 171 ∨ b = 174 ∨ b = 178 ∨ b = 185) σ s.2.2.2) (fun s => 2 * s.1.toNat + if s.1 = s.2.1 then 0 else 1) ?_ (many, -1, 0, s1) ⟨hE.cp b4 hc1, Or.inl rfl, Off_mono hO1 (fun b j q => by omega)⟩
  rintro ⟨now, was, j, t⟩ ⟨hS, hw, hO⟩ ih
  simp only at hS hw hO ⊢
  have hnb := hS.b (show 0 ≤ n by omega)
  have hnow := hS.1
  refine s_R_endsIn0_17 ⟨fun q => ⟨fun q2 => by omega, fun _ => h1 t (ser_zero hT hEW hP (j := j) (by omega)) hO⟩, fun q => ⟨fun q2 => ⟨fun _ => h0 t ?_ hO, fun q3 => by omega⟩, fun q2 => ⟨fun q3 => ?_, fun q3 => ?_⟩⟩⟩
  · rcases hw with hw | ⟨i, hi, hw⟩
    · omega
    · subst hi
      exact ser_never (lower := lo ≠ 0) hT hEW hP (j := i) (by omega) (by omega)
  · have step : ∀ t2, SP t2 170 now p n (ser p n T (lo ≠ 0) E j) → SP t2 174 now p n (ser p n T (lo ≠ 0) E j) → Off (fun b j => b = 170 ∨ b = 171 ∨ b = 174 ∨ b = 178 ∨ b = 185) σ t2 → Tri (d + 4) M_R_brackets [vA 161, vA 170, vI now, vA 174, vI now, vA 171] t2 (fun r7 σ7 => Tri (d + 4) M_R_copySpan [vA 161, vA 171, vA 170] σ7 (fun r8 σ8 => L (d + 5) M_R_endsIn0 17 [vA 161, vI many, vI lo, vI r7, vI now] [] σ8 Q)) := fun t2 hA hB hO2 => by
      have hR2 : RW t2 p n T := hR.fr (fun k _ _ => hO2 161 k (by omega)) (fun k => hO2 166 k (by omega)) (fun k => hO2 196 k (by omega))
      refine R_brackets_s hR2 hA hB kd_170 kd_174 kd_171 (by omega) (by omega) (by omega) (by omega) (by omega) (fun r t3 hS3 hO3 => R_copySpan_s kd_171 kd_170 (by omega) (by omega) (fun t4 hc4 hO4 => ?_))
      have hser : SP t4 170 r p n (ser p n T (lo ≠ 0) E (j + 1)) := by
        show SP t4 170 r p n (brk p n T (ser p n T (lo ≠ 0) E j) (if lo ≠ 0 then E else ser p n T (lo ≠ 0) E j))
        rw [if_neg (by omega)]
        exact hS3.cp b4 hc4
      have hdn := cd_le (ℓ := (ser p n T (lo ≠ 0) E (j + 1)).1) (ℓ' := (ser p n T (lo ≠ 0) E j).1) (w := n) (fun l l0 l1 hl => In_leads b1 (EW_ser (T := T) (lower := lo ≠ 0) hT.1.pr (by omega) hEW (j + 1)) (EW_ser (T := T) (lower := lo ≠ 0) hT.1.pr (by omega) hEW j) (ser_down hT hEW hP j) l0 l1 hl)
      have hr := hser.1
      have hrb := hser.b (show 0 ≤ n by omega)
      refine ih (r, now, j + 1, t4) ⟨hser, Or.inr ⟨j, rfl, hnow⟩, Off_trans hO2 (Off_trans (Off_mono hO3 (fun b j q => by omega)) (Off_mono hO4 (fun b j q => by omega)))⟩ ?_
      simp only
      rw [if_neg q2]
      split <;> omega
    refine R_copySpan_s kd_170 kd_174 (by omega) (by omega) (fun t2 hc2 hO2 => step t2 (hS.cg (fun k => hO2 170 k (by omega))) (hS.cp b4 hc2) (Off_trans hO (Off_mono hO2 (fun b j q => by omega))))
  · have hR2 : RW t p n T := hR.fr (fun k _ _ => hO 161 k (by omega)) (fun k => hO 166 k (by omega)) (fun k => hO 196 k (by omega))
    refine R_brackets_s hR2 hS (hE.cg (fun k => hO 172 k (by omega))) kd_170 kd_172 kd_171 (by omega) (by omega) (by omega) (by omega) (by omega) (fun r t3 hS3 hO3 => R_copySpan_s kd_171 kd_170 (by omega) (by omega) (fun t4 hc4 hO4 => ?_))
    have hser : SP t4 170 r p n (ser p n T (lo ≠ 0) E (j + 1)) := by
      show SP t4 170 r p n (brk p n T (ser p n T (lo ≠ 0) E j) (if lo ≠ 0 then E else ser p n T (lo ≠ 0) E j))
      rw [if_pos q3]
      exact hS3.cp b4 hc4
    have hdn := cd_le (ℓ := (ser p n T (lo ≠ 0) E (j + 1)).1) (ℓ' := (ser p n T (lo ≠ 0) E j).1) (w := n) (fun l l0 l1 hl => In_leads b1 (EW_ser (T := T) (lower := lo ≠ 0) hT.1.pr (by omega) hEW (j + 1)) (EW_ser (T := T) (lower := lo ≠ 0) hT.1.pr (by omega) hEW j) (ser_down hT hEW hP j) l0 l1 hl)
    have hr := hser.1
    have hrb := hser.b (show 0 ≤ n by omega)
    refine ih (r, now, j + 1, t4) ⟨hser, Or.inr ⟨j, rfl, hnow⟩, Off_trans hO (Off_trans (Off_mono hO3 (fun b j q => by omega)) (Off_mono hO4 (fun b j q => by omega)))⟩ ?_
    simp only
    rw [if_neg q2]
    split <;> omega
end RSP
