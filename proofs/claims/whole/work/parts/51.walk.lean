/-! ===== the class's walk over all SPANS of one SIZE ===== -/
theorem fi_sur {n i : Int} {ℓ : Int → Bool} (hn : 0 ≤ n) (h0 : 0 ≤ i) (h1 : i < nf n ℓ n) : ∃ l c, Fp n ℓ l c ∧ fi n ℓ l c = i := by
  have kc : ∀ l, 0 ≤ l → ℓ l = true → ∀ j, 0 ≤ j → ∀ hi, l + 1 ≤ hi → hi ≤ n → j < nl ℓ (l + 1) hi → ∃ c, l < c ∧ c < hi ∧ ℓ c = false ∧ nl ℓ (l + 1) c = j := by
    intro l l0 hl j j0
    refine up_ind (P := fun hi => hi ≤ n → j < nl ℓ (l + 1) hi → ∃ c, l < c ∧ c < hi ∧ ℓ c = false ∧ nl ℓ (l + 1) c = j) ?_ ?_
    · intro _ h; unfold nl at h; rw [sR_nil (by omega)] at h; omega
    · intro k hk ih h2 h3
      by_cases h4 : j < nl ℓ (l + 1) k
      · obtain ⟨c, q1, q2, q3, q4⟩ := ih (by omega) h4
        exact ⟨c, q1, by omega, q3, q4⟩
      · rw [nl_succ hk] at h3
        cases hb : ℓ k with
        | true => rw [hb] at h3; simp at h3; omega
        | false => rw [hb] at h3; simp at h3; exact ⟨k, by omega, by omega, hb, by omega⟩
  have kl : ∀ m, 0 ≤ m → m ≤ n → i < nf n ℓ m → ∃ l c, Fp n ℓ l c ∧ fi n ℓ l c = i := by
    refine up_ind (P := fun m => m ≤ n → i < nf n ℓ m → ∃ l c, Fp n ℓ l c ∧ fi n ℓ l c = i) ?_ ?_
    · intro _ h; unfold nf at h; rw [sR_nil (by omega)] at h; omega
    · intro k hk ih h2 h3
      by_cases h4 : i < nf n ℓ k
      · exact ih (by omega) h4
      · rw [nf_succ hk] at h3
        cases hb : ℓ k with
        | false => rw [hb] at h3; simp at h3; omega
        | true =>
          rw [hb] at h3; simp at h3
          obtain ⟨c, q1, q2, q3, q4⟩ := kc k hk hb (i - nf n ℓ k) (by omega) n (by omega) (by omega) (by omega)
          exact ⟨k, c, ⟨hk, q1, q2, hb, q3⟩, by unfold fi; omega⟩
  exact kl n hn (by omega) h1
/-- the walk stands at a set of leads and a code -/
def WS (σ : SG) (p n z m x : Int) : Prop := (σ 61 3 = p ∧ σ 61 4 = n ∧ σ 61 5 = z ∧ σ 61 6 = m) ∧ (0 ≤ m ∧ m < 2 ^ n.toNat ∧ bt m = z) ∧ (0 ≤ x ∧ x < p ^ (nf n (tb m) n).toNat) ∧ σ 61 2 = nf n (tb m) n ∧ (∀ l c, Fp n (tb m) l c → σ 65 (fi n (tb m) l c) = 5 * l + c) ∧ EC σ 62 p n (spn p n (tb m) x)
theorem WS.cg {σ σ' : SG} {p n z m x : Int} (h : WS σ p n z m x) (h1 : ∀ b k, 61 ≤ b → b ≤ 65 → σ' b k = σ b k) : WS σ' p n z m x := by
  obtain ⟨⟨a1, a2, a3, a4⟩, b, c, d, e, f⟩ := h
  refine ⟨⟨?_, ?_, ?_, ?_⟩, b, c, ?_, fun l c' hf => ?_, f.cg (fun k => h1 62 k (by omega) (by omega)) (fun k => h1 63 k (by omega) (by omega))⟩
  · rw [h1 61 3 (by omega) (by omega)]; exact a1
  · rw [h1 61 4 (by omega) (by omega)]; exact a2
  · rw [h1 61 5 (by omega) (by omega)]; exact a3
  · rw [h1 61 6 (by omega) (by omega)]; exact a4
  · rw [h1 61 2 (by omega) (by omega)]; exact d
  · rw [h1 65 _ (by omega) (by omega)]; exact e l c' hf
section WALK
variable {d : Nat} {σ : SG} {Q : Int → SG → Prop}
theorem JI_bitCount_s {x : Int} (h0 : 0 ≤ x) (h1 : x < 32) (h : Q (bt x) σ) : Tri (d + 1) M_JI_bitCount [vI x] σ Q := by
  refine t_JI_bitCount (fun _ => ?_)
  obtain ⟨n, rfl⟩ := nat_of h0
  have key : ∀ x : Nat, x < 32 → bt (x : Int) = (and32 (w32 ((w32 ((and32 (w32 ((w32 ((and32 (w32 ((x : Int) - (and32 (ushr32 (x : Int) 1) 1431655765))) 858993459) + (and32 (ushr32 (w32 ((x : Int) - (and32 (ushr32 (x : Int) 1) 1431655765))) 2) 858993459))) + (ushr32 (w32 ((and32 (w32 ((x : Int) - (and32 (ushr32 (x : Int) 1) 1431655765))) 858993459) + (and32 (ushr32 (w32 ((x : Int) - (and32 (ushr32 (x : Int) 1) 1431655765))) 2) 858993459))) 4))) 252645135) + (ushr32 (and32 (w32 ((w32 ((and32 (w32 ((x : Int) - (and32 (ushr32 (x : Int) 1) 1431655765))) 858993459) + (and32 (ushr32 (w32 ((x : Int) - (and32 (ushr32 (x : Int) 1) 1431655765))) 2) 858993459))) + (ushr32 (w32 ((and32 (w32 ((x : Int) - (and32 (ushr32 (x : Int) 1) 1431655765))) 858993459) + (and32 (ushr32 (w32 ((x : Int) - (and32 (ushr32 (x : Int) 1) 1431655765))) 2) 858993459))) 4))) 252645135) 8))) + (ushr32 (w32 ((and32 (w32 ((w32 ((and32 (w32 ((x : Int) - (and32 (ushr32 (x : Int) 1) 1431655765))) 858993459) + (and32 (ushr32 (w32 ((x : Int) - (and32 (ushr32 (x : Int) 1) 1431655765))) 2) 858993459))) + (ushr32 (w32 ((and32 (w32 ((x : Int) - (and32 (ushr32 (x : Int) 1) 1431655765))) 858993459) + (and32 (ushr32 (w32 ((x : Int) - (and32 (ushr32 (x : Int) 1) 1431655765))) 2) 858993459))) 4))) 252645135) + (ushr32 (and32 (w32 ((w32 ((and32 (w32 ((x : Int) - (and32 (ushr32 (x : Int) 1) 1431655765))) 858993459) + (and32 (ushr32 (w32 ((x : Int) - (and32 (ushr32 (x : Int) 1) 1431655765))) 2) 858993459))) + (ushr32 (w32 ((and32 (w32 ((x : Int) - (and32 (ushr32 (x : Int) 1) 1431655765))) 858993459) + (and32 (ushr32 (w32 ((x : Int) - (and32 (ushr32 (x : Int) 1) 1431655765))) 2) 858993459))) 4))) 252645135) 8))) 16))) 63) := by decide +kernel
  rw [key n (by omega)] at h
  exact h
theorem Sp_noteFree_s {l n m : Int} (hn : n ≤ 5) (l0 : 0 ≤ l) (l1 : l < n) (h4 : σ 61 4 = n) (h6 : σ 61 6 = m) (hm0 : 0 ≤ m) (hm : m < 32) (hl : tb m l = true) (h2 : σ 61 2 = nf n (tb m) l)
    (h : ∀ σ', σ' 61 2 = nf n (tb m) (l + 1) → (∀ c, Fp n (tb m) l c → σ' 65 (fi n (tb m) l c) = 5 * l + c) → (∀ k, k < nf n (tb m) l → σ' 65 k = σ 65 k) → Off (fun b j => (b = 61 ∧ j = 2) ∨ b = 65) σ σ' → Q 0 σ') : Tri (d + 1) M_Sp_noteFree [vA 61, vI l] σ Q := by
  have nb : nf n (tb m) (l + 1) ≤ 25 ∧ 0 ≤ nf n (tb m) l := by
    have q1 := nf_b (n := n) (ℓ := tb m) (m := l + 1) (by omega) (by omega)
    have q2 := nf_b (n := n) (ℓ := tb m) (m := l) (by omega) (by omega)
    have : (l + 1) * n ≤ 5 * 5 := Int.mul_le_mul (by omega) (by omega) (by omega) (by omega)
    omega
  have nfs := nf_succ (n := n) (ℓ := tb m) l0
  rw [if_pos hl] at nfs
  refine t_Sp_noteFree (fun _ => ?_)
  rw [w32_id (by omega) (by omega)]
  refine loop_up (P := fun c t => L (d + 1) M_Sp_noteFree 4 [vA 61, vI l, vI c] [] t Q)
    (fun c t => l + 1 ≤ c ∧ t 61 2 = nf n (tb m) l + nl (tb m) (l + 1) c ∧ (∀ c', Fp n (tb m) l c' → c' < c → t 65 (fi n (tb m) l c') = 5 * l + c') ∧ (∀ k, k < nf n (tb m) l → t 65 k = σ 65 k) ∧ Off (fun b j => (b = 61 ∧ j = 2) ∨ b = 65) σ t) n ?_ ?_ (l + 1) (by omega) σ ⟨by omega, by unfold nl; rw [sR_nil (by omega)]; omega, fun c' hf hc => by have := hf.2.1; omega, fun _ _ => rfl, Off_rfl⟩
  · rintro t ⟨_, ht2, ht, hk, hO⟩
    have e4 : t 61 4 = n := (hO 61 4 (by omega)).trans h4
    exact s_Sp_noteFree_4 ⟨fun _ => h t (by rw [ht2, nfs]) (fun c hf => ht c hf hf.2.2.1) hk hO, fun q => by omega⟩
  · rintro c t hc ⟨c0, ht2, ht, hk, hO⟩ ih
    have e4 : t 61 4 = n := (hO 61 4 (by omega)).trans h4
    have e6 : t 61 6 = m := (hO 61 6 (by omega)).trans h6
    have nlc := nl_succ (ℓ := tb m) c0
    have nb1 := nl_b (ℓ := tb m) c0
    refine s_Sp_noteFree_4 ⟨fun q => by omega, fun _ => ⟨fun q => ?_, fun q => ?_⟩⟩
    · rw [e6] at q
      have hb := (bit_ne hm0 (by omega) (by omega) (by omega)).mp q
      rw [w32_id (by omega) (by omega)]
      rw [hb] at nlc; simp at nlc
      refine ih t ⟨by omega, by rw [ht2]; omega, fun c' hf hc' => ht c' hf ?_, hk, hO⟩
      have : c' ≠ c := fun e => by have := hf.2.2.2.2; rw [e, hb] at this; cases this
      omega
    · rw [e6] at q
      have hb := (bit_eq hm0 (by omega) (by omega) (by omega)).mp q
      rw [hb] at nlc; simp at nlc
      have hf0 : Fp n (tb m) l c := ⟨l0, by omega, hc, hl, hb⟩
      have hfl := fi_lt hf0
      have hfe : fi n (tb m) l c = t 61 2 := by unfold fi; omega
      refine ⟨⟨by omega, by omega⟩, fun t3 e3 t4 e4' => ?_⟩
      rw [w32_id (x := l * 5) (by omega) (by omega), w32_id (x := l * 5 + c) (by omega) (by omega)] at e3
      have e32 : t3 61 2 = t 61 2 := by rw [e3, up_ne (by omega)]
      rw [e32, w32_id (by omega) (by omega)] at e4'
      rw [w32_id (by omega) (by omega)]
      refine ih t4 ⟨by omega, by rw [e4', up_same]; omega, fun c' hf hc' => ?_, fun k q => ?_, fun b j hb' => ?_⟩
      · by_cases g : c' = c
        · subst g; rw [e4', up_ne (by omega), e3, hfe, up_same]; omega
        · have hne : fi n (tb m) l c' ≠ fi n (tb m) l c := fun e => g (fi_inj hf hf0 e).2
          rw [e4', up_ne (by omega), e3, up_ne (by omega)]; exact ht c' hf (by omega)
      · rw [e4', up_ne (by omega), e3, up_ne (by omega)]; exact hk k q
      · rw [e4', up_ne (by omega), e3, up_ne (by omega)]; exact hO b j hb'
theorem Sp_layOut_s {p n z m : Int} (hpn : PN p n) (h0 : σ 62 0 = 5) (h3 : σ 61 3 = p) (h4 : σ 61 4 = n) (h5 : σ 61 5 = z) (h6 : σ 61 6 = m) (hm0 : 0 ≤ m) (hm : m < 2 ^ n.toNat) (hz : bt m = z)
    (h : ∀ σ', WS σ' p n z m 0 → Off (fun b j => (b = 61 ∧ j = 2) ∨ (b = 62 ∧ 3 ≤ j ∧ j ≤ 6) ∨ b = 63 ∨ b = 65) σ σ' → Q 0 σ') : Tri (d + 2) M_Sp_layOut [vA 61] σ Q := by
  obtain ⟨b1, b2, b3, b4⟩ := hpn.b
  have hp5 := pw5 (n := n) (by omega) b4
  have hpp := ppos b1 (nf n (tb m) n).toNat
  refine t_Sp_layOut ?_
  rw [h3, h4]
  refine Ec_begin_s ob_62 (by rw [h0, stl5 (by omega) (by omega)]) hpn.pr (by omega) (by rw [stl5 (by omega) (by omega)]; exact b4) (fun s1 hE1 hO1 s2 e2 => ?_)
  have hO2 : Off (fun b j => (b = 61 ∧ j = 2) ∨ (b = 62 ∧ 3 ≤ j ∧ j ≤ 6) ∨ b = 63 ∨ b = 65) σ s2 := fun b j hb => by rw [e2, up_ne (by omega)]; exact hO1 b j (by omega)
  refine loop_up (P := fun l t => L (d + 2) M_Sp_layOut 22 [vA 61, vI l] [] t Q)
    (fun l t => 0 ≤ l ∧ t 61 2 = nf n (tb m) l ∧ (∀ l' c, Fp n (tb m) l' c → l' < l → t 65 (fi n (tb m) l' c) = 5 * l' + c) ∧ (∀ l' c, 0 ≤ l' → l' < l → tb m l' = true → 0 ≤ c → c < n → t 63 (l' * 5 + c) = if l' = c then 1 else 0) ∧ Off (fun b j => (b = 61 ∧ j = 2) ∨ b = 63 ∨ b = 65) s2 t) n ?_ ?_ 0 (by omega) s2 ⟨by omega, by rw [e2, up_same]; unfold nf; rw [sR_nil (by omega)], fun l' c hf q => by have := hf.1; omega, fun l' c q1 q2 => by omega, Off_rfl⟩
  · rintro t ⟨_, t2, t65, t63, hO⟩
    have hOt : Off (fun b j => (b = 61 ∧ j = 2) ∨ (b = 62 ∧ 3 ≤ j ∧ j ≤ 6) ∨ b = 63 ∨ b = 65) σ t := Off_trans hO2 (Off_mono hO (fun b j q => by omega))
    have g3 : t 61 3 = p := (hOt 61 3 (by omega)).trans h3
    have g4 : t 61 4 = n := (hOt 61 4 (by omega)).trans h4
    have g5 : t 61 5 = z := (hOt 61 5 (by omega)).trans h5
    have g6 : t 61 6 = m := (hOt 61 6 (by omega)).trans h6
    refine s_Sp_layOut_22 ⟨fun _ t3 e3 t4 e4 => ?_, fun q => by omega⟩
    have e35 : t3 61 5 = z := by rw [e3, up_ne (by omega)]; exact g5
    have hx : t4 = up (up t 62 6 m) 62 5 z := by rw [e4, e35, e3, g6]
    obtain ⟨a1, a2, a3, a4, a5, a6, a7, a8, a9, a10, a11⟩ := hE1
    have f62 : ∀ k, t 62 k = s1 62 k := fun k => by rw [hO 62 k (by omega), e2, up_ne (by omega)]
    refine h t4 ⟨⟨by rw [hx, up_ne (by omega), up_ne (by omega)]; exact g3, by rw [hx, up_ne (by omega), up_ne (by omega)]; exact g4, by rw [hx, up_ne (by omega), up_ne (by omega)]; exact g5, by rw [hx, up_ne (by omega), up_ne (by omega)]; exact g6⟩, ⟨hm0, hm, hz⟩, ⟨by omega, by omega⟩, by rw [hx, up_ne (by omega), up_ne (by omega)]; exact t2, fun l c hf => by rw [hx, up_ne (by omega), up_ne (by omega)]; exact t65 l c hf (by have := hf.2.1; have := hf.2.2.1; omega), ?_⟩ (fun b j hb => by rw [hx, up_ne (by omega), up_ne (by omega)]; exact hOt b j hb)
    refine ⟨ob_62, by rw [hx, up_ne (by omega), up_ne (by omega), f62]; exact a2, by rw [hx, up_ne (by omega), up_ne (by omega), f62]; exact a3, by rw [hx, up_ne (by omega), up_ne (by omega), f62]; exact a4, ?_, by omega, by rw [stl5 (by omega) (by omega)]; exact b4, ?_, fun l c l0 l1 hl c0 c1 => ?_, EW_spn b1, hpn.pr⟩
    · rw [hx, up_same]
      show z = cd (tb m) n
      rw [bt_n hm0 (by omega) b4 hm, hz]
    · rw [hx, up_ne (by omega), up_same]
      exact ⟨hm0, hm, fun l _ _ => rfl⟩
    · rw [hx, up_ne (by omega), up_ne (by omega), stl5 (by omega) (by omega)]
      show t 63 (l * 5 + c) = (if l = c then (1 : Int) else if _ then dg p 0 _ else 0)
      rw [t63 l c l0 l1 hl c0 c1, dg_z]
      split
      · rfl
      · split <;> rfl
  · rintro l t hl ⟨l0, t2, t65, t63, hO⟩ ih
    have hOt : Off (fun b j => (b = 61 ∧ j = 2) ∨ (b = 62 ∧ 3 ≤ j ∧ j ≤ 6) ∨ b = 63 ∨ b = 65) σ t := Off_trans hO2 (Off_mono hO (fun b j q => by omega))
    have g4 : t 61 4 = n := (hOt 61 4 (by omega)).trans h4
    have g6 : t 61 6 = m := (hOt 61 6 (by omega)).trans h6
    have nfs := nf_succ (n := n) (ℓ := tb m) l0
    refine L_units_of (fun hUN => ?_)
    refine s_Sp_layOut_22 ⟨fun q => by omega, fun _ => ⟨fun q => ?_, fun q => ?_⟩⟩
    · rw [g6] at q
      have hb := (bit_eq hm0 (by omega) l0 (by omega)).mp q
      rw [w32_id (by omega) (by omega)]
      rw [hb] at nfs; simp at nfs
      refine ih t ⟨by omega, by omega, fun l' c hf q' => t65 l' c hf ?_, fun l' c q1 q2 q3 q4 q5 => t63 l' c q1 ?_ q3 q4 q5, hO⟩
      · have : l' ≠ l := fun e => by have := hf.2.2.2.1; rw [e, hb] at this; cases this
        omega
      · have : l' ≠ l := fun e => by rw [e, hb] at q3; cases q3
        omega
    · rw [g6] at q
      have hb := (bit_ne hm0 (by omega) l0 (by omega)).mp q
      rw [w32_id (x := l * 5) (by omega) (by omega), g4, w32_id (x := l + 1) (by omega) (by omega)]
      refine ⟨⟨by omega, by rw [kd_63], by rw [kd_m2], by omega, by omega, by omega, by rw [kd_m2]; simp only; omega, by rw [kd_63]; simp only; omega⟩, fun t5 e5 => ?_⟩
      have f5 : ∀ b k, b ≠ 63 → t5 b k = t b k := fun b k hb' => by rw [e5]; exact cpy_ne (Or.inl hb')
      refine Sp_noteFree_s b4 l0 hl (by rw [f5 61 4 (by omega)]; exact g4) (by rw [f5 61 6 (by omega)]; exact g6) hm0 (by omega) hb (by rw [f5 61 2 (by omega)]; exact t2) (fun t6 u2 u65 uk uO => ih t6 ⟨by omega, u2, fun l' c hf q' => ?_, fun l' c q1 q2 q3 q4 q5 => ?_, ?_⟩)
      · by_cases hll : l' = l
        · subst hll; exact u65 c hf
        · have hfl := fi_lt hf
          have := nf_mono (ℓ := tb m) (n := n) (a := l' + 1) (b := l) (by have := hf.1; omega) (by omega) (by omega)
          rw [uk _ (by omega), f5 65 _ (by omega)]; exact t65 l' c hf (by omega)
      · rw [uO 63 _ (by omega), e5]
        by_cases hll : l' = l
        · subst hll
          rw [cpy_in (by omega) (by omega), show l' * 5 + (l' * 5 + c - l' * 5) = l' * 5 + c by omega, hUN _ (by omega) (by omega), unit5 q1 (by omega) q4 (by omega)]
        · rw [cpy_ne (by omega)]; exact t63 l' c q1 (by omega) q3 q4 q5
      · intro b j hb'
        rw [uO b j (by omega), f5 b j (by omega)]; exact hO b j hb'
theorem Sp_nextLeads_s {p n z m0 : Int} (hpn : PN p n) (h0 : σ 62 0 = 5) (h3 : σ 61 3 = p) (h4 : σ 61 4 = n) (h5 : σ 61 5 = z) (h6 : σ 61 6 = m0) (hm0 : -1 ≤ m0) (hm : m0 < 2 ^ n.toNat)
    (h1 : ∀ m σ', m0 < m → (∀ k, m0 < k → k < m → bt k ≠ z) → WS σ' p n z m 0 → Off (fun b j => (b = 61 ∧ (j = 2 ∨ j = 6)) ∨ (b = 62 ∧ 3 ≤ j ∧ j ≤ 6) ∨ b = 63 ∨ b = 65) σ σ' → Q 1 σ') (hno : (∀ k, m0 < k → k < 2 ^ n.toNat → bt k ≠ z) → Q 0 σ) : Tri (d + 3) M_Sp_nextLeads [vA 61] σ Q := by
  obtain ⟨b1, b2, b3, b4⟩ := hpn.b
  have hp5 := pw5 (n := n) (by omega) b4
  refine t_Sp_nextLeads ?_
  rw [h6, w32_id (by omega) (by omega)]
  refine loop_up (S := Unit) (P := fun k _ => L (d + 3) M_Sp_nextLeads 7 [vA 61, vI k] [] σ Q) (fun k _ => m0 + 1 ≤ k ∧ ∀ j, m0 < j → j < k → bt j ≠ z) (2 ^ n.toNat) ?_ ?_ (m0 + 1) (by omega) () ⟨by omega, fun j _ _ => by omega⟩
  · rintro _ ⟨_, hn⟩
    refine s_Sp_nextLeads_7 ⟨fun _ => hno hn, fun q => ?_⟩
    rw [h4, shl1 (by omega) (by omega)] at q; omega
  · rintro k _ hk ⟨hk0, hn⟩ ih
    refine s_Sp_nextLeads_7 ⟨fun q => ?_, fun q => ?_⟩
    · rw [h4, shl1 (by omega) (by omega)] at q; omega
    · refine JI_bitCount_s (by omega) (by omega) ⟨fun q2 => ?_, fun q2 s4 e4 => ?_⟩
      · rw [w32_id (by omega) (by omega)]
        refine ih () ⟨by omega, fun j j0 j1 => ?_⟩
        by_cases hj : j = k
        · subst hj; rw [← h5]; exact q2
        · exact hn j j0 (by omega)
      · refine Sp_layOut_s hpn (by rw [e4, up_ne (by omega)]; exact h0) (by rw [e4, up_ne (by omega)]; exact h3) (by rw [e4, up_ne (by omega)]; exact h4) (by rw [e4, up_ne (by omega)]; exact h5) (by rw [e4, up_same]) (by omega) hk (by rw [q2]; exact h5) (fun s5 hW hO => h1 k s5 (by omega) hn hW (fun b j hb => ?_))
        rw [hO b j (by omega), e4, up_ne (by omega)]
theorem Sp_turnFree_s {p n z m x : Int} (hpn : PN p n) (hW : WS σ p n z m x)
    (h1 : ∀ σ', x + 1 < p ^ (nf n (tb m) n).toNat → WS σ' p n z m (x + 1) → Off (fun b j => b = 63) σ σ' → Q 1 σ') (h0 : ∀ σ', x + 1 = p ^ (nf n (tb m) n).toNat → Off (fun b j => b = 63) σ σ' → Q 0 σ') : Tri (d + 1) M_Sp_turnFree [vA 61] σ Q := by
  obtain ⟨b1, b2, b3, b4⟩ := hpn.b
  obtain ⟨⟨a1, a2, a3, a4⟩, ⟨m1, m2, m3⟩, ⟨x1, x2⟩, a5, a6, hE⟩ := hW
  have hp5 := pw5 (n := n) (by omega) b4
  have nb := nf_b (n := n) (ℓ := tb m) (m := n) (by omega) (by omega)
  have nb2 : n * n ≤ 5 * 5 := Int.mul_le_mul b4 b4 (by omega) (by omega)
  obtain ⟨c1, c2, c3, c4, c5, c6, c7, c8, c9, c10, c11⟩ := hE
  rw [stl5 (by omega) (by omega), show (62 : Int) + 1 = 63 from rfl] at c9
  have hfree : ∀ l c, Fp n (tb m) l c → σ 63 (5 * l + c) = dg p x (fi n (tb m) l c) := fun l c hf => by
    obtain ⟨q1, q2, q3, q4, q5⟩ := id hf
    have := c9 l c q1 (by omega) q4 (by omega) q3
    rw [show l * 5 + c = 5 * l + c by omega] at this
    rw [this]
    show (if l = c then (1 : Int) else if l < c ∧ tb m c = false then dg p x (fi n (tb m) l c) else 0) = _
    rw [if_neg (by omega), if_pos ⟨q2, q5⟩]
  refine t_Sp_turnFree ?_
  refine loop_up (P := fun i t => L (d + 1) M_Sp_turnFree 2 [vA 61, vI i, vU] [] t Q)
    (fun i t => 0 ≤ i ∧ x % p ^ i.toNat = p ^ i.toNat - 1 ∧ (∀ l c, Fp n (tb m) l c → t 63 (5 * l + c) = if fi n (tb m) l c < i then 0 else dg p x (fi n (tb m) l c)) ∧ (∀ k, (∀ l c, Fp n (tb m) l c → k ≠ 5 * l + c) → t 63 k = σ 63 k) ∧ Off (fun b j => b = 63) σ t) (nf n (tb m) n) ?_ ?_ 0 nb.1 σ ⟨by omega, by simp, fun l c hf => ?_, fun _ _ => rfl, Off_rfl⟩
  · rintro t ⟨_, hx, _, _, hO⟩
    have e2 : t 61 2 = nf n (tb m) n := (hO 61 2 (by omega)).trans a5
    exact s_Sp_turnFree_2 ⟨fun _ => h0 t (dg_end b1 x1 x2 hx) hO, fun q => by omega⟩
  · rintro i t hi ⟨i0, hx, hf1, hf2, hO⟩ ih
    have e2 : t 61 2 = nf n (tb m) n := (hO 61 2 (by omega)).trans a5
    obtain ⟨l, c, hf, hfi⟩ := fi_sur (n := n) (ℓ := tb m) (by omega) i0 hi
    obtain ⟨q1, q2, q3, q4, q5⟩ := id hf
    have e65 : t 65 i = 5 * l + c := by rw [hO 65 i (by omega), ← hfi]; exact a6 l c hf
    have e63 : t 63 (5 * l + c) = dg p x i := by rw [hf1 l c hf, hfi, if_neg (by omega)]
    have hd := dg_in (x := x) (k := i) b1
    obtain ⟨s1, s2⟩ := dg_step b1 x1 i0 hx
    refine s_Sp_turnFree_2 ⟨fun q => by omega, fun _ => ?_⟩
    rw [e65, e63, w32_id (x := dg p x i + 1) (by omega) (by omega), w32_id (x := i + 1) (by omega) (by omega)]
    refine ⟨⟨by omega, by omega⟩, ⟨by omega, by omega⟩, ⟨by omega, by omega⟩, fun t2 e => ⟨⟨by omega, by omega⟩, fun q => ⟨⟨by omega, by omega⟩, fun t4 e4 => ?_⟩, fun q => ?_⟩⟩
    · have e3 : t2 61 3 = p := by rw [e, up_ne (by omega), hO 61 3 (by omega)]; exact a1
      rw [e3, e, up_same] at q
      refine ih t4 ⟨by omega, s2 q, fun l' c' hf' => ?_, fun k hk => ?_, fun b j hb => ?_⟩
      · by_cases g : 5 * l' + c' = 5 * l + c
        · obtain ⟨r1, r2, r3, r4, r5⟩ := id hf'
          have gl : l' = l ∧ c' = c := by omega
          rw [gl.1, gl.2, e4, up_same, hfi, if_pos (by omega)]
        · have hne : fi n (tb m) l' c' ≠ i := fun e' => g (by obtain ⟨g1, g2⟩ := fi_inj hf' hf (by omega); omega)
          rw [e4, up_ne (by omega), e, up_ne (by omega), hf1 l' c' hf']
          by_cases g2 : fi n (tb m) l' c' < i
          · rw [if_pos g2, if_pos (by omega)]
          · rw [if_neg g2, if_neg (by omega)]
      · have := hk l c hf
        rw [e4, up_ne (by omega), e, up_ne (by omega)]; exact hf2 k hk
      · rw [e4, up_ne (by omega), e, up_ne (by omega)]; exact hO b j hb
    · have e3 : t2 61 3 = p := by rw [e, up_ne (by omega), hO 61 3 (by omega)]; exact a1
      rw [e3, e, up_same] at q
      obtain ⟨d1, d2, d3⟩ := s1 q
      have hO2 : Off (fun b j => b = 63) σ t2 := fun b j hb => by rw [e, up_ne (by omega)]; exact hO b j hb
      -- the code has one more
      have hlt : x + 1 < p ^ (nf n (tb m) n).toNat := by
        rcases Int.lt_or_le (x + 1) (p ^ (nf n (tb m) n).toNat) with g | g
        · exact g
        · exfalso
          have hxe : x + 1 = p ^ (nf n (tb m) n).toNat := by omega
          have hz : dg p (x + 1) i = 0 := by
            unfold dg
            rw [hxe, show (nf n (tb m) n).toNat = i.toNat + (1 + ((nf n (tb m) n).toNat - i.toNat - 1)) by omega, pow_add', Int.mul_ediv_cancel_left _ (by have := ppos b1 i.toNat; omega), pow_add']
            exact Int.emod_eq_zero_of_dvd ⟨p ^ ((nf n (tb m) n).toNat - i.toNat - 1), by rw [Int.pow_succ, Int.pow_zero, Int.one_mul]⟩
          omega
      refine h1 t2 hlt ⟨⟨(hO2 61 3 (by omega)).trans a1, (hO2 61 4 (by omega)).trans a2, (hO2 61 5 (by omega)).trans a3, (hO2 61 6 (by omega)).trans a4⟩, ⟨m1, m2, m3⟩, ⟨by omega, hlt⟩, (hO2 61 2 (by omega)).trans a5, fun l' c' hf' => by rw [hO2 65 _ (by omega)]; exact a6 l' c' hf', ?_⟩ hO2
      refine ⟨c1, (hO2 62 0 (by omega)).trans c2, (hO2 62 3 (by omega)).trans c3, (hO2 62 4 (by omega)).trans c4, (hO2 62 5 (by omega)).trans c5, c6, c7, by rw [hO2 62 6 (by omega)]; exact c8, fun l' c' g0 g1 g2 g3 g4 => ?_, EW_spn b1, c11⟩
      rw [stl5 (by omega) (by omega)]
      show t2 63 (l' * 5 + c') = (if l' = c' then (1 : Int) else if l' < c' ∧ tb m c' = false then dg p (x + 1) (fi n (tb m) l' c') else 0)
      by_cases hff : Fp n (tb m) l' c'
      · obtain ⟨r1, r2, r3, r4, r5⟩ := id hff
        rw [if_neg (by omega), if_pos ⟨r2, r5⟩, show l' * 5 + c' = 5 * l' + c' by omega]
        by_cases g : l' = l ∧ c' = c
        · rw [g.1, g.2, e, up_same, hfi, d2]
        · have hne : fi n (tb m) l' c' ≠ i := fun e' => g (fi_inj hff hf (by omega))
          have hfr := (fi_lt hff).1
          have nfb := (nf_b (n := n) (ℓ := tb m) (m := l') (by omega) (by omega)).1
          rw [e, up_ne (by omega), hf1 l' c' hff]
          by_cases g2 : fi n (tb m) l' c' < i
          · rw [if_pos g2, d1 _ (by omega) g2]
          · rw [if_neg g2, d3 _ (by omega)]
      · have hne : ∀ l2 c2, Fp n (tb m) l2 c2 → l' * 5 + c' ≠ 5 * l2 + c2 := fun l2 c2 hf2' e' => hff (by
          obtain ⟨r1, r2, r3, r4, r5⟩ := id hf2'
          have gl : l' = l2 ∧ c' = c2 := by omega
          rw [gl.1, gl.2]; exact hf2')
        have g' := hne l c hf
        rw [e, up_ne (by omega), hf2 _ hne, c9 l' c' g0 g1 g2 g3 g4]
        show (if l' = c' then (1 : Int) else if l' < c' ∧ tb m c' = false then dg p x (fi n (tb m) l' c') else 0) = _
        by_cases g5 : l' = c'
        · rw [if_pos g5, if_pos g5]
        · rw [if_neg g5, if_neg g5, if_neg (fun z => hff ⟨g0, z.1, g4, g2, z.2⟩), if_neg (fun z => hff ⟨g0, z.1, g4, g2, z.2⟩)]
  · have hfl := fi_lt hf
    have := (nf_b (n := n) (ℓ := tb m) (m := l) hf.1 (by have := hf.2.1; have := hf.2.2.1; omega)).1
    rw [if_neg (by omega)]; exact hfree l c hf
end WALK
