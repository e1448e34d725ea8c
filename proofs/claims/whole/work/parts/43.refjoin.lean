/-! ===== the model's SPANS: what comes, copies, the whole ===== -/
section RJ
variable {d : Nat} {σ : SG} {Q : Int → SG → Prop}
theorem R_join_s {p n s many v f : Int} {T : Int → Int} {E : ES} {len : Nat} (hR : RW σ p n T) (hS : SP σ s many p n E) (hks : kd s = (100, 25)) (hs0 : 0 ≤ s) (hs : s ≠ 185) (hs1 : s ≠ 161) (hs6 : s ≠ 166) (hs9 : s ≠ 196) (hkv : kd v = (100, len)) (hf : 0 ≤ f) (hfl : f + n ≤ (len : Int)) (hlen : len ≤ 5000) (hv85 : v ≠ 185) (hv : ∀ c, 0 ≤ c → c < n → 0 ≤ σ v (f + c) ∧ σ v (f + c) < p)
    (h : ∀ r σ', SP σ' s r p n (ins p n E (fun c => σ v (f + c))) → r = many + (if ild p n E (fun c => σ v (f + c)) < n then 1 else 0) → Off (fun b j => b = 185 ∨ b = s) σ σ' → Q r σ') : Tri (d + 3) M_R_join [vA 161, vA s, vI many, vA v, vI f] σ Q := by
  obtain ⟨b1, b2, b3, b4⟩ := hR.1.1.b
  have hp : PR p := hR.1.1.pr
  obtain ⟨c1, c2⟩ := hS.b (by omega)
  have hEW := hS.2.2
  generalize hV : (fun c => σ v (f + c)) = V at h
  refine t_R_join (fun _ _ => R_reduce_s hR hS hks hs hkv hf hfl hlen hv85 hv (fun s1 g1 hO1 => ?_))
  rw [hV] at g1
  have hR1 : RW s1 p n T := hR.fr (fun k _ _ => hO1 161 k (by omega)) (fun k => hO1 166 k (by omega)) (fun k => hO1 196 k (by omega))
  have hld : ldw n (fun c => s1 185 (0 + c)) = ild p n E V := ldw_cg (by omega) (fun c q1 q2 => by rw [show (0 : Int) + c = c by omega]; exact g1 c q1 q2)
  have hO1' : Off (fun b j => b = 185 ∨ b = s) σ s1 := Off_mono hO1 (fun a k q => Or.inl q.1)
  obtain ⟨z1, z2, _, _⟩ := ldw_s (show 0 ≤ n by omega) (rd p n E V)
  refine R_leadOf_s hR1 kd_185 (by omega) (by omega) (by omega) ?_
  rw [hld]
  by_cases hc : ild p n E V < n
  · rw [if_pos hc]
    refine ⟨fun _ => ?_, fun q => by unfold ild at q; omega⟩
    obtain ⟨l1, l2, l3, l4⟩ := ild_s (show 0 ≤ n by omega) hEW hc
    obtain ⟨u1, u2, u3, u4⟩ := irow_s hp (show 0 ≤ n by omega) hEW hc
    have hrd : ∀ c, 0 ≤ rd p n E V c ∧ rd p n E V c < p := fun c => rd_in (by omega)
    have hins := ins_yes (p := p) (w := n) (E := E) (v := V) hc
    have hEWn := EW_ins (v := V) hp (show 0 ≤ n by omega) hEW
    have hcdn := cd_ins (v := V) (show 0 ≤ n by omega) hEW
    rw [if_pos hc] at h hcdn
    generalize hLd : ild p n E V = Ld at *
    have hir : ∀ c, irow p n E V c = rd p n E V c * iv p (rd p n E V Ld) % p := fun c => by unfold irow; rw [hLd]
    generalize hu : irow p n E V = u at *
    have hivb := iv_s hp (show 1 ≤ rd p n E V Ld by have := hrd Ld; omega) (hrd Ld).2
    -- there is room for a row more
    have hroom : many ≤ n - 1 := by
      have h2 := (cd_b (ℓ := (ins p n E V).1) (w := n) (by omega)).2
      rw [hcdn, ← hS.1] at h2; omega
    have hcdl : ∀ l, 0 ≤ l → cd (ins p n E V).1 l = cd E.1 l + if Ld < l then 1 else 0 := fun l g => by
      rw [hins]; exact cd_add l1 l2
    have hpl := cd_b (ℓ := E.1) l1
    have hplm := cd_mono (ℓ := E.1) l1 (show Ld ≤ n by omega)
    refine ⟨⟨l1, by omega⟩, ?_⟩
    rw [g1 Ld l1 hc]
    refine R_inverse_s hp hR1.2.1 (by have := hrd Ld; omega) (hrd Ld).2 ?_
    refine loop_up (P := fun k t => L (d + 3) M_R_join 43 [vA 161, vA s, vI many, vU, vU, vI Ld, vI (iv p (rd p n E V Ld)), vI k, vU, vU, vU] [] t Q)
      (fun k t => 0 ≤ k ∧ (∀ c, 0 ≤ c → c < k → t 185 c = u c) ∧ (∀ c, k ≤ c → c < n → t 185 c = rd p n E V c) ∧ Off (fun b j => b = 185) σ t) n ?_ ?_ 0 (by omega) s1 ⟨by omega, fun c _ _ => by omega, fun c q1 q2 => g1 c q1 q2, Off_mono hO1 (fun a k q => q.1)⟩
    · rintro t ⟨_, ht, _, hO⟩
      have e2 : t 161 27 = n := (hO 161 27 (by omega)).trans hR.2.2.1
      refine s_R_join_43 ⟨fun _ => ?_, fun q => by omega⟩
      -- the rows, each without its part at the new lead
      refine loop_up (S := Int × SG) (P := fun r q => L (d + 3) M_R_join 86 [vA 161, vA s, vI many, vU, vU, vI Ld, vU, vI q.1, vI r, vU, vU] [] q.2 Q)
        (fun r q => 0 ≤ r ∧ q.1 = (if r ≤ cd E.1 Ld then r else cd E.1 Ld) ∧ (∀ c, 0 ≤ c → c < n → q.2 185 c = u c) ∧ (∀ l c, 0 ≤ l → l < n → E.1 l = true → 0 ≤ c → c < n → q.2 s (5 * cd E.1 l + c) = if cd E.1 l < r then (E.2 l c - E.2 l Ld * u c) % p else E.2 l c) ∧ Off (fun b j => b = 185 ∨ b = s) σ q.2) many ?_ ?_ 0 c1 (0, t) ⟨by omega, by simp only; rw [if_pos (by omega)], ht, fun l c q1 q2 q3 q4 q5 => ?_, Off_mono hO (fun a k q => Or.inl q)⟩
      · rintro ⟨pl, t2⟩ ⟨_, hpl2, ht2, hr2, hO2⟩
        simp only at hpl2 ht2 hr2 hO2 ⊢
        have hplv : pl = cd E.1 Ld := by rw [hpl2, hS.1]; split <;> omega
        refine s_R_join_86 ⟨fun _ => ?_, fun q => by omega⟩
        rw [w32_id (x := 5 * many) (by omega) (by omega), w32_id (by omega) (by omega)]
        -- the rows behind go one place on
        have key : ∀ (m : Nat) (t3 : SG), (m : Int) ≤ 5 * many - 5 * pl → (∀ k, k < 5 * pl + m → t3 s k = t2 s k) → (∀ k, 5 * pl + m ≤ k → k < 5 * many → t3 s (k + 5) = t2 s k) → (∀ c, 0 ≤ c → c < n → t3 185 c = u c) → Off (fun b j => b = 185 ∨ b = s) σ t3 → L (d + 3) M_R_join 190 [vA 161, vA s, vI many, vU, vU, vU, vU, vI pl, vI (5 * pl + m - 1), vU, vU] [] t3 Q := by
          intro m
          induction m with
          | zero =>
            intro t3 hm h3 h4 h5 hO3
            refine s_R_join_190 ⟨fun _ => ?_, fun q => by rw [w32_id (by omega) (by omega)] at q; omega⟩
            refine loop_up (P := fun k t => L (d + 3) M_R_join 218 [vA 161, vA s, vI many, vU, vU, vU, vU, vI pl, vI k, vU, vU] [] t Q)
              (fun k t4 => 0 ≤ k ∧ (∀ c, 0 ≤ c → c < k → t4 s (5 * pl + c) = u c) ∧ (∀ j, (j < 5 * pl ∨ 5 * pl + 5 ≤ j) → t4 s j = t3 s j) ∧ (∀ c, 0 ≤ c → c < n → t4 185 c = u c) ∧ Off (fun b j => b = 185 ∨ b = s) σ t4) n ?_ ?_ 0 (by omega) t3 ⟨by omega, fun c _ _ => by omega, fun _ _ => rfl, h5, hO3⟩
            · rintro t4 ⟨_, ht4, ht4', h45, hO4⟩
              have e2 : t4 161 27 = n := (hO4 161 27 (by omega)).trans hR.2.2.1
              refine s_R_join_218 ⟨fun _ => ?_, fun q => by omega⟩
              rw [w32_id (by omega) (by omega)]
              refine h (many + 1) t4 ⟨by rw [hcdn, hS.1], fun l c q1 q2 q3 q4 q5 => ?_, hEWn⟩ rfl hO4
              rw [hcdl l q1]
              by_cases hlL : l = Ld
              · subst hlL
                rw [if_neg (by omega), Int.add_zero, ← hplv, ht4 c q4 q5, hins]
                simp only
                rw [if_pos trivial]
              · have hEl : E.1 l = true := by
                  rw [hins] at q3
                  simp only [Bool.or_eq_true, decide_eq_true_eq] at q3
                  rcases q3 with g | g
                  · exact g
                  · omega
                have hlt := cd_lt q1 q2 hEl
                rw [← hS.1] at hlt
                have hi := cd_iff (ℓ := E.1) q1 l1 hEl
                have hb := cd_b (ℓ := E.1) q1
                have hval : t2 s (5 * cd E.1 l + c) = (ins p n E V).2 l c := by
                  rw [hr2 l c q1 q2 hEl q4 q5, if_pos hlt, hins]
                  simp only
                  rw [if_neg hlL]
                rw [← hval]
                by_cases hll : Ld < l
                · rw [if_pos hll]
                  have hge : cd E.1 Ld ≤ cd E.1 l := cd_mono l1 (by omega)
                  rw [ht4' _ (by omega), show 5 * (cd E.1 l + 1) + c = (5 * cd E.1 l + c) + 5 by omega, h4 _ (by omega) (by omega)]
                · rw [if_neg hll, Int.add_zero, ht4' _ (by omega), h3 _ (by omega)]
            · rintro k t4 hk ⟨hk0, ht4, ht4', h45, hO4⟩ ih4
              have e2 : t4 161 27 = n := (hO4 161 27 (by omega)).trans hR.2.2.1
              refine s_R_join_218 ⟨fun q => by omega, fun _ => ?_⟩
              rw [w32_id (x := 5 * pl) (by omega) (by omega), w32_id (x := 5 * pl + k) (by omega) (by omega), w32_id (x := k + 1) (by omega) (by omega), h45 k hk0 hk]
              refine ⟨⟨by omega, by omega⟩, wr_of hs0 hks (by omega) (by omega), fun t5 e5 => ih4 t5 ⟨by omega, fun c q1 q2 => ?_, fun j q1 => ?_, fun c q1 q2 => ?_, fun b j hb => ?_⟩⟩
              · by_cases hck : c = k
                · subst hck; rw [e5, up_same]
                · rw [e5, up_ne (by omega)]; exact ht4 c q1 (by omega)
              · rw [e5, up_ne (by omega)]; exact ht4' j q1
              · rw [e5, up_ne (by omega)]; exact h45 c q1 q2
              · rw [e5, up_ne (by omega)]; exact hO4 b j hb
          | succ m ihm =>
            intro t3 hm h3 h4 h5 hO3
            refine s_R_join_190 ⟨fun q => by rw [w32_id (by omega) (by omega)] at q; omega, fun _ => ?_⟩
            rw [show 5 * pl + ((m + 1 : Nat) : Int) - 1 = 5 * pl + m by omega, w32_id (x := 5 * pl + (m : Int) + 5) (by omega) (by omega), w32_id (by omega) (by omega)]
            refine ⟨rd_of hks (by omega) (by omega), wr_of hs0 hks (by omega) (by omega), fun t4 e4 => ?_⟩
            refine ihm t4 (by omega) (fun k q => ?_) (fun k q1 q2 => ?_) (fun c q1 q2 => ?_) (fun b j hb => ?_)
            · rw [e4, up_ne (by omega)]; exact h3 k (by omega)
            · by_cases hk : k = 5 * pl + m
              · subst hk; rw [e4, up_same]; exact h3 _ (by omega)
              · rw [e4, up_ne (by omega)]; exact h4 k (by omega) q2
            · rw [e4, up_ne (by omega)]; exact h5 c q1 q2
            · rw [e4, up_ne (by omega)]; exact hO3 b j hb
        have := key (5 * many - 5 * pl).toNat t2 (by omega) (fun k _ => rfl) (fun k q1 q2 => by omega) ht2 hO2
        rw [show 5 * pl + ((5 * many - 5 * pl).toNat : Int) - 1 = 5 * many - 1 by omega] at this
        exact this
      · rintro r ⟨pl, t2⟩ hr ⟨hr0, hpl2, ht2, hr2, hO2⟩ ih
        simp only at hpl2 ht2 hr2 hO2 ⊢
        obtain ⟨l, k0, k1, k2, k3⟩ := cd_sel (ℓ := E.1) (w := n) (by omega) hr0 (by rw [← hS.1]; exact hr)
        obtain ⟨r1, r2, r3, r4⟩ := hEW l k0 k1 k2
        have e2 : t2 161 27 = n := (hO2 161 27 (by omega)).trans hR.2.2.1
        have hoff : t2 s (5 * r + Ld) = E.2 l Ld := by
          have := hr2 l Ld k0 k1 k2 l1 hc
          rw [k3, if_neg (by omega)] at this
          exact this
        refine s_R_join_86 ⟨fun q => by omega, fun _ => ?_⟩
        rw [w32_id (x := 5 * r) (by omega) (by omega), w32_id (x := 5 * r + Ld) (by omega) (by omega), hoff]
        refine ⟨rd_of hks (by omega) (by omega), ?_⟩
        refine loop_up (P := fun k t => L (d + 3) M_R_join 106 [vA 161, vA s, vI many, vU, vU, vI Ld, vU, vI pl, vI r, vI (E.2 l Ld), vI k] [] t Q)
          (fun k t3 => 0 ≤ k ∧ (∀ c, 0 ≤ c → c < n → t3 185 c = u c) ∧ (∀ m c, 0 ≤ m → m < n → E.1 m = true → 0 ≤ c → c < n → t3 s (5 * cd E.1 m + c) = if cd E.1 m < r ∨ (cd E.1 m = r ∧ c < k) then (E.2 m c - E.2 m Ld * u c) % p else E.2 m c) ∧ Off (fun b j => b = 185 ∨ b = s) σ t3) n ?_ ?_ 0 (by omega) t2 ⟨by omega, ht2, fun m c q1 q2 q3 q4 q5 => ?_, hO2⟩
        · rintro t3 ⟨_, ht3, hr3, hO3⟩
          have hR3 : RW t3 p n T := hR.fr (fun k _ _ => hO3 161 k (by omega)) (fun k => hO3 166 k (by omega)) (fun k => hO3 196 k (by omega))
          have e3 : t3 161 27 = n := hR3.2.2.1
          refine s_R_join_106 ⟨fun _ => ?_, fun q => by omega⟩
          rw [w32_id (x := 5 * r) (by omega) (by omega)]
          have hEl' : (ins p n E V).1 l = true := by rw [hins]; simp [k2]
          have hlL : l ≠ Ld := fun e => by rw [e, l2] at k2; cases k2
          obtain ⟨w1, w2, w3, w4⟩ := hEWn l k0 k1 hEl'
          have hrow : ∀ c, 0 ≤ c → c < n → t3 s (5 * r + c) = (ins p n E V).2 l c := fun c q1 q2 => by
            have := hr3 l c k0 k1 k2 q1 q2
            rw [k3, if_pos (Or.inr ⟨rfl, q2⟩)] at this
            rw [this, hins]
            simp only
            rw [if_neg hlL]
          have hlead : ldw n (fun c => t3 s (5 * r + c)) = l := ldw_u (by omega) k0 (by omega) (fun c q1 q2 => by rw [hrow c q1 (by omega)]; exact w3 c q1 q2) (fun _ => by rw [hrow l k0 k1, w2]; omega)
          refine R_leadOf_s hR3 hks (by omega) (by omega) (by omega) ?_
          rw [hlead, if_pos k1, w32_id (x := r + 1) (by omega) (by omega)]
          have hi := cd_iff (ℓ := E.1) k0 l1 k2
          have hnext : ∀ pl', pl' = (if r + 1 ≤ cd E.1 Ld then r + 1 else cd E.1 Ld) → L (d + 3) M_R_join 86 [vA 161, vA s, vI many, vU, vU, vI Ld, vU, vI pl', vI (r + 1), vU, vU] [] t3 Q := by
            intro pl' hp'
            refine ih (pl', t3) ⟨by omega, hp', ht3, fun m c q1 q2 q3 q4 q5 => ?_, hO3⟩
            simp only
            rw [hr3 m c q1 q2 q3 q4 q5]
            by_cases g : cd E.1 m < r + 1
            · rw [if_pos g, if_pos (by omega)]
            · rw [if_neg g, if_neg (by omega)]
          refine ⟨fun q => hnext pl ?_, fun q => hnext (r + 1) ?_⟩
          · rw [hpl2, if_neg (show ¬ r + 1 ≤ cd E.1 Ld by omega)]
            by_cases g : r ≤ cd E.1 Ld
            · rw [if_pos g]; omega
            · rw [if_neg g]
          · rw [if_pos (by omega)]
        · rintro k t3 hk ⟨hk0, ht3, hr3, hO3⟩ ih2
          have e3 : t3 161 27 = n := (hO3 161 27 (by omega)).trans hR.2.2.1
          have e1 : t3 161 26 = p := (hO3 161 26 (by omega)).trans hR.2.1
          have hrk : t3 s (5 * r + k) = E.2 l k := by
            have := hr3 l k k0 k1 k2 hk0 hk
            rw [k3, if_neg (by omega)] at this
            exact this
          have hE1 := r1 k hk0 hk
          have hE2 := r1 Ld l1 hc
          have hu1 := u1 k
          obtain ⟨m2, m3⟩ := mul_small (a := E.2 l Ld) (b := u k) (A := 7) (B := 7) (by omega) (by omega) (by omega) (by omega)
          refine s_R_join_106 ⟨fun q => by omega, fun _ => ?_⟩
          rw [w32_id (x := 5 * r) (by omega) (by omega), w32_id (x := 5 * r + k) (by omega) (by omega), hrk, ht3 k hk0 hk, e1, w32_id (x := E.2 l Ld * u k) (by omega) (by omega), w32_id (x := E.2 l k - E.2 l Ld * u k) (by omega) (by omega), w32_id (x := k + 1) (by omega) (by omega)]
          refine ⟨rd_of hks (by omega) (by omega), ⟨by omega, by omega⟩, R_left_s ⟨b1, b2⟩ ⟨wr_of hs0 hks (by omega) (by omega), fun t4 e4 => ih2 t4 ⟨by omega, fun c q1 q2 => ?_, fun m c q1 q2 q3 q4 q5 => ?_, fun b j hb => ?_⟩⟩⟩
          · rw [e4, up_ne (by omega)]; exact ht3 c q1 q2
          · have hb := cd_b (ℓ := E.1) q1
            by_cases hmc : cd E.1 m = r ∧ c = k
            · have hml : m = l := cd_inj q1 k0 q3 k2 (by omega)
              rw [hml, hmc.2, k3, e4, up_same, if_pos (by omega)]
            · rw [e4, up_ne (by omega), hr3 m c q1 q2 q3 q4 q5]
              by_cases g : cd E.1 m < r ∨ (cd E.1 m = r ∧ c < k)
              · rw [if_pos g, if_pos (by omega)]
              · rw [if_neg g, if_neg (by omega)]
          · rw [e4, up_ne (by omega)]; exact hO3 b j hb
        · rw [hr2 m c q1 q2 q3 q4 q5]
          by_cases g : cd E.1 m < r
          · rw [if_pos g, if_pos (Or.inl g)]
          · rw [if_neg g, if_neg (by omega)]
      · have hb := (cd_b (ℓ := E.1) q1).1
        simp only
        rw [if_neg (by omega), hO s _ (by omega)]
        exact hS.2.1 l c q1 q2 q3 q4 q5
    · rintro k t hk ⟨hk0, ht, ht', hO⟩ ih
      have e2 : t 161 27 = n := (hO 161 27 (by omega)).trans hR.2.2.1
      have e1 : t 161 26 = p := (hO 161 26 (by omega)).trans hR.2.1
      have hr1 := hrd k
      obtain ⟨m2, m3⟩ := mul_small (a := rd p n E V k) (b := iv p (rd p n E V Ld)) (A := 7) (B := 7) (by omega) (by omega) (by omega) (by omega)
      refine s_R_join_43 ⟨fun q => by omega, fun _ => ?_⟩
      rw [ht' k (by omega) hk, e1, w32_id (x := rd p n E V k * iv p (rd p n E V Ld)) (by omega) (by omega), w32_id (x := k + 1) (by omega) (by omega), Int.tmod_eq_emod_of_nonneg m2]
      refine ⟨⟨by omega, by omega⟩, by omega, ⟨by omega, by omega⟩, fun t2 e => ih t2 ⟨by omega, fun c q1 q2 => ?_, fun c q1 q2 => ?_, fun b j hb => ?_⟩⟩
      · by_cases hck : c = k
        · subst hck; rw [e, up_same, hir]
        · rw [e, up_ne (by omega)]; exact ht c q1 (by omega)
      · rw [e, up_ne (by omega)]; exact ht' c (by omega) q2
      · rw [e, up_ne (by omega)]; exact hO b j hb
  · rw [if_neg hc]
    refine ⟨fun q => by omega, fun _ => h many s1 ?_ (by rw [if_neg hc]; omega) hO1'⟩
    rw [ins_no hc]
    exact hS.cg (fun k => hO1 s k (by omega))
theorem R_copySpan_s {a b : Int} (hka : kd a = (100, 25)) (hkb : kd b = (100, 25)) (hb0 : 0 ≤ b) (hab : a ≠ b) (h : ∀ σ', (∀ k, 0 ≤ k → k < 25 → σ' b k = σ a k) → Off (fun c j => c = b ∧ 0 ≤ j ∧ j < 25) σ σ' → Q 0 σ') : Tri (d + 1) M_R_copySpan [vA 161, vA a, vA b] σ Q := by
  refine t_R_copySpan ?_
  refine loop_up (P := fun k s => L (d + 1) M_R_copySpan 2 [vU, vA a, vA b, vI k] [] s Q) (fun k s => 0 ≤ k ∧ (∀ t, 0 ≤ t → t < k → s b t = σ a t) ∧ Off (fun c j => c = b ∧ 0 ≤ j ∧ j < 25) σ s) 25 ?_ ?_ 0 (by omega) σ ⟨by omega, fun t _ _ => by omega, Off_rfl⟩
  · rintro s ⟨_, hs, hO⟩
    exact s_R_copySpan_2 ⟨fun _ => h s hs hO, fun q => by omega⟩
  · rintro k s hk ⟨hk0, hs, hO⟩ ih
    refine s_R_copySpan_2 ⟨fun q => by omega, fun _ => ?_⟩
    rw [w32_id (by omega) (by omega), hO a k (by omega)]
    refine ⟨rd_of hka (by omega) (by omega), wr_of hb0 hkb (by omega) (by omega), fun s2 e => ih s2 ⟨by omega, fun t q1 q2 => ?_, fun c j hc => ?_⟩⟩
    · by_cases ht : t = k
      · subst ht; rw [e, up_same]
      · rw [e, up_ne (by omega)]; exact hs t q1 (by omega)
    · rw [e, up_ne (by omega)]; exact hO c j hc
theorem R_wholeSpan_s {p n a : Int} {T : Int → Int} (hR : RW σ p n T) (hka : kd a = (100, 25)) (ha0 : 0 ≤ a) (ha1 : a ≠ 161) (h : ∀ σ', SP σ' a n p n EU → Off (fun c j => c = a) σ σ' → Q n σ') : Tri (d + 1) M_R_wholeSpan [vA 161, vA a] σ Q := by
  obtain ⟨b1, b2, b3, b4⟩ := hR.1.1.b
  have e27 := hR.2.2.1
  refine t_R_wholeSpan ?_
  refine loop_up (P := fun r s => L (d + 1) M_R_wholeSpan 2 [vA 161, vA a, vI r, vU] [] s Q) (fun r s => 0 ≤ r ∧ (∀ l c, 0 ≤ l → l < r → 0 ≤ c → c < n → s a (5 * l + c) = if l = c then 1 else 0) ∧ Off (fun c j => c = a) σ s) n ?_ ?_ 0 (by omega) σ ⟨by omega, fun l c _ _ => by omega, Off_rfl⟩
  · rintro s ⟨_, hs, hO⟩
    have e2 : s 161 27 = n := (hO 161 27 (by omega)).trans e27
    refine s_R_wholeSpan_2 ⟨fun _ => ?_, fun q => by omega⟩
    rw [e2]
    refine h s ⟨(cdU (by omega)).symm, fun l c q1 q2 q3 q4 q5 => ?_, EWU b1⟩ hO
    rw [cdU q1]
    exact hs l c q1 q2 q4 q5
  · rintro r s hr ⟨hr0, hs, hO⟩ ih
    have e2 : s 161 27 = n := (hO 161 27 (by omega)).trans e27
    refine s_R_wholeSpan_2 ⟨fun q => by omega, fun _ => ?_⟩
    refine loop_up (P := fun k s => L (d + 1) M_R_wholeSpan 12 [vA 161, vA a, vI r, vI k] [] s Q) (fun k s => 0 ≤ k ∧ (∀ l c, 0 ≤ l → l < n → 0 ≤ c → c < n → (l < r ∨ (l = r ∧ c < k)) → s a (5 * l + c) = if l = c then 1 else 0) ∧ Off (fun c j => c = a) σ s) n ?_ ?_ 0 (by omega) s ⟨by omega, fun l c q1 q2 q3 q4 q5 => hs l c q1 (by omega) q3 q4, hO⟩
    · rintro t ⟨_, ht, hO2⟩
      have e2 : t 161 27 = n := (hO2 161 27 (by omega)).trans e27
      refine s_R_wholeSpan_12 ⟨fun _ => ?_, fun q => by omega⟩
      rw [w32_id (by omega) (by omega)]
      exact ih t ⟨by omega, fun l c q1 q2 q3 q4 => ht l c q1 (by omega) q3 q4 (by omega), hO2⟩
    · rintro k t hk ⟨hk0, ht, hO2⟩ ih2
      have e2 : t 161 27 = n := (hO2 161 27 (by omega)).trans e27
      refine s_R_wholeSpan_12 ⟨fun q => by omega, fun _ => ?_⟩
      rw [w32_id (x := 5 * r) (by omega) (by omega), w32_id (x := 5 * r + k) (by omega) (by omega), w32_id (x := k + 1) (by omega) (by omega)]
      refine ⟨fun q => ⟨wr_of ha0 hka (by omega) (by omega), fun t2 e => ih2 t2 ⟨by omega, fun l c q1 q2 q3 q4 q5 => ?_, fun c j hc => ?_⟩⟩, fun q => ⟨wr_of ha0 hka (by omega) (by omega), fun t2 e => ih2 t2 ⟨by omega, fun l c q1 q2 q3 q4 q5 => ?_, fun c j hc => ?_⟩⟩⟩
      · by_cases hlc : l = r ∧ c = k
        · rw [hlc.1, hlc.2, e, up_same, if_neg q]
        · rw [e, up_ne (by omega)]; exact ht l c q1 q2 q3 q4 (by omega)
      · rw [e, up_ne (by omega)]; exact hO2 c j hc
      · by_cases hlc : l = r ∧ c = k
        · rw [hlc.1, hlc.2, e, up_same, if_pos q]
        · rw [e, up_ne (by omega)]; exact ht l c q1 q2 q3 q4 (by omega)
      · rw [e, up_ne (by omega)]; exact hO2 c j hc
end RJ
