/-! ===== the model's SPANS: the row that leads at l stands in the place of its rank ===== -/
def SP (σ : SG) (s many p n : Int) (E : ES) : Prop := many = cd E.1 n ∧ (∀ l c, 0 ≤ l → l < n → E.1 l = true → 0 ≤ c → c < n → σ s (5 * cd E.1 l + c) = E.2 l c) ∧ EW p n E
theorem SP.cg {σ σ' : SG} {s many p n : Int} {E : ES} (h : SP σ s many p n E) (h1 : ∀ k, σ' s k = σ s k) : SP σ' s many p n E := ⟨h.1, fun l c q1 q2 q3 q4 q5 => by rw [h1]; exact h.2.1 l c q1 q2 q3 q4 q5, h.2.2⟩
theorem cd_sel {ℓ : Int → Bool} {w r : Int} (hw : 0 ≤ w) (h0 : 0 ≤ r) (h1 : r < cd ℓ w) : ∃ l, 0 ≤ l ∧ l < w ∧ ℓ l = true ∧ cd ℓ l = r := by
  revert h1
  refine up_ind (P := fun w => r < cd ℓ w → ∃ l, 0 ≤ l ∧ l < w ∧ ℓ l = true ∧ cd ℓ l = r) ?_ ?_ w hw
  · intro h; unfold cd at h; rw [sR_nil (by omega)] at h; omega
  · intro k hk ih h
    rw [cd_succ hk] at h
    by_cases h2 : r < cd ℓ k
    · obtain ⟨l, q1, q2, q3, q4⟩ := ih h2
      exact ⟨l, q1, by omega, q3, q4⟩
    · by_cases hl : ℓ k = true
      · rw [if_pos hl] at h
        exact ⟨k, hk, by omega, hl, by omega⟩
      · rw [if_neg hl] at h; omega
theorem cd_inj {ℓ : Int → Bool} {l m : Int} (h0 : 0 ≤ l) (h1 : 0 ≤ m) (hl : ℓ l = true) (hm : ℓ m = true) (h : cd ℓ l = cd ℓ m) : l = m := by
  rcases Int.lt_trichotomy l m with q | q | q
  · have := cd_lt h0 q hl; omega
  · exact q
  · have := cd_lt h1 q hm; omega
theorem cd_iff {ℓ : Int → Bool} {l m : Int} (h0 : 0 ≤ l) (h1 : 0 ≤ m) (hl : ℓ l = true) : cd ℓ l < cd ℓ m ↔ l < m := by
  constructor
  · intro h
    rcases Int.lt_or_le l m with q | q
    · exact q
    · have := cd_mono (ℓ := ℓ) h1 q; omega
  · intro h; exact cd_lt h0 h hl
/-- the rows of rank below r -/
def sumr (E : ES) (V : Int → Int) (n r c : Int) : Int := sR (fun l => if E.1 l = true ∧ cd E.1 l < r then V l * E.2 l c else 0) 0 n
theorem sumr_zero {E : ES} {V : Int → Int} {n c : Int} : sumr E V n 0 c = 0 := by
  unfold sumr
  apply sR_zero'
  intro k h0 _
  have := (cd_b (ℓ := E.1) h0).1
  rw [if_neg (by omega)]
theorem sumr_succ {E : ES} {V : Int → Int} {n r c l : Int} (h0 : 0 ≤ l) (h1 : l < n) (hl : E.1 l = true) (hr : cd E.1 l = r) : sumr E V n (r + 1) c = sumr E V n r c + V l * E.2 l c := by
  have h2 : sumr E V n (r + 1) c - sumr E V n r c = V l * E.2 l c := by
    unfold sumr
    rw [← sR_sub, sR_one (l := l) h0 h1]
    · rw [if_pos ⟨hl, by omega⟩, if_neg (by omega)]; omega
    · intro k g1 g2 g3
      by_cases hk : E.1 k = true
      · have : cd E.1 k ≠ r := fun e => g3 (cd_inj g1 h0 hk hl (by omega))
        by_cases hc : cd E.1 k < r
        · rw [if_pos ⟨hk, by omega⟩, if_pos ⟨hk, hc⟩]; omega
        · rw [if_neg (by omega), if_neg (by omega)]; omega
      · rw [if_neg (fun z => hk z.1), if_neg (fun z => hk z.1)]; omega
  omega
theorem sumr_all {E : ES} {V : Int → Int} {n c : Int} : sumr E V n (cd E.1 n) c = sR (fun l => if E.1 l = true then V l * E.2 l c else 0) 0 n := by
  unfold sumr
  apply sR_congr
  intro k h0 h1
  by_cases hk : E.1 k = true
  · rw [if_pos ⟨hk, cd_lt h0 h1 hk⟩, if_pos hk]
  · rw [if_neg (fun z => hk z.1), if_neg hk]
section RS
variable {d : Nat} {σ : SG} {Q : Int → SG → Prop}
theorem SP.b {s many p n : Int} {E : ES} (h : SP σ s many p n E) (hn : 0 ≤ n) : 0 ≤ many ∧ many ≤ n := by rw [h.1]; exact cd_b hn
theorem R_reduce_s {p n s many v f : Int} {T : Int → Int} {E : ES} {len : Nat} (hR : RW σ p n T) (hS : SP σ s many p n E) (hks : kd s = (100, 25)) (hs : s ≠ 185) (hkv : kd v = (100, len)) (hf : 0 ≤ f) (hfl : f + n ≤ (len : Int)) (hlen : len ≤ 5000) (hv85 : v ≠ 185) (hv : ∀ c, 0 ≤ c → c < n → 0 ≤ σ v (f + c) ∧ σ v (f + c) < p)
    (h : ∀ σ', (∀ c, 0 ≤ c → c < n → σ' 185 c = rd p n E (fun c => σ v (f + c)) c) → Off (fun b j => b = 185 ∧ 0 ≤ j ∧ j < n) σ σ' → Q 0 σ') : Tri (d + 2) M_R_reduce [vA 161, vA s, vI many, vA v, vI f] σ Q := by
  obtain ⟨b1, b2, b3, b4⟩ := hR.1.1.b
  obtain ⟨c1, c2⟩ := hS.b (by omega)
  have hEW := hS.2.2
  refine t_R_reduce (fun _ _ => ?_)
  refine loop_up (P := fun k t => L (d + 2) M_R_reduce 3 [vA 161, vA s, vI many, vA v, vI f, vI k, vU, vU] [] t Q)
    (fun k t => 0 ≤ k ∧ (∀ c, 0 ≤ c → c < k → t 185 c = σ v (f + c)) ∧ Off (fun b j => b = 185 ∧ 0 ≤ j ∧ j < n) σ t) n ?_ ?_ 0 (by omega) σ ⟨by omega, fun c _ _ => by omega, Off_rfl⟩
  · rintro t ⟨_, ht, hO⟩
    have e2 : t 161 27 = n := (hO 161 27 (by omega)).trans hR.2.2.1
    refine s_R_reduce_3 ⟨fun _ => ?_, fun q => by omega⟩
    refine loop_up (P := fun r t => L (d + 2) M_R_reduce 35 [vA 161, vA s, vI many, vU, vU, vI r, vU, vU] [] t Q)
      (fun r t => 0 ≤ r ∧ (∀ c, 0 ≤ c → c < n → t 185 c = (σ v (f + c) - sumr E (fun c => σ v (f + c)) n r c) % p) ∧ Off (fun b j => b = 185 ∧ 0 ≤ j ∧ j < n) σ t) many ?_ ?_ 0 c1 t ⟨by omega, fun c g1 g2 => ?_, hO⟩
    · rintro t2 ⟨_, ht2, hO2⟩
      refine s_R_reduce_35 ⟨fun _ => h t2 (fun c g1 g2 => ?_) hO2, fun q => by omega⟩
      rw [ht2 c g1 g2, hS.1, sumr_all]; rfl
    · rintro r t2 hr ⟨hr0, ht2, hO2⟩ ih
      obtain ⟨l, l0, l1, l2, l3⟩ := cd_sel (ℓ := E.1) (w := n) (by omega) hr0 (by rw [← hS.1]; exact hr)
      obtain ⟨r1, r2, r3, r4⟩ := hEW l l0 l1 l2
      have hR2 : RW t2 p n T := hR.fr (fun k _ _ => hO2 161 k (by omega)) (fun k => hO2 166 k (by omega)) (fun k => hO2 196 k (by omega))
      have hrow : ∀ c, 0 ≤ c → c < n → t2 s (5 * r + c) = E.2 l c := fun c g1 g2 => by
        rw [hO2 s _ (by omega), ← l3]; exact hS.2.1 l c l0 l1 l2 g1 g2
      have hlead : ldw n (fun c => t2 s (5 * r + c)) = l := ldw_u (by omega) l0 (by omega) (fun c g1 g2 => by rw [hrow c g1 (by omega)]; exact r3 c g1 g2) (fun _ => by rw [hrow l l0 l1, r2]; omega)
      refine s_R_reduce_35 ⟨fun q => by omega, fun _ => ?_⟩
      rw [w32_id (x := 5 * r) (by omega) (by omega)]
      refine R_leadOf_s hR2 hks (by omega) (by omega) (by omega) ?_
      rw [hlead, if_pos l1]
      refine ⟨⟨l0, by omega⟩, ?_⟩
      -- what stands at the lead is still v's own
      have hby : t2 185 l = σ v (f + l) := by
        rw [ht2 l l0 l1]
        have hz : sumr E (fun c => σ v (f + c)) n r l = 0 := by
          unfold sumr
          apply sR_zero'
          intro k g1 g2
          by_cases hk : E.1 k = true ∧ cd E.1 k < r
          · rw [if_pos hk, (hEW k g1 g2 hk.1).2.2.2 l l0 l1 l2 (fun e => by rw [← e] at hk; omega)]; simp
          · rw [if_neg hk]
        rw [hz, Int.sub_zero]
        have := hv l l0 l1
        exact Int.emod_eq_of_lt (by omega) (by omega)
      rw [hby]
      have hnext : ∀ t3, (∀ c, 0 ≤ c → c < n → t3 185 c = (σ v (f + c) - sumr E (fun c => σ v (f + c)) n (r + 1) c) % p) → Off (fun b j => b = 185 ∧ 0 ≤ j ∧ j < n) σ t3 → L (d + 2) M_R_reduce 35 [vA 161, vA s, vI many, vU, vU, vI (w32 (r + 1)), vU, vU] [] t3 Q := by
        intro t3 g1 g2
        rw [w32_id (by omega) (by omega)]
        exact ih t3 ⟨by omega, g1, g2⟩
      obtain ⟨v1, v2⟩ := hv l l0 l1
      refine loop_up (P := fun k t => L (d + 2) M_R_reduce 60 [vA 161, vA s, vI many, vU, vU, vI r, vI (σ v (f + l)), vI k] [] t Q)
        (fun k t3 => 0 ≤ k ∧ (∀ c, 0 ≤ c → c < k → t3 185 c = (σ v (f + c) - sumr E (fun c => σ v (f + c)) n (r + 1) c) % p) ∧ (∀ c, k ≤ c → c < n → t3 185 c = t2 185 c) ∧ Off (fun b j => b = 185 ∧ 0 ≤ j ∧ j < n) σ t3) n ?_ ?_ 0 (by omega) t2 ⟨by omega, fun c _ _ => by omega, fun _ _ _ => rfl, hO2⟩
      · rintro t3 ⟨_, ht3, _, hO3⟩
        have e2 : t3 161 27 = n := (hO3 161 27 (by omega)).trans hR.2.2.1
        exact s_R_reduce_60 ⟨fun _ => hnext t3 ht3 hO3, fun q => by omega⟩
      · rintro k t3 hk ⟨hk0, ht3, ht3', hO3⟩ ih2
        have e2 : t3 161 27 = n := (hO3 161 27 (by omega)).trans hR.2.2.1
        have e1 : t3 161 26 = p := (hO3 161 26 (by omega)).trans hR.2.1
        refine s_R_reduce_60 ⟨fun q => by omega, fun _ => ⟨fun q => hnext t3 (fun c g1 g2 => ?_) hO3, fun q => ?_⟩⟩
        · rw [sumr_succ l0 l1 l2 l3]
          by_cases hck : c < k
          · rw [ht3 c g1 hck, sumr_succ l0 l1 l2 l3]
          · rw [ht3' c (by omega) g2, ht2 c g1 g2]
            rw [q]; simp
        · have hrk : t3 s (5 * r + k) = E.2 l k := by rw [hO3 s _ (by omega), ← l3]; exact hS.2.1 l k l0 l1 l2 hk0 hk
          have hEk := r1 k hk0 hk
          have hcur := ht2 k hk0 hk
          have hcb : 0 ≤ t2 185 k ∧ t2 185 k < p := by rw [hcur]; exact ⟨Int.emod_nonneg _ (by omega), Int.emod_lt_of_pos _ (by omega)⟩
          obtain ⟨m2, m3⟩ := mul_small (a := σ v (f + l)) (b := E.2 l k) (A := 7) (B := 7) v1 (by omega) hEk.1 (by omega)
          rw [w32_id (x := 5 * r) (by omega) (by omega), w32_id (x := 5 * r + k) (by omega) (by omega), hrk, ht3' k (by omega) hk, e1, w32_id (x := σ v (f + l) * E.2 l k) (by omega) (by omega), w32_id (x := t2 185 k - σ v (f + l) * E.2 l k) (by omega) (by omega), w32_id (x := k + 1) (by omega) (by omega)]
          refine ⟨⟨by omega, by omega⟩, rd_of hks (by omega) (by omega), R_left_s ⟨b1, b2⟩ ⟨⟨by omega, by omega⟩, fun t4 e4 => ih2 t4 ⟨by omega, fun c g1 g2 => ?_, fun c g1 g2 => ?_, fun b j hb => ?_⟩⟩⟩
          · by_cases hck : c = k
            · subst hck
              rw [e4, up_same, sumr_succ l0 l1 l2 l3, hcur]
              generalize sumr E (fun c => σ v (f + c)) n r c = S
              obtain ⟨q5, hq5⟩ := emod_ex (σ v (f + c) - S) p
              rw [hq5]
              refine emod_cg (q := q5) ?_
              grind
            · rw [e4, up_ne (by omega)]; exact ht3 c g1 (by omega)
          · rw [e4, up_ne (by omega)]; exact ht3' c (by omega) g2
          · rw [e4, up_ne (by omega)]; exact hO3 b j hb
    · rw [ht c g1 g2, sumr_zero, Int.sub_zero]
      have := hv c g1 g2
      exact (Int.emod_eq_of_lt (by omega) (by omega)).symm
  · rintro k t hk ⟨hk0, ht, hO⟩ ih
    have e2 : t 161 27 = n := (hO 161 27 (by omega)).trans hR.2.2.1
    have ev : t v (f + k) = σ v (f + k) := hO v _ (by omega)
    refine s_R_reduce_3 ⟨fun q => by omega, fun _ => ?_⟩
    rw [w32_id (x := f + k) (by omega) (by omega), w32_id (x := k + 1) (by omega) (by omega), ev]
    refine ⟨rd_of hkv (by omega) (by omega), ⟨by omega, by omega⟩, fun t2 e => ih t2 ⟨by omega, fun c g1 g2 => ?_, fun b j hb => ?_⟩⟩
    · by_cases hck : c = k
      · subst hck; rw [e, up_same]
      · rw [e, up_ne (by omega)]; exact ht c g1 (by omega)
    · rw [e, up_ne (by omega)]; exact hO b j hb
theorem R_holds_s {p n s many v f : Int} {T : Int → Int} {E : ES} {len : Nat} (hR : RW σ p n T) (hS : SP σ s many p n E) (hks : kd s = (100, 25)) (hs : s ≠ 185) (hkv : kd v = (100, len)) (hf : 0 ≤ f) (hfl : f + n ≤ (len : Int)) (hlen : len ≤ 5000) (hv85 : v ≠ 185) (hv : ∀ c, 0 ≤ c → c < n → 0 ≤ σ v (f + c) ∧ σ v (f + c) < p)
    (h1 : ∀ σ', ild p n E (fun c => σ v (f + c)) = n → Off (fun b j => b = 185) σ σ' → Q 1 σ') (h0 : ∀ σ', ild p n E (fun c => σ v (f + c)) < n → Off (fun b j => b = 185) σ σ' → Q 0 σ') : Tri (d + 3) M_R_holds [vA 161, vA s, vI many, vA v, vI f] σ Q := by
  obtain ⟨b1, b2, b3, b4⟩ := hR.1.1.b
  refine t_R_holds (fun _ _ => R_reduce_s hR hS hks hs hkv hf hfl hlen hv85 hv (fun s1 g1 hO1 => ?_))
  have hR1 : RW s1 p n T := hR.fr (fun k _ _ => hO1 161 k (by omega)) (fun k => hO1 166 k (by omega)) (fun k => hO1 196 k (by omega))
  have hld : ldw n (fun c => s1 185 (0 + c)) = ild p n E (fun c => σ v (f + c)) := ldw_cg (by omega) (fun c q1 q2 => by rw [show (0 : Int) + c = c by omega]; exact g1 c q1 q2)
  have hO1' : Off (fun b j => b = 185) σ s1 := Off_mono hO1 (fun a k q => q.1)
  obtain ⟨l1, l2, _, _⟩ := ldw_s (show 0 ≤ n by omega) (rd p n E (fun c => σ v (f + c)))
  refine R_leadOf_s hR1 kd_185 (by omega) (by omega) (by omega) ?_
  rw [hld]
  by_cases hc : ild p n E (fun c => σ v (f + c)) < n
  · rw [if_pos hc]
    refine ⟨fun _ => h0 s1 hc hO1', fun q => ?_⟩
    unfold ild at q; omega
  · rw [if_neg hc]
    refine ⟨fun q => by omega, fun _ => h1 s1 ?_ hO1'⟩
    unfold ild at hc ⊢; omega
end RS
