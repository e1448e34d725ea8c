/-! ===== SCRIPTS: lines and steps tell the same ===== -/
/-- the numbers of line b are those of step q -/
def ARG (C : Int → Int → Int) (b : Int) (M : Int → Int → Int) (q : Int) : Prop :=
  (C b 0 = 1 → (C b 1 = M q 1 ∧ 0 ≤ C b 1 ∧ C b 1 ≤ 4) ∧ (C b 2 = M q 2 ∧ 0 ≤ C b 2 ∧ C b 2 ≤ 4)) ∧
  (C b 0 = 2 → (C b 1 = M q 1 ∧ 0 ≤ C b 1 ∧ C b 1 ≤ 4) ∧ (C b 2 = M q 2 ∧ 1 ≤ C b 2 ∧ C b 2 ≤ 6)) ∧
  (C b 0 = 3 → (C b 1 = M q 3 ∧ 0 ≤ C b 1 ∧ C b 1 ≤ 6) ∧ (C b 2 = M q 1 ∧ 0 ≤ C b 2 ∧ C b 2 ≤ 4) ∧ (C b 3 = M q 2 ∧ 0 ≤ C b 3 ∧ C b 3 ≤ 4)) ∧
  ((C b 0 = 4 ∨ C b 0 = 5 ∨ C b 0 = 6) → C b 1 = M q 1 ∧ 0 ≤ C b 1 ∧ C b 1 ≤ 3) ∧
  (C b 0 = 7 → (C b 1 = M q 1 + 1 ∧ 1 ≤ C b 1 ∧ C b 1 ≤ 7) ∧ (C b 1 = 5 → C b 2 = M q 2 ∧ 0 ≤ C b 2 ∧ C b 2 ≤ 5) ∧ ((C b 1 = 5 ∨ C b 1 = 6) → C b 3 = cmS (M q 4) ∧ (M q 4 = 60 ∨ M q 4 = 62 ∨ M q 4 = 61) ∧ C b 4 = M q 5 ∧ 0 ≤ C b 4 ∧ C b 4 ≤ 5) ∧ (C b 1 = 7 → C b 2 = M q 2 ∧ 0 ≤ C b 2 ∧ C b 2 ≤ 3)) ∧
  (C b 0 = 8 → C b 1 = M q 1 ∧ 1 ≤ C b 1 ∧ C b 1 ≤ 99)
theorem ARG_cg {C C' M M' : Int → Int → Int} {b q : Int} (h : ARG C b M q) (h1 : ∀ c, 0 ≤ c → c ≤ 4 → C' b c = C b c) (h2 : ∀ c, 0 ≤ c → c ≤ 5 → M' q c = M q c) : ARG C' b M' q := by
  unfold ARG at *
  rw [h1 0 (by omega) (by omega), h1 1 (by omega) (by omega), h1 2 (by omega) (by omega), h1 3 (by omega) (by omega), h1 4 (by omega) (by omega), h2 1 (by omega) (by omega), h2 2 (by omega) (by omega), h2 3 (by omega) (by omega), h2 4 (by omega) (by omega), h2 5 (by omega) (by omega)]
  exact h
theorem cnv_ok {f : Int → Int} {N lo hi : Int} {s : PS} (h0 : 0 ≤ s.1) (h : (cns f N lo hi s).1 = 0) : lo ≤ cnv f N lo hi s ∧ cnv f N lo hi s ≤ hi := by
  obtain ⟨g0, g1, g2, g3⟩ := cns_ok h0 h
  rw [cnv_go g0 g1 g2 g3]; exact ⟨g2, g3⟩
theorem agC_ne {f : Int → Int} {N w l a b : Int} {s : PS} {C : Int → Int → Int} (h : a ≠ l ∨ b = 0 ∨ 5 ≤ b) : agC f N w s C l a b = C a b := by
  unfold agC tsC
  repeat' split
  all_goals first
    | (rw [c2u_ne (by omega)]; repeat rw [c2u_ne (by omega)])
    | rfl
theorem agM_ne {f : Int → Int} {N w m a b : Int} {s : PS} {M : Int → Int → Int} (h : a ≠ m ∨ b = 0 ∨ 6 ≤ b) : agM f N w s M m a b = M a b := by
  unfold agM tsM
  repeat' split
  all_goals first
    | (rw [c2u_ne (by omega)]; repeat rw [c2u_ne (by omega)])
    | rfl
theorem sgZ_c {f : Int → Int} {N e : Int} (h : isC f N e) : (sgZ f N e = 60 ∨ sgZ f N e = 62 ∨ sgZ f N e = 61) ∧ sgZ f N e = f (tS f N e) := by
  unfold sgZ
  rcases h with h | h | h
  · rw [if_pos h.1, h.2]; omega
  · rw [if_pos h.1, h.2]; omega
  · rw [if_pos h.1, h.2]; omega
theorem ARG_ag {f : Int → Int} {N w l m : Int} {s : PS} {C M : Int → Int → Int} (w0 : 1 ≤ w) (w1 : w ≤ 9) (hC : C l 0 = w) (g0 : 0 ≤ s.1) (hs : (agS f N w s).1 = 0) : ARG (agC f N w s C l) l (agM f N w s M m) m := by
  have z0 : agC f N w s C l l 0 = w := (agC_ne (by omega)).trans hC
  unfold ARG
  rw [z0]
  refine ⟨fun e => ?_, fun e => ?_, fun e => ?_, fun e => ?_, fun e => ?_, fun e => ?_⟩
  · subst e
    unfold agS at hs
    rw [if_pos rfl] at hs
    have eC : agC f N 1 s C l = c2u (c2u C l 1 (cnv f N 0 4 s)) l 2 (cnv f N 0 4 (cns f N 0 4 s)) := by unfold agC; rw [if_pos rfl]
    have eM : agM f N 1 s M m = c2u (c2u M m 1 (cnv f N 0 4 s)) m 2 (cnv f N 0 4 (cns f N 0 4 s)) := by unfold agM; rw [if_pos rfl]
    rw [eC, eM]
    have b2 := cnv_ok (cns_nn g0) hs
    have b1 := cnv_ok g0 (cns_ok (cns_nn g0) hs).1
    rw [c2u_ne (by omega), c2u_same, c2u_ne (by omega), c2u_same, c2u_same, c2u_same]
    exact ⟨⟨rfl, b1⟩, rfl, b2⟩
  · subst e
    unfold agS at hs
    rw [if_neg (by omega), if_pos rfl] at hs
    have eC : agC f N 2 s C l = c2u (c2u C l 1 (cnv f N 0 4 s)) l 2 (cnv f N 1 6 (agw f N 9 (cns f N 0 4 s))) := by unfold agC; rw [if_neg (by omega), if_pos rfl]
    have eM : agM f N 2 s M m = c2u (c2u M m 1 (cnv f N 0 4 s)) m 2 (cnv f N 1 6 (agw f N 9 (cns f N 0 4 s))) := by unfold agM; rw [if_neg (by omega), if_pos rfl]
    rw [eC, eM]
    have n1 := cns_nn (f := f) (N := N) (lo := 0) (hi := 4) g0
    have n2 : 0 ≤ (agw f N 9 (cns f N 0 4 s)).1 := mst_nn n1
    have b2 := cnv_ok n2 hs
    have b1 := cnv_ok g0 (mst_ok n1 (cns_ok n2 hs).1).1
    rw [c2u_ne (by omega), c2u_same, c2u_ne (by omega), c2u_same, c2u_same, c2u_same]
    exact ⟨⟨rfl, b1⟩, rfl, b2⟩
  · subst e
    unfold agS at hs
    rw [if_neg (by omega), if_neg (by omega), if_pos rfl] at hs
    have eC : agC f N 3 s C l = c2u (c2u (c2u C l 1 (cnv f N 0 6 s)) l 2 (cnv f N 0 4 (agw f N 5 (cns f N 0 6 s)))) l 3 (cnv f N 0 4 (agw f N 10 (cns f N 0 4 (agw f N 5 (cns f N 0 6 s))))) := by unfold agC; rw [if_neg (by omega), if_neg (by omega), if_pos rfl]
    have eM : agM f N 3 s M m = c2u (c2u (c2u M m 3 (cnv f N 0 6 s)) m 1 (cnv f N 0 4 (agw f N 5 (cns f N 0 6 s)))) m 2 (cnv f N 0 4 (agw f N 10 (cns f N 0 4 (agw f N 5 (cns f N 0 6 s))))) := by unfold agM; rw [if_neg (by omega), if_neg (by omega), if_pos rfl]
    rw [eC, eM]
    have n1 := cns_nn (f := f) (N := N) (lo := 0) (hi := 6) g0
    have n2 : 0 ≤ (agw f N 5 (cns f N 0 6 s)).1 := mst_nn n1
    have n3 := cns_nn (f := f) (N := N) (lo := 0) (hi := 4) n2
    have n4 : 0 ≤ (agw f N 10 (cns f N 0 4 (agw f N 5 (cns f N 0 6 s)))).1 := mst_nn n3
    have b3 := cnv_ok n4 hs
    have q3 := (mst_ok n3 (cns_ok n4 hs).1).1
    have b2 := cnv_ok n2 q3
    have b1 := cnv_ok g0 (mst_ok n1 (cns_ok n2 q3).1).1
    refine ⟨⟨?_, ?_⟩, ⟨?_, ?_⟩, ?_, ?_⟩
    · rw [c2u_ne (by omega), c2u_ne (by omega), c2u_same, c2u_ne (by omega), c2u_ne (by omega), c2u_same]
    · rw [c2u_ne (by omega), c2u_ne (by omega), c2u_same]; exact b1
    · rw [c2u_ne (by omega), c2u_same, c2u_ne (by omega), c2u_same]
    · rw [c2u_ne (by omega), c2u_same]; exact b2
    · rw [c2u_same, c2u_same]
    · rw [c2u_same]; exact b3
  · have eC : agC f N w s C l = c2u C l 1 (cnv f N 0 3 s) := by unfold agC; rw [if_neg (by omega), if_neg (by omega), if_neg (by omega), if_neg (by omega), if_neg (by omega), if_pos e]
    have eM : agM f N w s M m = c2u M m 1 (cnv f N 0 3 s) := by unfold agM; rw [if_neg (by omega), if_neg (by omega), if_neg (by omega), if_neg (by omega), if_neg (by omega), if_pos e]
    unfold agS at hs
    rw [if_neg (by omega), if_neg (by omega), if_neg (by omega), if_neg (by omega), if_neg (by omega), if_pos e] at hs
    rw [eC, eM, c2u_same, c2u_same]
    exact ⟨rfl, cnv_ok g0 hs⟩
  · subst e
    unfold agS at hs
    rw [if_neg (by omega), if_neg (by omega), if_neg (by omega), if_pos rfl] at hs
    have eC : agC f N 7 s C l = tsC f N s C l := by unfold agC; rw [if_neg (by omega), if_neg (by omega), if_neg (by omega), if_pos rfl]
    have eM : agM f N 7 s M m = tsM f N s M m := by unfold agM; rw [if_neg (by omega), if_neg (by omega), if_neg (by omega), if_pos rfl]
    rw [eC, eM]
    have t7 := waR_7 (f := f) (N := N) (e := s.2.2)
    have t0 := waR_nn (f := f) (N := N) (e := s.2.2) (u := strI 8)
    have n0 : 0 ≤ (ts0 f N s).1 := mst_nn g0
    have nz : (ts0 f N s).1 = 0 → waR f N s.2.2 (strI 8) ≠ 0 := fun h => zb_i (mst_ok g0 h).2
    by_cases h5 : waR f N s.2.2 (strI 8) = 5
    · unfold tsS at hs
      rw [if_pos h5] at hs
      have n1 := cns_nn (f := f) (N := N) (lo := 0) (hi := 5) n0
      have n2 : 0 ≤ (agc f N (cns f N 0 5 (ts0 f N s))).1 := mst_nn n1
      have b2 := cnv_ok n2 hs
      have q2 := mst_ok n1 (cns_ok n2 hs).1
      have b1 := cnv_ok n0 q2.1
      have sg := sgZ_c (zb_i q2.2)
      have e1 : tsC f N s C l l 1 = 5 := by unfold tsC; rw [if_pos h5, c2u_ne (by omega), c2u_ne (by omega), c2u_ne (by omega), c2u_same]; exact h5
      have e2 : tsC f N s C l l 2 = cnv f N 0 5 (ts0 f N s) := by unfold tsC; rw [if_pos h5, c2u_ne (by omega), c2u_ne (by omega), c2u_same]
      have e3 : tsC f N s C l l 3 = cmS (f (tS f N (cns f N 0 5 (ts0 f N s)).2.2)) := by unfold tsC; rw [if_pos h5, c2u_ne (by omega), c2u_same]
      have e4 : tsC f N s C l l 4 = cnv f N 0 5 (agc f N (cns f N 0 5 (ts0 f N s))) := by unfold tsC; rw [if_pos h5, c2u_same]
      have m1 : tsM f N s M m m 1 = 4 := by unfold tsM; rw [if_pos h5, c2u_ne (by omega), c2u_ne (by omega), c2u_ne (by omega), c2u_same]; omega
      have m2 : tsM f N s M m m 2 = cnv f N 0 5 (ts0 f N s) := by unfold tsM; rw [if_pos h5, c2u_ne (by omega), c2u_ne (by omega), c2u_same]
      have m4 : tsM f N s M m m 4 = sgZ f N (cns f N 0 5 (ts0 f N s)).2.2 := by unfold tsM; rw [if_pos h5, c2u_ne (by omega), c2u_same]
      have m5 : tsM f N s M m m 5 = cnv f N 0 5 (agc f N (cns f N 0 5 (ts0 f N s))) := by unfold tsM; rw [if_pos h5, c2u_same]
      rw [e1, e2, e3, e4, m1, m2, m4, m5]
      exact ⟨⟨by omega, by omega, by omega⟩, fun _ => ⟨rfl, b1⟩, fun _ => ⟨by rw [sg.2], sg.1, rfl, b2⟩, fun y => by omega⟩
    · by_cases h6 : waR f N s.2.2 (strI 8) = 6
      · unfold tsS at hs
        rw [if_neg h5, if_pos h6] at hs
        have n2 : 0 ≤ (agc f N (ts0 f N s)).1 := mst_nn n0
        have b2 := cnv_ok n2 hs
        have q2 := mst_ok n0 (cns_ok n2 hs).1
        have sg := sgZ_c (zb_i q2.2)
        have e1 : tsC f N s C l l 1 = 6 := by unfold tsC; rw [if_neg h5, if_pos h6, c2u_ne (by omega), c2u_ne (by omega), c2u_same]; exact h6
        have e3 : tsC f N s C l l 3 = cmS (f (tS f N (ts0 f N s).2.2)) := by unfold tsC; rw [if_neg h5, if_pos h6, c2u_ne (by omega), c2u_same]
        have e4 : tsC f N s C l l 4 = cnv f N 0 5 (agc f N (ts0 f N s)) := by unfold tsC; rw [if_neg h5, if_pos h6, c2u_same]
        have m1 : tsM f N s M m m 1 = 5 := by unfold tsM; rw [if_neg h5, if_pos h6, c2u_ne (by omega), c2u_ne (by omega), c2u_same]; omega
        have m4 : tsM f N s M m m 4 = sgZ f N (ts0 f N s).2.2 := by unfold tsM; rw [if_neg h5, if_pos h6, c2u_ne (by omega), c2u_same]
        have m5 : tsM f N s M m m 5 = cnv f N 0 5 (agc f N (ts0 f N s)) := by unfold tsM; rw [if_neg h5, if_pos h6, c2u_same]
        rw [e1, e3, e4, m1, m4, m5]
        exact ⟨⟨by omega, by omega, by omega⟩, fun y => by omega, fun _ => ⟨by rw [sg.2], sg.1, rfl, b2⟩, fun y => by omega⟩
      · by_cases h7 : waR f N s.2.2 (strI 8) = 7
        · unfold tsS at hs
          rw [if_neg h5, if_neg h6, if_pos h7] at hs
          have b1 := cnv_ok n0 hs
          have e1 : tsC f N s C l l 1 = 7 := by unfold tsC; rw [if_neg h5, if_neg h6, if_pos h7, c2u_ne (by omega), c2u_same]; exact h7
          have e2 : tsC f N s C l l 2 = cnv f N 0 3 (ts0 f N s) := by unfold tsC; rw [if_neg h5, if_neg h6, if_pos h7, c2u_same]
          have m1 : tsM f N s M m m 1 = 6 := by unfold tsM; rw [if_neg h5, if_neg h6, if_pos h7, c2u_ne (by omega), c2u_same]; omega
          have m2 : tsM f N s M m m 2 = cnv f N 0 3 (ts0 f N s) := by unfold tsM; rw [if_neg h5, if_neg h6, if_pos h7, c2u_same]
          rw [e1, e2, m1, m2]
          exact ⟨⟨by omega, by omega, by omega⟩, fun y => by omega, fun y => by omega, fun _ => ⟨rfl, b1⟩⟩
        · unfold tsS at hs
          rw [if_neg h5, if_neg h6, if_neg h7] at hs
          have hz := nz hs
          have e1 : tsC f N s C l l 1 = waR f N s.2.2 (strI 8) := by unfold tsC; rw [if_neg h5, if_neg h6, if_neg h7, c2u_same]
          have m1 : tsM f N s M m m 1 = waR f N s.2.2 (strI 8) - 1 := by unfold tsM; rw [if_neg h5, if_neg h6, if_neg h7, c2u_same]
          rw [e1, m1]
          exact ⟨⟨by omega, by omega, by omega⟩, fun y => absurd y h5, fun y => by omega, fun y => absurd y h7⟩
  · subst e
    unfold agS at hs
    rw [if_neg (by omega), if_neg (by omega), if_neg (by omega), if_neg (by omega), if_pos rfl] at hs
    have eC : agC f N 8 s C l = c2u C l 1 (cnv f N 1 99 s) := by unfold agC; rw [if_neg (by omega), if_neg (by omega), if_neg (by omega), if_neg (by omega), if_pos rfl]
    have eM : agM f N 8 s M m = c2u M m 1 (cnv f N 1 99 s) := by unfold agM; rw [if_neg (by omega), if_neg (by omega), if_neg (by omega), if_neg (by omega), if_pos rfl]
    rw [eC, eM, c2u_same, c2u_same]
    exact ⟨rfl, cnv_ok g0 hs⟩
/-! the shape: columns 6 and 7 of a line, which no heap holds, tell how many STEPS stand ahead of it, and how deep it stands -/
def CLS (C M : Int → Int → Int) (l b : Int) : Prop := (b < C b 5 ∧ C b 5 < l) ∧ C (C b 5) 0 = 10 ∧ C (C b 5) 5 = b ∧ M (C b 6) 6 = C (C b 5) 6 ∧ C (C b 5) 7 = C b 7 + 1 ∧ ∀ x, b < x → x ≤ C b 5 → C b 7 + 1 ≤ C x 7
/-- what is told of a line that isn't an end -/
def LNE (C M : Int → Int → Int) (b : Int) : Prop := C (b + 1) 6 = C b 6 + 1 ∧ ((C b 0 = 7 ∨ C b 0 = 8) → C (b + 1) 7 = C b 7 + 1) ∧ (¬ (C b 0 = 7 ∨ C b 0 = 8) → C (b + 1) 7 = C b 7 ∧ M (C b 6) 6 = C b 6 + 1) ∧ M (C b 6) 0 = C b 0 - 1 ∧ ARG C b M (C b 6)
def SI (l k g : Int) (o : Int → Int) (C M : Int → Int → Int) : Prop :=
  (C l 6 = k ∧ C l 7 = g ∧ C 0 6 = 0 ∧ C 0 7 = 0) ∧
  (∀ b, 0 ≤ b → b < l → (1 ≤ C b 0 ∧ C b 0 ≤ 10) ∧ (C b 0 = 10 → (0 ≤ C b 5 ∧ C b 5 < b) ∧ (C (C b 5) 0 = 7 ∨ C (C b 5) 0 = 8) ∧ C (C b 5) 7 + 1 = C b 7)) ∧
  (∀ b, 0 ≤ b → b < l → C b 0 = 10 → C (b + 1) 6 = C b 6 ∧ C (b + 1) 7 = C b 7 - 1) ∧
  (∀ b, 0 ≤ b → b < l → C b 0 ≠ 10 → LNE C M b) ∧
  (∀ b, 0 ≤ b → b ≤ l → 0 ≤ C b 6 ∧ (0 ≤ C b 7 ∧ C b 7 ≤ 3)) ∧
  (∀ b x, 0 ≤ b → b < x → x ≤ l → C b 6 ≤ C x 6 ∧ (C b 0 ≠ 10 → C b 6 < C x 6)) ∧
  (∀ b, 0 ≤ b → b < l → (C b 0 = 7 ∨ C b 0 = 8) → (∃ i, 0 ≤ i ∧ i < g ∧ o i = b) ∨ CLS C M l b) ∧
  (∀ i, 0 ≤ i → i < g → (0 ≤ o i ∧ o i < l) ∧ (C (o i) 0 = 7 ∨ C (o i) 0 = 8) ∧ C (o i) 7 = i ∧ ∀ x, o i < x → x ≤ l → i + 1 ≤ C x 7)
theorem SI_step {l k g g' w : Int} {o o' : Int → Int} {C C' M M' : Int → Int → Int} (h : SI l k g o C M) (l0 : 0 ≤ l) (hg3 : g' ≤ 3) (w0 : 1 ≤ w) (w1 : w ≤ 9)
    (c1 : ∀ b c, b < l → C' b c = C b c) (c2 : C' l 0 = w) (c3 : C' l 6 = C l 6) (c4 : C' l 7 = C l 7) (c5 : C' (l + 1) 6 = k + 1) (c6 : C' (l + 1) 7 = g')
    (m1 : ∀ q c, q < k → M' q c = M q c) (m2 : M' k 0 = w - 1) (ha : ARG C' l M' k)
    (hb : ((w = 7 ∨ w = 8) ∧ g' = g + 1 ∧ o' g = l ∧ ∀ i, i < g → o' i = o i) ∨ (¬ (w = 7 ∨ w = 8) ∧ g' = g ∧ o' = o ∧ M' k 6 = k + 1)) : SI (l + 1) (k + 1) g' o' C' M' := by
  obtain ⟨⟨a1, a2, a3, a4⟩, h2, h3, h4, h5, h6, h7, h8⟩ := h
  have r6 : ∀ b, b ≤ l → C' b 6 = C b 6 := fun b hb => by
    by_cases q : b = l
    · rw [q]; exact c3
    · exact c1 b 6 (by omega)
  have r7 : ∀ b, b ≤ l → C' b 7 = C b 7 := fun b hb => by
    by_cases q : b = l
    · rw [q]; exact c4
    · exact c1 b 7 (by omega)
  have hk0 := (h5 l l0 (by omega)).1
  have hg0 := (h5 l l0 (by omega)).2
  have sub : ∀ b, 0 ≤ b → b < l → C b 0 ≠ 10 → C b 6 < k := fun b b0 b1 hb => by have := (h6 b l b0 b1 (by omega)).2 hb; omega
  have cls : ∀ b, 0 ≤ b → b < l → (C b 0 = 7 ∨ C b 0 = 8) → CLS C M l b → CLS C' M' (l + 1) b := fun b b0 b1 hb hc => by
    obtain ⟨⟨p1, p2⟩, p3, p4, p5, p6, p7⟩ := hc
    have := sub b b0 b1 (by omega)
    unfold CLS
    rw [c1 b 5 b1, c1 b 6 b1, c1 b 7 b1, c1 _ 0 p2, c1 _ 5 p2, c1 _ 6 p2, c1 _ 7 p2, m1 _ _ this]
    exact ⟨⟨p1, by omega⟩, p3, p4, p5, p6, fun x x0 x1 => by rw [r7 x (by omega)]; exact p7 x x0 x1⟩
  refine ⟨⟨c5, c6, by rw [r6 0 (by omega)]; exact a3, by rw [r7 0 (by omega)]; exact a4⟩, fun b b0 b1 => ?_, fun b b0 b1 hb0 => ?_, fun b b0 b1 hb0 => ?_, fun b b0 b1 => ?_, fun b x b0 bx xl => ?_, fun b b0 b1 hbl => ?_, fun i i0 i1 => ?_⟩
  · by_cases q : b = l
    · rw [q, c2]; exact ⟨by omega, fun y => by omega⟩
    · rw [c1 b 0 (by omega)]
      refine ⟨(h2 b b0 (by omega)).1, fun y => ?_⟩
      have y2 := (h2 b b0 (by omega)).2 y
      rw [c1 b 5 (by omega), c1 _ 0 (by omega), c1 _ 7 (by omega), r7 b (by omega)]; exact y2
  · by_cases q : b = l
    · rw [q, c2] at hb0; omega
    · rw [c1 b 0 (by omega)] at hb0
      rw [r6 (b + 1) (by omega), r7 (b + 1) (by omega), r6 b (by omega), r7 b (by omega)]
      exact h3 b b0 (by omega) hb0
  · unfold LNE
    by_cases q : b = l
    · rw [q, c2, c3, c4, a1, a2, c5, c6]
      refine ⟨rfl, fun y => ?_, fun y => ?_, m2, ha⟩
      · rcases hb with e | e
        · exact e.2.1
        · exact absurd y e.1
      · rcases hb with e | e
        · exact absurd e.1 y
        · exact ⟨e.2.1, e.2.2.2⟩
    · rw [c1 b 0 (by omega)] at hb0
      obtain ⟨p1, p2, p3, p4, p5⟩ := h4 b b0 (by omega) hb0
      have hs := sub b b0 (by omega) hb0
      rw [c1 b 0 (by omega), r6 (b + 1) (by omega), r7 (b + 1) (by omega), r6 b (by omega), r7 b (by omega), m1 _ _ hs, m1 _ _ hs]
      exact ⟨p1, p2, p3, p4, ARG_cg p5 (fun c _ _ => c1 b c (by omega)) (fun c _ _ => m1 _ c hs)⟩
  · by_cases q : b = l + 1
    · rw [q, c5, c6]
      refine ⟨by omega, ?_⟩
      rcases hb with e | e <;> omega
    · rw [r6 b (by omega), r7 b (by omega)]; exact h5 b b0 (by omega)
  · have e1 : C' b 0 ≠ 10 ∨ C' b 0 = 10 := by omega
    by_cases q : x = l + 1
    · rw [q, c5, r6 b (by omega)]
      by_cases q2 : b = l
      · rw [q2, a1]; exact ⟨by omega, fun _ => by omega⟩
      · have := h6 b l b0 (by omega) (by omega)
        exact ⟨by omega, fun _ => by omega⟩
    · rw [r6 b (by omega), r6 x (by omega), c1 b 0 (by omega)]; exact h6 b x b0 bx (by omega)
  · by_cases q : b = l
    · rw [q, c2] at hbl
      rcases hb with e | e
      · left; exact ⟨g, by omega, by omega, by rw [q]; exact e.2.2.1⟩
      · exact absurd hbl e.1
    · rw [c1 b 0 (by omega)] at hbl
      rcases h7 b b0 (by omega) hbl with ⟨i, i0, i1, hi⟩ | hc
      · left
        rcases hb with e | e
        · exact ⟨i, i0, by omega, by rw [e.2.2.2 i i1]; exact hi⟩
        · exact ⟨i, i0, by omega, by rw [e.2.2.1]; exact hi⟩
      · right; exact cls b b0 (by omega) hbl hc
  · have old : ∀ i, 0 ≤ i → i < g → o' i = o i → g ≤ g' → (0 ≤ o' i ∧ o' i < l + 1) ∧ (C' (o' i) 0 = 7 ∨ C' (o' i) 0 = 8) ∧ C' (o' i) 7 = i ∧ ∀ x, o' i < x → x ≤ l + 1 → i + 1 ≤ C' x 7 := fun i i0 i1 hi hgg => by
      obtain ⟨⟨p1, p2⟩, p3, p4, p5⟩ := h8 i i0 i1
      rw [hi, c1 _ 0 p2, c1 _ 7 p2]
      refine ⟨⟨p1, by omega⟩, p3, p4, fun x x0 x1 => ?_⟩
      by_cases q : x = l + 1
      · rw [q, c6]; omega
      · rw [r7 x (by omega)]; exact p5 x x0 (by omega)
    rcases hb with e | e
    · by_cases q : i = g
      · rw [q, e.2.2.1, c2, c4, a2]
        refine ⟨⟨l0, by omega⟩, e.1, rfl, fun x x0 x1 => ?_⟩
        rw [show x = l + 1 by omega, c6]; omega
      · exact old i i0 (by omega) (e.2.2.2 i (by omega)) (by omega)
    · exact old i i0 (by omega) (by rw [e.2.2.1]) (by omega)
theorem SI_end {l k g : Int} {o : Int → Int} {C C' M M' : Int → Int → Int} (h : SI l k g o C M) (l0 : 0 ≤ l) (g0 : 0 < g)
    (c1 : ∀ b c, b < l → (b ≠ o (g - 1) ∨ c ≠ 5) → C' b c = C b c) (c0 : C' (o (g - 1)) 5 = l) (c2 : C' l 0 = 10) (c7 : C' l 5 = o (g - 1)) (c3 : C' l 6 = C l 6) (c4 : C' l 7 = C l 7) (c5 : C' (l + 1) 6 = k) (c6 : C' (l + 1) 7 = g - 1)
    (m1 : ∀ q c, (q ≠ C (o (g - 1)) 6 ∨ c ≠ 6) → M' q c = M q c) (m2 : M' (C (o (g - 1)) 6) 6 = k) : SI (l + 1) k (g - 1) o C' M' := by
  obtain ⟨⟨a1, a2, a3, a4⟩, h2, h3, h4, h5, h6, h7, h8⟩ := h
  have r6 : ∀ b, b ≤ l → C' b 6 = C b 6 := fun b hb => by
    by_cases q : b = l
    · rw [q]; exact c3
    · exact c1 b 6 (by omega) (by omega)
  have r7 : ∀ b, b ≤ l → C' b 7 = C b 7 := fun b hb => by
    by_cases q : b = l
    · rw [q]; exact c4
    · exact c1 b 7 (by omega) (by omega)
  have hg3 := (h5 l l0 (by omega)).2
  have hk0 := (h5 l l0 (by omega)).1
  obtain ⟨⟨q1, q2⟩, q3, q4, q5⟩ := h8 (g - 1) (by omega) (by omega)
  have dif : ∀ b, 0 ≤ b → b < l → C b 0 ≠ 10 → b ≠ o (g - 1) → C b 6 ≠ C (o (g - 1)) 6 := fun b b0 b1 hb hne => by
    rcases Int.lt_or_gt_of_ne hne with y | y
    · have := (h6 b (o (g - 1)) b0 y (by omega)).2 hb; omega
    · have := (h6 (o (g - 1)) b q1 y (by omega)).2 (by omega); omega
  refine ⟨⟨c5, c6, by rw [r6 0 (by omega)]; exact a3, by rw [r7 0 (by omega)]; exact a4⟩, fun b b0 b1 => ?_, fun b b0 b1 hb0 => ?_, fun b b0 b1 hb0 => ?_, fun b b0 b1 => ?_, fun b x b0 bx xl => ?_, fun b b0 b1 hbl => ?_, fun i i0 i1 => ?_⟩
  · by_cases q : b = l
    · rw [q, c2, c7, c4, a2, c1 _ 0 q2 (by omega), r7 _ (by omega), q4]
      exact ⟨by omega, fun _ => ⟨⟨q1, q2⟩, q3, by omega⟩⟩
    · rw [c1 b 0 (by omega) (by omega)]
      refine ⟨(h2 b b0 (by omega)).1, fun y => ?_⟩
      have y2 := (h2 b b0 (by omega)).2 y
      have hne : b ≠ o (g - 1) := fun z => by rw [z] at y; omega
      rw [c1 b 5 (by omega) (by omega), c1 _ 0 (by omega) (by omega), c1 _ 7 (by omega) (by omega), r7 b (by omega)]; exact y2
  · by_cases q : b = l
    · rw [q, c3, c4, c5, c6, a1, a2]; exact ⟨rfl, rfl⟩
    · rw [c1 b 0 (by omega) (by omega)] at hb0
      rw [r6 (b + 1) (by omega), r7 (b + 1) (by omega), r6 b (by omega), r7 b (by omega)]
      exact h3 b b0 (by omega) hb0
  · by_cases q : b = l
    · rw [q, c2] at hb0; omega
    · rw [c1 b 0 (by omega) (by omega)] at hb0
      obtain ⟨p1, p2, p3, p4, p5⟩ := h4 b b0 (by omega) hb0
      unfold LNE
      rw [c1 b 0 (by omega) (by omega), r6 (b + 1) (by omega), r7 (b + 1) (by omega), r6 b (by omega), r7 b (by omega), m1 _ 0 (by omega)]
      refine ⟨p1, p2, fun y => ?_, p4, ARG_cg p5 (fun c _ _ => c1 b c (by omega) (by omega)) (fun c _ _ => m1 _ c (by omega))⟩
      rw [m1 _ 6 (Or.inl (dif b b0 (by omega) hb0 (fun z => y (by rw [z]; exact q3))))]
      exact p3 y
  · by_cases q : b = l + 1
    · rw [q, c5, c6]; omega
    · rw [r6 b (by omega), r7 b (by omega)]; exact h5 b b0 (by omega)
  · by_cases q : x = l + 1
    · rw [q, c5, r6 b (by omega)]
      by_cases q2 : b = l
      · rw [q2, a1, c2]; exact ⟨by omega, fun z => absurd rfl z⟩
      · have := h6 b l b0 (by omega) (by omega)
        rw [c1 b 0 (by omega) (by omega)]
        rw [a1] at this
        exact this
    · rw [r6 b (by omega), r6 x (by omega), c1 b 0 (by omega) (by omega)]; exact h6 b x b0 bx (by omega)
  · have hne : b ≠ l := fun z => by rw [z, c2] at hbl; omega
    rw [c1 b 0 (by omega) (by omega)] at hbl
    by_cases qa : b = o (g - 1)
    · right
      unfold CLS
      rw [qa, c0, c2, c7, r6 (o (g - 1)) (by omega), r7 (o (g - 1)) (by omega), c3, c4, m2, a1, a2, q4]
      refine ⟨⟨by omega, by omega⟩, rfl, rfl, rfl, by omega, fun x x0 x1 => ?_⟩
      rw [r7 x (by omega)]; exact q5 x x0 (by omega)
    · rcases h7 b b0 (by omega) hbl with ⟨i, i0, i1, hi⟩ | hc
      · left
        refine ⟨i, i0, ?_, hi⟩
        by_cases y : i = g - 1
        · rw [y] at hi; exact absurd hi.symm qa
        · omega
      · right
        obtain ⟨⟨p1, p2⟩, p3, p4, p5, p6, p7⟩ := hc
        have ne2 : C b 5 ≠ o (g - 1) := fun z => by rw [z] at p3; omega
        unfold CLS
        rw [c1 b 5 (by omega) (by omega), c1 b 6 (by omega) (by omega), c1 b 7 (by omega) (by omega), c1 _ 0 p2 (by omega), c1 _ 5 p2 (by omega), c1 _ 6 p2 (by omega), c1 _ 7 p2 (by omega), m1 _ 6 (Or.inl (dif b b0 (by omega) (by omega) qa))]
        exact ⟨⟨p1, by omega⟩, p3, p4, p5, p6, fun x x0 x1 => by rw [r7 x (by omega)]; exact p7 x x0 x1⟩
  · obtain ⟨⟨p1, p2⟩, p3, p4, p5⟩ := h8 i i0 (by omega)
    rw [c1 _ 0 p2 (by omega), c1 _ 7 p2 (by omega)]
    refine ⟨⟨p1, by omega⟩, p3, p4, fun x x0 x1 => ?_⟩
    by_cases q : x = l + 1
    · rw [q, c6]; omega
    · rw [r7 x (by omega)]; exact p5 x x0 (by omega)
abbrev XI (X : XS) : Prop := SI (xl X) (xk X) (xg X) (xo X) (xC X) (xM X)
theorem SI_tn {f : Int → Int} {N : Int} {X : XS} (h : XB N X) (hs : XI X) (h2 : (tn f N X).1.1 = 0) : XI (tn f N X) := by
  obtain ⟨h1, g0, g3, k0, k1, l0, l1⟩ := h
  have nb : ∀ k : Int, 0 < k → bk f N X.1.2.2 k ≠ 0 := fun k hk => by have := bk_p (f := f) (N := N) (e := X.1.2.2) hk; omega
  have l00 : 0 ≤ xl X := by omega
  have w9 := waR_9 (f := f) (N := N) (e := X.1.2.2)
  have w0 := waR_nn (f := f) (N := N) (e := X.1.2.2) (u := strI 7)
  have key : ∀ w g', 1 ≤ w → w ≤ 9 → (tnS f N w X).1 = 0 → (∀ b c, b < xl X → tnC f N w X g' b c = xC X b c) ∧ tnC f N w X g' (xl X) 0 = w ∧ tnC f N w X g' (xl X) 6 = xC X (xl X) 6 ∧ tnC f N w X g' (xl X) 7 = xC X (xl X) 7 ∧ tnC f N w X g' (xl X + 1) 6 = xk X + 1 ∧ tnC f N w X g' (xl X + 1) 7 = g' ∧ (∀ q c, q < xk X → tnM f N w X q c = xM X q c) ∧ tnM f N w X (xk X) 0 = w - 1 ∧ ARG (tnC f N w X g') (xl X) (tnM f N w X) (xk X) := fun w g' w0 w1 hz => by
    have hS : (agS f N w (adv f N X.1)).1 = 0 := (mst_ok (agS_pl (adv_pb h1)).1.1 hz).1
    unfold tnC tnM
    refine ⟨fun b c hb => ?_, ?_, ?_, ?_, ?_, ?_, fun q c hq => ?_, ?_, ?_⟩
    · rw [c2u_ne (by omega), c2u_ne (by omega), agC_ne (by omega), c2u_ne (by omega)]
    · rw [c2u_ne (by omega), c2u_ne (by omega), agC_ne (by omega), c2u_same]
    · rw [c2u_ne (by omega), c2u_ne (by omega), agC_ne (by omega), c2u_ne (by omega)]
    · rw [c2u_ne (by omega), c2u_ne (by omega), agC_ne (by omega), c2u_ne (by omega)]
    · rw [c2u_ne (by omega), c2u_same]
    · rw [c2u_same]
    · rw [agM_ne (by omega), c2u_ne (by omega)]
    · rw [agM_ne (by omega), c2u_same]
    · refine ARG_cg (ARG_ag (f := f) (N := N) (C := c2u (xC X) (xl X) 0 w) (M := c2u (xM X) (xk X) 0 (w - 1)) (m := xk X) w0 w1 c2u_same (Int.le_refl _) hS) (fun c _ _ => ?_) (fun c _ _ => rfl)
      rw [c2u_ne (by omega), c2u_ne (by omega)]
  by_cases hU : isU f N X.1.2.2 (strI 6)
  · by_cases hg : xg X ≤ 0
    · rw [tn_E0 hU hg] at h2; exact absurd h2 (nb 2 (by omega))
    · rw [tn_E hU (by omega)]
      obtain ⟨⟨q1, q2⟩, q3, q4, q5⟩ := hs.2.2.2.2.2.2.2 (xg X - 1) (by omega) (by omega)
      refine SI_end (l := xl X) (g := xg X) (o := xo X) (C := xC X) (M := xM X) hs l00 (by omega) (fun b c hb hn => ?_) ?_ ?_ ?_ ?_ ?_ ?_ ?_ (fun q c hq => ?_) ?_
      · show c2u (c2u (c2u (c2u (c2u (xC X) (xl X) 0 10) (xl X) 5 (xo X (xg X - 1))) (xo X (xg X - 1)) 5 (xl X)) (xl X + 1) 6 (xk X)) (xl X + 1) 7 (xg X - 1) b c = _
        rw [c2u_ne (by omega), c2u_ne (by omega), c2u_ne hn, c2u_ne (by omega), c2u_ne (by omega)]
      · show c2u (c2u (c2u (c2u (c2u (xC X) (xl X) 0 10) (xl X) 5 (xo X (xg X - 1))) (xo X (xg X - 1)) 5 (xl X)) (xl X + 1) 6 (xk X)) (xl X + 1) 7 (xg X - 1) _ _ = _
        rw [c2u_ne (by omega), c2u_ne (by omega), c2u_same]
      · show c2u (c2u (c2u (c2u (c2u (xC X) (xl X) 0 10) (xl X) 5 (xo X (xg X - 1))) (xo X (xg X - 1)) 5 (xl X)) (xl X + 1) 6 (xk X)) (xl X + 1) 7 (xg X - 1) _ _ = _
        rw [c2u_ne (by omega), c2u_ne (by omega), c2u_ne (by omega), c2u_ne (by omega), c2u_same]
      · show c2u (c2u (c2u (c2u (c2u (xC X) (xl X) 0 10) (xl X) 5 (xo X (xg X - 1))) (xo X (xg X - 1)) 5 (xl X)) (xl X + 1) 6 (xk X)) (xl X + 1) 7 (xg X - 1) _ _ = _
        rw [c2u_ne (by omega), c2u_ne (by omega), c2u_ne (by omega), c2u_same]
      · show c2u (c2u (c2u (c2u (c2u (xC X) (xl X) 0 10) (xl X) 5 (xo X (xg X - 1))) (xo X (xg X - 1)) 5 (xl X)) (xl X + 1) 6 (xk X)) (xl X + 1) 7 (xg X - 1) _ _ = _
        rw [c2u_ne (by omega), c2u_ne (by omega), c2u_ne (by omega), c2u_ne (by omega), c2u_ne (by omega)]
      · show c2u (c2u (c2u (c2u (c2u (xC X) (xl X) 0 10) (xl X) 5 (xo X (xg X - 1))) (xo X (xg X - 1)) 5 (xl X)) (xl X + 1) 6 (xk X)) (xl X + 1) 7 (xg X - 1) _ _ = _
        rw [c2u_ne (by omega), c2u_ne (by omega), c2u_ne (by omega), c2u_ne (by omega), c2u_ne (by omega)]
      · show c2u (c2u (c2u (c2u (c2u (xC X) (xl X) 0 10) (xl X) 5 (xo X (xg X - 1))) (xo X (xg X - 1)) 5 (xl X)) (xl X + 1) 6 (xk X)) (xl X + 1) 7 (xg X - 1) _ _ = _
        rw [c2u_ne (by omega), c2u_same]; rfl
      · show c2u (c2u (c2u (c2u (c2u (xC X) (xl X) 0 10) (xl X) 5 (xo X (xg X - 1))) (xo X (xg X - 1)) 5 (xl X)) (xl X + 1) 6 (xk X)) (xl X + 1) 7 (xg X - 1) _ _ = _
        rw [c2u_same]
      · exact c2u_ne hq
      · exact c2u_same
  · by_cases hw : waR f N X.1.2.2 (strI 7) = 0
    · rw [tn_0 hU hw] at h2; exact absurd h2 (nb 2 (by omega))
    · by_cases hk : 30 ≤ xk X
      · rw [tn_6 hU hw hk] at h2; exact absurd (show (6 : Int) = 0 from h2) (by omega)
      · by_cases hb : waR f N X.1.2.2 (strI 7) = 7 ∨ waR f N X.1.2.2 (strI 7) = 8
        · by_cases hg : 3 ≤ xg X
          · rw [tn_7 hU (by omega) hb hg] at h2; exact absurd (show (7 : Int) = 0 from h2) (by omega)
          · rw [tn_B hU (by omega) hb (by omega)] at h2 ⊢
            obtain ⟨z1, z2, z3, z4, z5, z6, z7, z8, z9⟩ := key _ (xg X + 1) (by omega) w9 h2
            exact SI_step hs l00 (by show xg X + 1 ≤ 3; omega) (by omega) w9 z1 z2 z3 z4 z5 z6 z7 z8 z9 (Or.inl ⟨hb, rfl, if_pos rfl, fun i hi => if_neg (by omega)⟩)
        · rw [tn_P hU hw (by omega) hb] at h2 ⊢
          obtain ⟨z1, z2, z3, z4, z5, z6, z7, z8, z9⟩ := key _ (xg X) (by omega) w9 h2
          refine SI_step (M' := c2u (tnM f N (waR f N X.1.2.2 (strI 7)) X) (xk X) 6 (xk X + 1)) hs l00 g3 (by omega) w9 z1 z2 z3 z4 z5 z6 (fun q c hq => ?_) ?_ (ARG_cg z9 (fun c _ _ => rfl) (fun c _ _ => ?_)) (Or.inr ⟨hb, rfl, rfl, c2u_same⟩)
          · rw [c2u_ne (by omega)]; exact z7 q c hq
          · rw [c2u_ne (by omega)]; exact z8
          · rw [c2u_ne (by omega)]
/-- the machine's first state -/
def X0 (C M : Int → Int → Int) : XS := ((0, 0, 0), 0, 0, 0, fun _ => 0, c2u (c2u C 0 6 0) 0 7 0, M)
theorem XI_0 {C M : Int → Int → Int} : XI (X0 C M) := by
  have e6 : xC (X0 C M) 0 6 = 0 := by show c2u (c2u C 0 6 0) 0 7 0 0 6 = 0; rw [c2u_ne (by omega), c2u_same]
  have e7 : xC (X0 C M) 0 7 = 0 := by show c2u (c2u C 0 6 0) 0 7 0 0 7 = 0; rw [c2u_same]
  refine ⟨⟨e6, e7, e6, e7⟩, fun b b0 b1 => ?_, fun b b0 b1 => ?_, fun b b0 b1 => ?_, fun b b0 b1 => ?_, fun b x b0 b1 b2 => ?_, fun b b0 b1 => ?_, fun i i0 i1 => ?_⟩
  · exact absurd (show b < 0 from b1) (by omega)
  · exact absurd (show b < 0 from b1) (by omega)
  · exact absurd (show b < 0 from b1) (by omega)
  · have q : b = 0 := by have : b ≤ 0 := b1; omega
    rw [q, e6, e7]; omega
  · have : x ≤ 0 := b2
    omega
  · exact absurd (show b < 0 from b1) (by omega)
  · exact absurd (show i < 0 from i1) (by omega)
theorem XB_0 {C M : Int → Int → Int} {N : Int} (h : 0 ≤ N) : XB N (X0 C M) := ⟨⟨Int.le_refl _, Int.le_refl _, h⟩, by show (0 : Int) ≤ 0 ∧ (0 : Int) ≤ 3 ∧ (0 : Int) ≤ 0 ∧ (0 : Int) ≤ 30 ∧ (0 : Int) ≤ 0 ∧ (0 : Int) ≤ 2 * 0 - 0; omega⟩
