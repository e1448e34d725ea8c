/-! ===== words: of the class's texts ===== -/
def strI (k : Nat) : List Int := [[112, 114, 105, 109, 101], [115, 105, 122, 101], [98, 114, 97, 99, 107, 101, 116], [103, 105, 118, 101, 115], [108, 101, 115, 115], [111, 102], [101, 110, 100], [115, 119, 97, 112, 32, 115, 99, 97, 108, 101, 32, 97, 100, 100, 32, 107, 101, 101, 112, 32, 116, 97, 107, 101, 32, 115, 117, 109, 32, 119, 104, 101, 110, 32, 108, 111, 111, 112, 32, 115, 116, 111, 112, 32], [108, 97, 119, 102, 117, 108, 32, 97, 98, 101, 108, 105, 97, 110, 32, 110, 105, 108, 112, 111, 116, 101, 110, 116, 32, 115, 111, 108, 118, 97, 98, 108, 101, 32, 100, 101, 114, 105, 118, 101, 100, 32, 115, 105, 122, 101, 32, 115, 97, 109, 101, 32], [98, 121], [116, 111]].getD k []
theorem strI_l : ∀ k, k < 11 → strL k = (strI k).length := by decide +kernel
theorem strI_c : ∀ k, k < 11 → ∀ i, i < strL k → chS k i = (strI k).getD i 0 := by decide +kernel
/-- the TOKEN behind e is the word u -/
def isU (f : Int → Int) (N e : Int) (u : List Int) : Prop := tK f N e = 1 ∧ tE f N e - tS f N e = (u.length : Int) ∧ ∀ i : Nat, i < u.length → f (tS f N e + i) = u.getD i 0
/-- which word of a list, each with a blank behind it -/
def waL (f : Int → Int) (s t : Int) (kw : Bool) : List Int → Int → Int → Bool → Int
  | [], _, _, _ => 0
  | c :: cs, w, a, al => if c = 32 then (if al = true ∧ a = t then w else waL f s t kw cs (w + 1) s kw) else waL f s t kw cs w (a + 1) (al && decide (a < t) && decide (f a = c))
def waR (f : Int → Int) (N e : Int) (u : List Int) : Int := waL f (tS f N e) (tE f N e) (decide (tK f N e = 1)) u 1 (tS f N e) (decide (tK f N e = 1))
def wMt (f : Int → Int) (t : Int) : List Int → Int → Prop
  | [], a => a = t
  | c :: cs, a => a < t ∧ f a = c ∧ wMt f t cs (a + 1)
theorem wMt_iff {f : Int → Int} {t : Int} : ∀ (u : List Int) (a : Int), wMt f t u a ↔ t - a = (u.length : Int) ∧ ∀ i : Nat, i < u.length → f (a + i) = u.getD i 0
  | [], a => by
    show a = t ↔ _
    constructor
    · intro h; exact ⟨by simp; omega, fun i hi => by simp at hi⟩
    · intro h; have := h.1; simp at this; omega
  | c :: cs, a => by
    show (a < t ∧ f a = c ∧ wMt f t cs (a + 1)) ↔ _
    rw [wMt_iff cs (a + 1)]
    simp only [List.length_cons]
    constructor
    · rintro ⟨h1, h2, h3, h4⟩
      refine ⟨by omega, fun i hi => ?_⟩
      cases i with
      | zero => simpa using h2
      | succ i =>
        have := h4 i (by omega)
        rw [show a + ((i + 1 : Nat) : Int) = a + 1 + (i : Int) by omega]
        simpa using this
    · rintro ⟨h1, h2⟩
      refine ⟨by omega, by simpa using h2 0 (by omega), by omega, fun i hi => ?_⟩
      have := h2 (i + 1) (by omega)
      rw [show a + ((i + 1 : Nat) : Int) = a + 1 + (i : Int) by omega] at this
      simpa using this
theorem waL_word {f : Int → Int} {s t : Int} {kw : Bool} {rest : List Int} {w : Int} : ∀ (u : List Int) (a : Int) (al : Bool), (∀ c ∈ u, c ≠ 32) → (al = true ∧ wMt f t u a → waL f s t kw (u ++ 32 :: rest) w a al = w) ∧ (¬ (al = true ∧ wMt f t u a) → waL f s t kw (u ++ 32 :: rest) w a al = waL f s t kw rest (w + 1) s kw)
  | [], a, al, _ => by
    show (_ → (if (32 : Int) = 32 then (if al = true ∧ a = t then w else _) else _) = w) ∧ (_ → (if (32 : Int) = 32 then (if al = true ∧ a = t then w else _) else _) = _)
    rw [if_pos rfl]
    exact ⟨fun (h : al = true ∧ a = t) => by rw [if_pos h], fun (h : ¬ (al = true ∧ a = t)) => by rw [if_neg h]⟩
  | c :: cs, a, al, h => by
    have hc : c ≠ 32 := h c List.mem_cons_self
    obtain ⟨i1, i2⟩ := waL_word (f := f) (s := s) (t := t) (kw := kw) (rest := rest) (w := w) cs (a + 1) (al && decide (a < t) && decide (f a = c)) (fun x hx => h x (List.mem_cons_of_mem _ hx))
    show (_ → (if c = 32 then _ else waL f s t kw (cs ++ 32 :: rest) w (a + 1) (al && decide (a < t) && decide (f a = c))) = w) ∧ (_ → (if c = 32 then _ else waL f s t kw (cs ++ 32 :: rest) w (a + 1) (al && decide (a < t) && decide (f a = c))) = _)
    rw [if_neg hc]
    have e : ((al && decide (a < t) && decide (f a = c)) = true ∧ wMt f t cs (a + 1)) ↔ (al = true ∧ wMt f t (c :: cs) a) := by
      simp only [Bool.and_eq_true, decide_eq_true_eq]
      show _ ↔ (al = true ∧ a < t ∧ f a = c ∧ wMt f t cs (a + 1))
      constructor
      · rintro ⟨⟨⟨x1, x2⟩, x3⟩, x4⟩; exact ⟨x1, x2, x3, x4⟩
      · rintro ⟨x1, x2, x3, x4⟩; exact ⟨⟨⟨x1, x2⟩, x3⟩, x4⟩
    exact ⟨fun z => i1 (e.mpr z), fun z => i2 (fun y => z (e.mp y))⟩
theorem waL_u {f : Int → Int} {N e w : Int} {rest : List Int} (u : List Int) (hu : ∀ c ∈ u, c ≠ 32) : (isU f N e u → waL f (tS f N e) (tE f N e) (decide (tK f N e = 1)) (u ++ 32 :: rest) w (tS f N e) (decide (tK f N e = 1)) = w) ∧ (¬ isU f N e u → waL f (tS f N e) (tE f N e) (decide (tK f N e = 1)) (u ++ 32 :: rest) w (tS f N e) (decide (tK f N e = 1)) = waL f (tS f N e) (tE f N e) (decide (tK f N e = 1)) rest (w + 1) (tS f N e) (decide (tK f N e = 1))) := by
  have e1 : isU f N e u ↔ (decide (tK f N e = 1) = true ∧ wMt f (tE f N e) u (tS f N e)) := by
    rw [wMt_iff, decide_eq_true_eq]; rfl
  obtain ⟨h1, h2⟩ := waL_word (f := f) (s := tS f N e) (t := tE f N e) (kw := decide (tK f N e = 1)) (rest := rest) (w := w) u (tS f N e) (decide (tK f N e = 1)) hu
  exact ⟨fun z => h1 (e1.mp z), fun z => h2 (fun y => z (e1.mpr y))⟩
/-- two words that are unlike do not both stand there -/
theorem isU_ne {f : Int → Int} {N e : Int} {u v : List Int} (h : isU f N e u) (h2 : isU f N e v) : u = v := by
  obtain ⟨_, a2, a3⟩ := h
  obtain ⟨_, b2, b3⟩ := h2
  have hl : u.length = v.length := by omega
  apply List.ext_getElem? 
  intro i
  by_cases hi : i < u.length
  · have := (a3 i hi).symm.trans (b3 i (by omega))
    rw [List.getD_eq_getElem?_getD, List.getD_eq_getElem?_getD, List.getElem?_eq_getElem hi, List.getElem?_eq_getElem (by omega : i < v.length)] at this
    rw [List.getElem?_eq_getElem hi, List.getElem?_eq_getElem (by omega : i < v.length)]
    simpa using this
  · rw [List.getElem?_eq_none (by omega), List.getElem?_eq_none (by omega)]
section WRD
variable {d : Nat} {σ : SG} {Q : Int → SG → Prop} {f : Int → Int} {N e : Int}
theorem To_isWord_s {k : Nat} (hk : k < 11) (hT : TC σ f N e) (h1 : isU f N e (strI k) → Q 1 σ) (h0 : ¬ isU f N e (strI k) → Q 0 σ) : Tri (d + 4) M_To_isWord [vA 22, vA (-10 - (k : Int))] σ Q := by
  obtain ⟨a1, a2, a3, a4, a5, a6, a7, a8⟩ := hT
  have b1 := tS_b (f := f) a4.2
  have b2 := tE_b (f := f) a4.2
  have hl := strI_l k hk
  have hb := strL_b k hk
  refine t_To_isWord ⟨k, hk, rfl⟩ ?_
  rw [a7]
  refine ⟨fun z => h0 (fun y => z y.1), fun z => t_JS_length hk ?_⟩
  rw [a6, a5, a2, w32_id (by omega) (by omega)]
  refine ⟨fun z2 => h0 (fun y => z2 (by rw [hl]; exact y.2.1)), fun z2 => ⟨fun _ => ?_, fun z3 => by omega⟩⟩
  refine loop_up (S := Unit) (P := fun q _ => L (d + 4) M_To_isWord 42 [vA 22, vA (-10 - (k : Int)), vI q] [] σ Q) (fun q _ => tS f N e ≤ q ∧ ∀ i : Nat, tS f N e + i < q → f (tS f N e + i) = chS k i) (tE f N e) ?_ ?_ (tS f N e) (by omega) () ⟨by omega, fun i hi => by omega⟩
  · rintro _ ⟨_, hq⟩
    refine s_To_isWord_42 ⟨k, hk, rfl⟩ ⟨fun _ => h1 ⟨z, by rw [← hl]; exact z2, fun i hi => ?_⟩, fun z3 => by omega⟩
    rw [← strI_c k hk i (by omega)]
    exact hq i (by omega)
  · rintro q _ hq ⟨hq0, hqq⟩ ih
    refine s_To_isWord_42 ⟨k, hk, rfl⟩ ⟨fun z3 => by omega, fun _ => ⟨by omega, ?_⟩⟩
    rw [a5, a1, w32_id (by omega) (by omega)]
    refine t_JS_charAt hk (by omega) (by omega) ⟨fun z3 => ?_, fun z3 => h0 (fun y => z3 ?_)⟩
    · rw [w32_id (by omega) (by omega)]
      refine ih () ⟨by omega, fun i hi => ?_⟩
      by_cases g : tS f N e + i = q
      · rw [g, z3]; congr 1; omega
      · exact hqq i (by omega)
    · have := y.2.2 (q - tS f N e).toNat (by omega)
      rw [← strI_c k hk _ (by omega), show tS f N e + (((q - tS f N e).toNat : Nat) : Int) = q by omega] at this
      exact this
theorem To_takeWord_s {k : Nat} (hk : k < 11) (hT : TC σ f N e) (h1 : isU f N e (strI k) → ∀ σ', TC σ' f N (tE f N e) → Off (fun b j => b = 22 ∧ (j = 1 ∨ j = 6 ∨ j = 7 ∨ j = 8)) σ σ' → Q 1 σ') (h0 : ¬ isU f N e (strI k) → ∀ σ', FT σ' (bk f N e 2) (tS f N e) → Off (fun b j => b = 22 ∧ (j = 2 ∨ j = 3)) σ σ' → Q 0 σ') : Tri (d + 5) M_To_takeWord [vA 22, vA (-10 - (k : Int))] σ Q :=
  t_To_takeWord (To_isWord_s hk hT (fun z => ⟨fun _ => To_next_s hT (h1 z), fun y => by omega⟩) (fun z => ⟨fun y => absurd rfl y, fun _ => To_blame_s hT (fun s q2 q3 _ hO => ⟨Or.inl rfl, h0 z s ⟨q2, q3⟩ hO⟩)⟩))
theorem To_wordAmong_s {k : Nat} (hk : k < 11) (hT : TC σ f N e) (h : Q (waR f N e (strI k)) σ) : Tri (d + 4) M_To_wordAmong [vA 22, vA (-10 - (k : Int))] σ Q := by
  obtain ⟨a1, a2, a3, a4, a5, a6, a7, a8⟩ := hT
  have b1 := tS_b (f := f) a4.2
  have b2 := tE_b (f := f) a4.2
  have hl := strI_l k hk
  have hb := strL_b k hk
  have main : ∀ al : Bool, decide (tK f N e = 1) = al → L (d + 4) M_To_wordAmong 25 [vA 22, vA (-10 - (k : Int)), vI 1, vI (tS f N e), vI (if al = true then 1 else 0), vI 0, vU] [] σ Q := by
    intro al0 hal0
    refine loop_up (S := Int × Int × Bool) (P := fun i s => L (d + 4) M_To_wordAmong 25 [vA 22, vA (-10 - (k : Int)), vI s.1, vI s.2.1, vI (if s.2.2 = true then 1 else 0), vI i, vU] [] σ Q) (fun i s => 0 ≤ i ∧ (1 ≤ s.1 ∧ s.1 ≤ i + 1) ∧ (tS f N e ≤ s.2.1 ∧ s.2.1 ≤ tS f N e + i) ∧ waL f (tS f N e) (tE f N e) (decide (tK f N e = 1)) ((strI k).drop i.toNat) s.1 s.2.1 s.2.2 = waR f N e (strI k)) (strL k : Int) ?_ ?_ 0 (by omega) (1, tS f N e, al0) ⟨by omega, by simp, by simp, by rw [← hal0]; rfl⟩
    · rintro ⟨w, a, al⟩ ⟨_, _, _, hw⟩
      simp only at hw ⊢
      refine s_To_wordAmong_25 ⟨k, hk, rfl⟩ (t_JS_length hk ⟨fun _ => ?_, fun z => by omega⟩)
      rw [List.drop_eq_nil_of_le (by rw [← hl]; omega)] at hw
      have : waR f N e (strI k) = 0 := hw.symm
      rw [this] at h; exact h
    · rintro i ⟨w, a, al⟩ hi ⟨i0, hw1, ha, hw⟩ ih
      simp only at hw1 ha hw ⊢
      have hil : i.toNat < (strI k).length := by omega
      have hcs : (strI k).drop i.toNat = chS k i.toNat :: (strI k).drop (i + 1).toNat := by
        rw [strI_c k hk _ (by omega), List.drop_eq_getElem_cons hil, List.getD_eq_getElem?_getD, List.getElem?_eq_getElem hil, show (i + 1).toNat = i.toNat + 1 by omega]
        rfl
      rw [hcs] at hw
      have hcc : (if chS k i.toNat = 32 then (if al = true ∧ a = tE f N e then w else waL f (tS f N e) (tE f N e) (decide (tK f N e = 1)) ((strI k).drop (i + 1).toNat) (w + 1) (tS f N e) (decide (tK f N e = 1))) else waL f (tS f N e) (tE f N e) (decide (tK f N e = 1)) ((strI k).drop (i + 1).toNat) w (a + 1) (al && decide (a < tE f N e) && decide (f a = chS k i.toNat))) = waR f N e (strI k) := hw
      have at101 : chS k i.toNat = 32 → ¬ (al = true ∧ a = tE f N e) → L (d + 4) M_To_wordAmong 101 [vA 22, vA (-10 - (k : Int)), vI w, vU, vU, vI i, vU] [] σ Q := fun z z2 => by
        rw [if_pos z, if_neg z2] at hcc
        refine s_To_wordAmong_101 ?_
        rw [a7, a5, w32_id (x := w + 1) (by omega) (by omega), w32_id (x := i + 1) (by omega) (by omega)]
        have := ih (w + 1, tS f N e, decide (tK f N e = 1)) ⟨by omega, ⟨by simp only; omega, by simp only; omega⟩, ⟨by simp only; omega, by simp only; omega⟩, hcc⟩
        simp only at this
        refine ⟨fun z3 => ?_, fun z3 => ?_⟩
        · rw [decide_eq_false z3] at this; exact this
        · rw [decide_eq_true z3] at this; exact this
      have on : chS k i.toNat ≠ 32 → ∀ al2 : Bool, al2 = (al && decide (a < tE f N e) && decide (f a = chS k i.toNat)) → L (d + 4) M_To_wordAmong 25 [vA 22, vA (-10 - (k : Int)), vI w, vI (w32 (a + 1)), vI (if al2 = true then 1 else 0), vI (w32 (i + 1)), vU] [] σ Q := fun z al2 h2 => by
        rw [if_neg z, ← h2] at hcc
        rw [w32_id (x := a + 1) (by omega) (by omega), w32_id (x := i + 1) (by omega) (by omega)]
        exact ih (w, a + 1, al2) ⟨by omega, ⟨by simp only; omega, by simp only; omega⟩, ⟨by simp only; omega, by simp only; omega⟩, hcc⟩
      refine s_To_wordAmong_25 ⟨k, hk, rfl⟩ (t_JS_length hk ⟨fun z => by omega, fun _ => t_JS_charAt hk i0 hi ?_⟩)
      rw [a6]
      refine ⟨fun z => ⟨fun z2 => at101 z (fun y => by rw [if_pos y.1] at z2; omega), fun z2 => ⟨fun z3 => at101 z (fun y => z3 y.2), fun z3 => ?_⟩⟩, fun z => ⟨fun z2 => ?_, fun z2 => ⟨fun z3 => ?_, fun z3 => ⟨by omega, ?_, ?_⟩⟩⟩⟩
      · have hal : al = true := by
          by_cases g : al = true
          · exact g
          · rw [if_neg g] at z2; omega
        rw [if_pos z, if_pos ⟨hal, z3⟩] at hcc
        rw [hcc]; exact h
      · have hal : al = false := by
          cases al
          · rfl
          · simp at z2
        exact on z false (by rw [hal]; rfl)
      · exact on z false (by rw [decide_eq_false (by omega : ¬ a < tE f N e)]; simp)
      · rw [a1]
        intro z4
        exact on z false (by rw [decide_eq_false z4]; simp)
      · rw [a1]
        intro z4
        have hal : al = true := by
          by_cases g : al = true
          · exact g
          · rw [if_neg g] at z2; omega
        exact on z true (by rw [hal, decide_eq_true z3, decide_eq_true z4]; rfl)
  refine t_To_wordAmong ?_
  rw [a7, a5]
  refine ⟨fun z => ?_, fun z => ?_⟩
  · exact main false (decide_eq_false z)
  · exact main true (decide_eq_true z)
end WRD
