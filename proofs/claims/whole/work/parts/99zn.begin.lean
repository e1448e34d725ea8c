/-! ===== the start: from the statement to our picture of the machine ===== -/
theorem hf_int {s : State} {a i : Nat} {cell : Cell} {v : Value} (hF : heapFits s = true) (hcell : s.heap[a]? = some cell) (harr : s.isArrayOf cell .int) (hv : cell.slots[i]? = some v) : ∃ y : Int32, v = .int y := by
  obtain ⟨ha, hc⟩ := Array.getElem?_eq_some_iff.mp hcell
  obtain ⟨hi, -⟩ := Array.getElem?_eq_some_iff.mp hv
  unfold heapFits at hF
  have h1 : cellFits s cell = true := by
    have := Array.all_eq_true.mp hF a ha
    rw [hc] at this
    exact this
  unfold cellFits at h1
  have h2 := List.all_eq_true.mp h1 i (List.mem_range.mpr hi)
  rw [hv] at h2
  simp only at h2
  obtain ⟨hobj, k, hk, comp, hkind⟩ := harr
  have h3 : fits .int v = true := by
    cases hvm : cell.vm <;> first | exact absurd hvm (hobj _) | simpa [State.fitsSlot, State.slotType?, hvm, hk, hkind] using h2
  cases v with
  | int y => exact ⟨y, rfl⟩
  | _ => simp [fits] at h3
theorem cls_inst : ∀ (ci : Nat) (q : vw_C), classes[ci]? = some q → Cond.instantiable q.1 q.2.2 ∈ Tbl := by
  intro ci q h
  match ci with
  | 0 => cases h; decide +kernel
  | 1 => cases h; decide +kernel
  | 2 => cases h; decide +kernel
  | 3 => cases h; decide +kernel
  | 4 => cases h; decide +kernel
  | 5 => cases h; decide +kernel
  | 6 => cases h; decide +kernel
  | 7 => cases h; decide +kernel
  | 8 => cases h; decide +kernel
  | 9 => cases h; decide +kernel
  | 10 => cases h; decide +kernel
  | 11 => cases h; decide +kernel
  | 12 => cases h; decide +kernel
  | n + 13 => cases h
theorem arr_p {ty : FieldType} {args : Array Value} {s : State} (hw : (Cond.arrayClass ty).before args s = true) : ∃ cA : ClassId, ArrOfT s cA ty ∧ s.vm.findClass ("[" ++ ty.toString) = some cA := by
  obtain ⟨cA, k, comp, h1, h2, h3⟩ := Cond.arrayClass_spec hw
  exact ⟨cA, fun n z => ⟨(fun q h => by cases h), k, h2, comp, h3⟩, h1⟩
theorem arr_o {C : String} {args : Array Value} {s : State} (hw : (Cond.arrayOver (.object C)).before args s = true) : ∃ cA : ClassId, ArrOfT s cA (.object C) ∧ va_RA s cA (.object C) := by
  obtain ⟨comp, cA, k, h1, -, h2, h3, h4⟩ := Cond.arrayOver_spec hw
  exact ⟨cA, fun n z => ⟨(fun q h => by cases h), k, h2, comp, h3⟩, k, comp, h2, h3, h1, h4⟩
theorem eval_eq {args : Array Value} {s : State} {t u : Term} {a : Nat} (h : (Cond.eq t u).before args s = true) (ht : t.eval args s none [] s = some (.ref a)) : u.eval args s none [] s = some (.ref a) := by
  cases hu : u.eval args s none [] s with
  | none => simp [Cond.before, Cond.holds, Cond.value, ht, hu] at h
  | some w =>
    simp only [Cond.before, Cond.holds, Cond.value, ht, hu] at h
    cases w <;> simp_all
theorem nest_in : (∀ q ∈ nestM, Cond.methodLinkNest q.1 q.2.1 q.2.2 "BracketRoom" ∈ lw_tbl) ∧ (∀ q ∈ nestF, Cond.fieldLinkNest q.1 q.2 "BracketRoom" "UNITS" "[I" "BracketRoom" ∈ lw_tbl) ∧ (∀ q ∈ nestI, Cond.methodLinkNest q.1 q.2.1 q.2.2 "BracketRoom" ∈ lw_tbl) ∧ ∀ q ∈ strW, Cond.stringRef q.1 q.2.1 q.2.2.1 ∈ lw_tbl := by decide +kernel
theorem ao_in : ∀ C ∈ aoL, Cond.arrayOver (.object C) ∈ lw_tbl := by decide +kernel
theorem st_in : Cond.laysStatic "BracketRoom" "UNITS" "[I" ∈ lw_tbl ∧ Cond.initialized "BracketRoom" ∈ lw_tbl ∧ Cond.laysStatic "java/lang/String" "COMPACT_STRINGS" "Z" ∈ lw_tbl ∧ Cond.initialized "java/lang/String" ∈ lw_tbl ∧ Cond.laysStatic "jdk/internal/util/Preconditions" "SIOOBE_FORMATTER" "Ljava/util/function/BiFunction;" ∈ lw_tbl ∧ Cond.initialized "jdk/internal/util/Preconditions" ∈ lw_tbl := by decide +kernel
theorem ac_in : Cond.arrayClass .int ∈ lw_tbl ∧ Cond.arrayClass .long ∈ lw_tbl ∧ Cond.arrayClass .byte ∈ lw_tbl ∧ Cond.arrayClass .boolean ∈ lw_tbl := by decide +kernel
/-- where the String constants' places are evaluated: each of the twelve is one of the eleven -/
theorem str_tm : ∀ q ∈ strW, (q.2.2.2 < 11 ∧ Term.string q.1 q.2.1 = tmS q.2.2.2) ∨ (q.2.2.2 = 5 ∧ q.1 = "BracketRoom$Script" ∧ q.2.1 = 103) := by decide +kernel
theorem in_Tbl {w : Cond} (h : w ∈ Tbl) : w ∈ lw_tbl := (List.mem_filter.mp h).1
section BEG
variable {p : Program} {s : State} {m : MethodId} {meth : Method} {c : Code} {b Lc : Nat} {xs : Nat → Int32}
/-- UNITS -/
theorem units_at {args : Array Value} (hF : heapFits s = true) (hg : ∀ w ∈ lwF, w.before args s = true) : ∃ (u N : Nat) (ys : Nat → Int32), tmU.eval args s none [] s = some (.ref u) ∧ u < s.heap.size ∧ va_X u N ys s s.heap ∧ 25 ≤ N ∧ Int32.ofNat N = Int32.ofInt 25 ∧ ∀ j : Nat, j < 25 → ys j = Int32.ofInt (unitv j) := by
  obtain ⟨u, cell, hu, hat, hv⟩ := Term.length_spec (va_eqt (hg _ (List.mem_of_getElem? fx_ul)))
  obtain ⟨hcell, hkn, -, -⟩ := State.arrayAt?_spec hat
  obtain ⟨hof, -⟩ := Cond.arrayOf_spec (hg _ (List.mem_of_getElem? fx_ua)) hu hcell
  have hel : ∀ j : Nat, j < 25 → cell.slots[j]? = some (.int (Int32.ofInt (unitv j))) := fun j hj => by
    obtain ⟨a, i, cell2, h1, h2, h3, h4, h5⟩ := Term.elem_spec (va_eqt (hg _ (List.mem_of_getElem? (fx_ue j hj))))
    have e1 : a = u := by
      have := h1.symm.trans hu
      cases this
      rfl
    subst e1
    have e2 : cell2 = cell := Option.some.inj (h3.symm.trans hat)
    subst e2
    have e3 : i = Int32.ofNat j := by
      have := h2.symm.trans (show (Term.int (Int32.ofNat j)).eval args s none [] s = some (.int (Int32.ofNat j)) from rfl)
      cases this
      rfl
    subst e3
    rw [show (Int32.ofNat j).toNatClampNeg = j by rw [← Int32.ofInt_eq_ofNat, clamp32 ⟨by omega, by omega⟩]; simp] at h5
    exact h5
  have hsz : 25 ≤ cell.slots.size := by
    have := (Array.getElem?_eq_some_iff.mp (hel 24 (by decide))).1
    omega
  refine ⟨u, cell.slots.size, fun j => match cell.slots[j]? with
    | some (.int y) => y
    | _ => 0, hu, (Array.getElem?_eq_some_iff.mp hcell).1, ⟨cell, hcell, hof, hkn, rfl, fun j hj => ?_⟩, hsz, ?_, fun j hj => ?_⟩
  · obtain ⟨y, hy⟩ := hf_int hF hcell hof (Array.getElem?_eq_getElem hj)
    have e := Array.getElem?_eq_getElem hj
    rw [hy] at e
    simp only [e]
  · have e : (25 : Int32) = cell.slots.size.toInt32 := by injection hv
    exact e.symm
  · simp only [hel j hj]
theorem begin_g (hF : heapFits s = true) (hL : Lc ≤ 3072) (C0 : lw_At p s m meth c b Lc xs) : ∃ g : GG, LC g p s m b meth c Lc xs ∧ KN g s ∧ gB g = s.heap.size ∧ gH g = s.heap := by
  obtain ⟨hx, hb, hr, hml, hown, hts, hX, hbl, hlocks, hgv⟩ := C0
  have hT : ∀ w ∈ Tbl, w.before #[Value.ref b] s = true := fun w hw => hts w (in_Tbl hw)
  have hg : ∀ w ∈ lwF, w.before #[Value.ref b] s = true := flat_of_before _ hgv
  have hA : ∀ a : Nat, a < s.heap.size → ¬ (fun q : Nat => s.heap.size ≤ q) a := fun a h => Nat.not_le.mpr h
  obtain ⟨i1, i2, i3, i4⟩ := nest_in
  obtain ⟨t1, t2, t3, t4, t5, t6⟩ := st_in
  obtain ⟨a1, a2, a3, a4⟩ := ac_in
  -- classes
  have hcl : ∀ ci : Nat, ∃ r : ClassId × (Nat → Nat), ∀ q, classes[ci]? = some q → u_Kn s q.1 q.2.1 q.2.2 r.1 r.2 := fun ci => by
    cases hq : classes[ci]? with
    | none => exact ⟨(0, fun _ => 0), fun q h => by cases h⟩
    | some q =>
      obtain ⟨cC, iS, h⟩ := u_known hT (cls_tbl ci q hq) (hT _ (cls_inst ci q hq))
      exact ⟨(cC, iS), fun q2 h2 => by cases h2; exact h⟩
  obtain ⟨cls, hcls⟩ := Classical.axiomOfChoice hcl
  -- arrays
  obtain ⟨c0, p0, q0⟩ := arr_p (hts _ a1)
  obtain ⟨c1', p1, q1⟩ := arr_p (hts _ a2)
  obtain ⟨c2, p2, q2⟩ := arr_p (hts _ a3)
  obtain ⟨c3, p3, q3⟩ := arr_p (hts _ a4)
  obtain ⟨c4, p4, q4⟩ := arr_o (hts _ (ao_in "BracketRoom$Desk" (by decide)))
  obtain ⟨c5, p5, q5⟩ := arr_o (hts _ (ao_in "BracketRoom$World" (by decide)))
  obtain ⟨c6, p6, q6⟩ := arr_o (hts _ (ao_in "BracketRoom$Echelon" (by decide)))
  -- UNITS, Strings
  obtain ⟨u, N, ys, hu, hult, hUX, hN, hN2, hys⟩ := units_at hF hg
  obtain ⟨adK, adV, hS, hev⟩ := vk_Sof (args := #[Value.ref b]) (s := s) (N := 11) (tm := tmS) (len := lenS) (byt := bytS) (A := fun q : Nat => s.heap.size ≤ q) (by decide +kernel) (fun i hi => hg _ (List.mem_of_getElem? (fx_ex i hi))) (fun i hi => hg _ (List.mem_of_getElem? (fx_co i hi))) (fun i hi => hg _ (List.mem_of_getElem? (fx_ar i hi))) (fun i hi => hg _ (List.mem_of_getElem? (fx_le i hi))) (fun i hi j hj => hg _ (List.mem_of_getElem? (fx_el i hi j hj))) (fun i j hi hj hij => (fx_ne i hi j hj hij).imp (fun h => hg _ (List.mem_of_getElem? h)) (fun h => hg _ (List.mem_of_getElem? h))) hA
  have hsio := va_Zqof (A := fun q : Nat => s.heap.size ≤ q) (hts _ t5) (hts _ t6) (hg _ (List.mem_of_getElem? fx_sf)) hA
  obtain ⟨f22, hf22⟩ : ∃ t : Nat, va_Z "jdk/internal/util/Preconditions" "SIOOBE_FORMATTER" "Ljava/util/function/BiFunction;" .null (fun q : Nat => s.heap.size ≤ q) s s.heap ∨ va_Z "jdk/internal/util/Preconditions" "SIOOBE_FORMATTER" "Ljava/util/function/BiFunction;" (.ref t) (fun q : Nat => s.heap.size ≤ q) s s.heap := by
    rcases hsio with h | ⟨t, h⟩
    · exact ⟨0, Or.inl h⟩
    · exact ⟨t, Or.inr h⟩
  have hcs := va_Zof (A := fun q : Nat => s.heap.size ≤ q) (hts _ t3) (hts _ t4) (va_eqi (hg _ (List.mem_of_getElem? fx_cs))) hA
  have hun := va_Zref (A := fun q : Nat => s.heap.size ≤ q) (hts _ t1) (hts _ t2) hu hA
  let ca : Nat → ClassId := fun k => if k = 0 then c0 else if k = 1 then c1' else if k = 2 then c2 else if k = 3 then c3 else if k = 4 then c4 else if k = 5 then c5 else c6
  let kk : Nat → Nat := fun k => if k < 11 then adK k else if k < 22 then adV (k - 11) else if k = 22 then f22 else b
  refine ⟨(s.heap.size, (fun k => (cls k).1, fun k => (cls k).2), ca, s.heap, u, kk, adV), ?_⟩
  have hkk : ∀ k : Nat, k < 11 → kk k = adK k := fun k hk => if_pos hk
  have hSk : vk_S 11 lenS bytS kk adV (fun q : Nat => s.heap.size ≤ q) s s.heap := by
    refine ⟨fun i hi => ?_, fun i j hi hj e => hS.2 i j hi hj (by rw [hkk i hi, hkk j hj] at e; exact e)⟩
    rw [hkk i hi]
    exact hS.1 i hi
  have hKA : va_K (fun k => (cls k).1, fun k => (cls k).2) classes (tysA (s.heap.size, (fun k => (cls k).1, fun k => (cls k).2), ca, s.heap, u, kk, adV)) s := by
    refine ⟨fun ci q hq => hcls ci q hq, fun k q hq => ?_⟩
    match k, hq with
    | 0, hq => cases hq; exact ⟨p0, q0⟩
    | 1, hq => cases hq; exact ⟨p1, q1⟩
    | 2, hq => cases hq; exact ⟨p2, q2⟩
    | 3, hq => cases hq; exact ⟨p3, q3⟩
    | 4, hq => cases hq; exact ⟨p4, q4⟩
    | 5, hq => cases hq; exact ⟨p5, q5⟩
    | 6, hq => cases hq; exact ⟨p6, q6⟩
    | k + 7, hq => cases hq
  have hstr : ∀ q ∈ strW, vk_R q.1 q.2.1 q.2.2.1 (kk q.2.2.2) s := fun q hq => by
    refine vk_R.of (hts _ (i4 q hq)) ?_
    rcases str_tm q hq with ⟨h1, h2⟩ | ⟨h1, h2, h3⟩
    · rw [hkk _ h1, h2]
      exact hev _ h1
    · rw [h1, h2, h3, hkk 5 (by decide)]
      exact eval_eq (hg _ (List.mem_of_getElem? fx_of)) (hev 5 (by decide))
  have hKK : KK (s.heap.size, (fun k => (cls k).1, fun k => (cls k).2), ca, s.heap, u, kk, adV) s := by
    refine ⟨hKA, fun q hq => va_Nw.of rfl (hts _ (i1 q hq)), fun q hq => va_Nw.of rfl (hts _ (i2 q hq)), hun, ⟨⟨N, ys, hUX, hN, hN2, hys⟩, hult⟩, ⟨hcs, hf22, fun k hk => ?_⟩, ?_, hstr⟩
    · show kk (11 + k) = adV k
      show (if 11 + k < 11 then adK (11 + k) else if 11 + k < 22 then adV (11 + k - 11) else if 11 + k = 22 then f22 else b) = adV k
      rw [if_neg (by omega), if_pos (by omega), show 11 + k - 11 = k by omega]
    · rw [lenS_eq, bytS_eq]
      exact hSk
  refine ⟨⟨⟨hx, hb, hml, hr, hlocks, hown, hT, hKK, Nat.le_refl _, fun q _ => rfl⟩, hX, hbl, rfl, ?_, hL⟩, ⟨hKK, fun q hq => va_Nw.of rfl (hts _ (i3 q hq)), fun C hC => va_AO.of (hts _ (ao_in C hC))⟩, rfl, rfl⟩
  show (if 23 < 11 then adK 23 else if 23 < 22 then adV (23 - 11) else if 23 = 22 then f22 else b) = b
  rfl
end BEG
