/-! ===== calls by contract ===== -/
def CV (M : MR) (n ci : Nat) : Prop := Cond.code M.1 M.2.1 M.2.2.1 M.2.2.2 ∈ Tbl ∧ Cond.instanceMethod M.1 ∈ Tbl ∧ Cond.selects M.1.cls M.1 M.1 ∈ Tbl ∧ Cond.initialized M.1.cls ∈ Tbl ∧ M.2.2.1 ≤ 20 ∧ (M.1.cls ≠ "java/lang/invoke/MethodHandle" ∧ M.1.cls ≠ "java/lang/invoke/VarHandle" ∧ (parseMethodDescriptor M.1.desc).map (fun d => d.parameters.length) = some n) ∧ ∃ (T : u_T) (N : Nat), classes[ci]? = some (M.1.cls, T, N)
def CS (M : MR) (n : Nat) : Prop := Cond.code M.1 M.2.1 M.2.2.1 M.2.2.2 ∈ Tbl ∧ Cond.static M.1 ∈ Tbl ∧ Cond.initialized M.1.cls ∈ Tbl ∧ M.2.2.1 ≤ 20 ∧ (M.1.cls ≠ "java/lang/invoke/MethodHandle" ∧ M.1.cls ≠ "java/lang/invoke/VarHandle" ∧ (parseMethodDescriptor M.1.desc).map (fun d => d.parameters.length) = some n)
theorem good_Tbl {ws : List Cond} (h : ∀ w ∈ ws, w ∈ Tbl) : GoodIn Tbl ws := fun w hw => ⟨h w hw, good_of_word (List.mem_filter.mp (h w hw)).2⟩
theorem wsM_in {M : MR} (h : Cond.code M.1 M.2.1 M.2.2.1 M.2.2.2 ∈ Tbl) : ∀ w ∈ wsM M, w ∈ Tbl := by
  intro w hw
  rcases List.mem_cons.mp hw with rfl | h2
  · exact h
  · exact h2
theorem Pc_blind (g : GG) (args : List AV) (σ : SG) : FrameBlind (Pc g args σ) := by
  intro a U f mk h
  obtain ⟨h1, h2, h3, h4⟩ := h
  exact ⟨h1, h2, h3, h4.same rfl⟩
def catv (v : AV) : Nat := if v.1 = 1 then 2 else 1
theorem cat_sum (g : GG) (st : List AV) : ((st.map (cv g)).map (fun v => v.category)).sum = (st.map catv).sum := by
  induction st with
  | nil => rfl
  | cons v t ih =>
    simp only [List.map_cons, List.sum_cons, ih]
    congr 1
    unfold catv
    by_cases h : v.1 = 1
    · rw [if_pos h]; exact cv_cat.mpr h
    · rw [if_neg h]; exact cat1 h
def pu (t : Nat) (r : Int) (st : List AV) : List AV := if t = 9 then st else (t, r) :: st
theorem pu_map (g : GG) (t : Nat) (r : Int) (st : List AV) : (rv g t r).toList ++ st.map (cv g) = (pu t r st).map (cv g) := by
  unfold rv pu
  by_cases h : t = 9
  · rw [if_pos h, if_pos h]; rfl
  · rw [if_neg h, if_neg h]; rfl
theorem pu_ok {t : Nat} {r : Int} {st : List AV} (h : okv (t, r)) (h2 : ∀ v ∈ st, okv v) : ∀ v ∈ pu t r st, okv v := by
  unfold pu
  by_cases h9 : t = 9
  · rw [if_pos h9]; exact h2
  · rw [if_neg h9]; exact cons_ok h h2
section LC
variable {d pc : Nat} {M N : MR} {ls st st0 : List AV} {σ : SG} {Q : Int → SG → Prop}
/-- behind a run of the callee: on with its contract -/
theorem L_ran {l : Launch} {g : GG} {p : Program} {e : Env} {s : State} {m : MethodId} {args : Array Value} {below : List Frame} {meth : Method} {c : Code} {H : Heap} {locs : List Loc} {A : Array Slot} {t : Nat} {as : Array Value} {st1 : List Value}
    (cx : CX g M p s m args meth c) (hz : s.heap.size ≤ H.size) (hl : ∀ q ∈ locs, Ag g q.base) (hL : Lo g M.2.2.1 ls A) (hst : ∀ v ∈ st, okv v)
    (hr : va_Run p l e (rmd (d + 1)) s m args below meth c H locs 0 0 0 0 (F0 m pc A st1) (st.map (cv g)) (Qc g t (fun r σ' => L (d + 1) M (pc + 3) ls (pu t r st) σ' Q) as) (Ag g)) :
    W p l e (rmd (d + 1)) s m args below meth c H locs 0 0 (MQ below (Qc g (rtg M.2.2.2) Q) args s 0 0 (Ag g)) (F0 m pc A st1) := by
  intro T hT X
  obtain ⟨v, st₀, u, T', Lc, h0, X', hLc, e1, e2, ⟨r, σ', hv, hok, hR, hQ⟩, go⟩ := hr T hT X
  have hv' : v = rv g t r := by injection hv
  subst hv'
  have hl' : ∀ q ∈ locs ++ Lc, Ag g q.base := by
    intro q hq
    rcases List.mem_append.mp hq with h1 | h1
    · exact hl q h1
    · exact hLc q h1
  have hR' : RS g σ' s u.heap := ⟨hR.1, Nat.le_trans hz (by rw [← h0]; exact hR.2)⟩
  have h1 := hQ l g p e s m args below meth c u.heap (locs ++ Lc) A cx hR' hl' hL (pu_ok hok hst)
  rw [← pu_map] at h1
  obtain ⟨t2, a1, b1⟩ := h1 T' e1 X'
  exact ⟨t2, go t2 a1, b1⟩
theorem L_callV {n ci idx : Nat} {a : Int} {As : List AV} (hN : CV N n ci) (hn : As.length = n) (hw : Cond.methodLink M.1.cls idx N.1 ∈ Tbl) (hs : st0 = As.reverse ++ vA a :: st) (hc : (st.map catv).sum ≤ 8) (hd : decode M.2.1 pc = .ok (.invokevirtual idx, 3))
    (h : obok ci a ∧ Tri d N (vA a :: As) σ (fun r σ' => L (d + 1) M (pc + 3) ls (pu (rtg N.2.2.2) r st) σ' Q)) : L (d + 1) M pc ls st0 σ Q := by
  intro l g p e s m args below meth c H locs A cx hR hl hL hst
  obtain ⟨⟨ha0, hak⟩, h⟩ := h
  obtain ⟨b, rfl⟩ := nat_of ha0
  obtain ⟨n1, n2, n3, n4, n5, n6, T, K, n7⟩ := hN
  subst hs
  have hok : ∀ v ∈ vA b :: As, okv v := fun v hv => hst v (by
    rcases List.mem_cons.mp hv with rfl | h1
    · simp
    · simp [h1])
  have e0 : ((As.reverse ++ vA b :: st).map (cv g)) = (As.map (cv g)).reverse ++ .ref (gB g + b) :: st.map (cv g) := by
    rw [List.map_append, List.map_reverse]
    show _ ++ cr g b :: _ = _
    rw [cr_nat]
  rw [e0]
  rw [kd_nat] at hak
  have hci : ci < 13 := by
    rcases Nat.lt_or_ge ci 13 with q | q
    · exact q
    · rw [List.getElem?_eq_none (by simpa using q)] at n7; cases n7
  have hrecv : ∃ cell : Cell, H[gB g + b]? = some cell ∧ cell.vm.isStatics = false ∧ s.vm.findClass N.1.cls = some cell.cls :=
    va_recv (ws := wsO g σ) cx.2.2.2.2.2.2.2.1.1 hR.1.1 n7 (by rw [wsO_at (kdn_lt (by rw [hak]; omega)), celK_obj (by rw [hak]; omega), hak])
  have hgood : GoodIn Tbl (wsV M.1.cls idx N.1.cls N.1 (wsM N)) := good_Tbl (by
    intro w hw2
    unfold wsV at hw2
    rcases List.mem_append.mp hw2 with h1 | h1
    · simp only [List.mem_cons, List.not_mem_nil, or_false] at h1
      rcases h1 with rfl | rfl | rfl | rfl
      · exact hw
      · exact n2
      · exact n3
      · exact n4
    · exact wsM_in n1 w h1)
  have hst' : ∀ v ∈ st, okv v := fun v hv => hst v (by simp [hv])
  refine L_ran (st := st) (t := rtg N.2.2.2) (as := (Value.ref (gB g + b) :: As.map (cv g)).toArray) cx hR.2 hl hL hst' ?_
  exact va_runV (Ts := Tbl) (nL := M.2.2.1) (As := As.map (cv g)) (rest := st.map (cv g)) ⟨cx.1, cx.2.1, cx.2.2.1, cx.2.2.2.2.2.1, cx.2.2.2.2.2.2.1⟩ (h l g)
    (cwV n cx.2.2.2.2.2.2.1 hgood rfl rfl rfl ⟨rfl, n6.1, n6.2.1, n6.2.2⟩ ⟨Nat.le_refl _, by show 8 + (N.2.2.1 + 11) + 40 * d ≤ 40 * (d + 1); omega⟩)
    ⟨Pc_blind g _ _, hrecv, fun U hU hW => ⟨by show _ = (cr g b :: List.map (cv g) As).toArray; rw [cr_nat], hok, by rw [hU]; exact hR.1, cx.2.2.2.2.2.2.2.1.warm hW⟩⟩
    rfl (by rw [List.length_map]; exact hn) (hL.1.1) rfl (by show 2 * 0 + _ ≤ 8; rw [cat_sum]; omega) hd ⟨Nat.le_refl _, Nat.le_refl _⟩
theorem L_callS {n idx : Nat} {As : List AV} (hN : CS N n) (hn : As.length = n) (hw : Cond.methodLink M.1.cls idx N.1 ∈ Tbl) (hs : st0 = As.reverse ++ st) (hc : (st.map catv).sum ≤ 8) (hd : decode M.2.1 pc = .ok (.invokestatic idx, 3))
    (h : Tri d N As σ (fun r σ' => L (d + 1) M (pc + 3) ls (pu (rtg N.2.2.2) r st) σ' Q)) : L (d + 1) M pc ls st0 σ Q := by
  intro l g p e s m args below meth c H locs A cx hR hl hL hst
  obtain ⟨n1, n2, n4, n5, n6⟩ := hN
  subst hs
  have hok : ∀ v ∈ As, okv v := fun v hv => hst v (by simp [hv])
  have e0 : ((As.reverse ++ st).map (cv g)) = (As.map (cv g)).reverse ++ st.map (cv g) := by
    rw [List.map_append, List.map_reverse]
  rw [e0]
  have hgood : GoodIn Tbl (va_wsS M.1.cls idx N.1 (wsM N)) := good_Tbl (by
    intro w hw2
    unfold va_wsS at hw2
    rcases List.mem_append.mp hw2 with h1 | h1
    · simp only [List.mem_cons, List.not_mem_nil, or_false] at h1
      rcases h1 with rfl | rfl | rfl
      · exact hw
      · exact n2
      · exact n4
    · exact wsM_in n1 w h1)
  have hst' : ∀ v ∈ st, okv v := fun v hv => hst v (by simp [hv])
  refine L_ran (st := st) (t := rtg N.2.2.2) (as := (As.map (cv g)).toArray) cx hR.2 hl hL hst' ?_
  exact va_runS (Ts := Tbl) (nL := M.2.2.1) (As := As.map (cv g)) (rest := st.map (cv g)) ⟨cx.1, cx.2.1, cx.2.2.1, cx.2.2.2.2.2.1, cx.2.2.2.2.2.2.1⟩ (h l g)
    (va_cwS n cx.2.2.2.2.2.2.1 hgood rfl rfl rfl n6 ⟨Nat.le_refl _, by show 8 + (N.2.2.1 + 11) + 40 * d ≤ 40 * (d + 1); omega⟩)
    ⟨Pc_blind g _ _, fun U hU hW => ⟨rfl, hok, by rw [hU]; exact hR.1, cx.2.2.2.2.2.2.2.1.warm hW⟩⟩
    rfl (by rw [List.length_map]; exact hn) (hL.1.1) rfl (by show 2 * 0 + _ ≤ 8; rw [cat_sum]; omega) hd ⟨Nat.le_refl _, Nat.le_refl _⟩
theorem L_callSN {n idx : Nat} {As : List AV} (hN : CS N n) (hn : As.length = n) (hw : (M.1.cls, idx, N.1) ∈ nestM) (hs : st0 = As.reverse ++ st) (hc : (st.map catv).sum ≤ 8) (hd : decode M.2.1 pc = .ok (.invokestatic idx, 3))
    (h : Tri d N As σ (fun r σ' => L (d + 1) M (pc + 3) ls (pu (rtg N.2.2.2) r st) σ' Q)) : L (d + 1) M pc ls st0 σ Q := by
  intro l g p e s m args below meth c H locs A cx hR hl hL hst
  obtain ⟨n1, n2, n4, n5, n6⟩ := hN
  subst hs
  have hok : ∀ v ∈ As, okv v := fun v hv => hst v (by simp [hv])
  have e0 : ((As.reverse ++ st).map (cv g)) = (As.map (cv g)).reverse ++ st.map (cv g) := by
    rw [List.map_append, List.map_reverse]
  rw [e0]
  have hst' : ∀ v ∈ st, okv v := fun v hv => hst v (by simp [hv])
  refine L_ran (st := st) (t := rtg N.2.2.2) (as := (As.map (cv g)).toArray) cx hR.2 hl hL hst' ?_
  exact va_runSN (Ts := Tbl) (nL := M.2.2.1) (As := As.map (cv g)) (rest := st.map (cv g)) ⟨cx.1, cx.2.1, cx.2.2.1, cx.2.2.2.2.2.1, cx.2.2.2.2.2.2.1⟩ (h l g)
    ⟨va_cnB n cx.2.2.2.2.2.2.1 (good_Tbl (wsM_in n1)) rfl rfl rfl (cx.2.2.2.2.2.2.2.1.2.1 _ hw) (cx.2.2.2.2.2.2.1 _ n4) n6 ⟨Nat.le_refl _, by show 8 + (N.2.2.1 + 11) + 40 * d ≤ 40 * (d + 1); omega⟩, cx.2.2.2.2.2.2.1 _ n2, trivial⟩
    ⟨Pc_blind g _ _, fun U hU hW => ⟨rfl, hok, by rw [hU]; exact hR.1, cx.2.2.2.2.2.2.2.1.warm hW⟩⟩
    rfl (by rw [List.length_map]; exact hn) (hL.1.1) rfl (by show 2 * 0 + _ ≤ 8; rw [cat_sum]; omega) hd ⟨Nat.le_refl _, Nat.le_refl _⟩
end LC
