/-! ===== the forms that the written-out walks use ===== -/
theorem in_tk (k : List Cond) (hk : ∀ w ∈ k, w ∈ tables_1) {w : Cond} (i : Nat) (h : k[i]? = some w) (hg : goodWord w = true) : w ∈ Tbl := Tbl_in (List.mem_append_right _ (hk w (List.mem_of_getElem? h))) hg
theorem tk1 {w : Cond} (i : Nat) (h : tables_1_1[i]? = some w) (hg : goodWord w = true) : w ∈ Tbl := in_tk tables_1_1 (fun _ h => List.mem_append_left _ h) i h hg
theorem tk2 {w : Cond} (i : Nat) (h : tables_1_2[i]? = some w) (hg : goodWord w = true) : w ∈ Tbl := in_tk tables_1_2 (fun _ h => List.mem_append_right _ (List.mem_append_left _ h)) i h hg
theorem tk3 {w : Cond} (i : Nat) (h : tables_1_3[i]? = some w) (hg : goodWord w = true) : w ∈ Tbl := in_tk tables_1_3 (fun _ h => List.mem_append_right _ (List.mem_append_right _ (List.mem_append_left _ h))) i h hg
theorem tk4 {w : Cond} (i : Nat) (h : tables_1_4[i]? = some w) (hg : goodWord w = true) : w ∈ Tbl := in_tk tables_1_4 (fun _ h => List.mem_append_right _ (List.mem_append_right _ (List.mem_append_right _ (List.mem_append_left _ h)))) i h hg
theorem tk5 {w : Cond} (i : Nat) (h : tables_1_5[i]? = some w) (hg : goodWord w = true) : w ∈ Tbl := in_tk tables_1_5 (fun _ h => List.mem_append_right _ (List.mem_append_right _ (List.mem_append_right _ (List.mem_append_right _ (List.mem_append_left _ h))))) i h hg
theorem tk6 {w : Cond} (i : Nat) (h : tables_1_6[i]? = some w) (hg : goodWord w = true) : w ∈ Tbl := in_tk tables_1_6 (fun _ h => List.mem_append_right _ (List.mem_append_right _ (List.mem_append_right _ (List.mem_append_right _ (List.mem_append_right _ (List.mem_append_left _ h)))))) i h hg
theorem tk7 {w : Cond} (i : Nat) (h : tables_1_7[i]? = some w) (hg : goodWord w = true) : w ∈ Tbl := in_tk tables_1_7 (fun _ h => List.mem_append_right _ (List.mem_append_right _ (List.mem_append_right _ (List.mem_append_right _ (List.mem_append_right _ (List.mem_append_right _ (List.mem_append_left _ h))))))) i h hg
theorem tk8 {w : Cond} (i : Nat) (h : tables_1_8[i]? = some w) (hg : goodWord w = true) : w ∈ Tbl := in_tk tables_1_8 (fun _ h => List.mem_append_right _ (List.mem_append_right _ (List.mem_append_right _ (List.mem_append_right _ (List.mem_append_right _ (List.mem_append_right _ (List.mem_append_right _ (List.mem_append_left _ h)))))))) i h hg
theorem tk9 {w : Cond} (i : Nat) (h : tables_1_9[i]? = some w) (hg : goodWord w = true) : w ∈ Tbl := in_tk tables_1_9 (fun _ h => List.mem_append_right _ (List.mem_append_right _ (List.mem_append_right _ (List.mem_append_right _ (List.mem_append_right _ (List.mem_append_right _ (List.mem_append_right _ (List.mem_append_right _ (List.mem_append_left _ h))))))))) i h hg
theorem tk10 {w : Cond} (i : Nat) (h : tables_1_10[i]? = some w) (hg : goodWord w = true) : w ∈ Tbl := in_tk tables_1_10 (fun _ h => List.mem_append_right _ (List.mem_append_right _ (List.mem_append_right _ (List.mem_append_right _ (List.mem_append_right _ (List.mem_append_right _ (List.mem_append_right _ (List.mem_append_right _ (List.mem_append_right _ (h)))))))))) i h hg
theorem in_pv (k : List (MethodName × Nat)) (hk : ∀ q ∈ k, q ∈ lw_privs) {y : MethodName} {n : Nat} (i : Nat) (h : k[i]? = some (y, n)) : Cond.selects y.cls y y ∈ Tbl := Tbl_in (List.mem_append_left _ (List.mem_map.mpr ⟨(y, n), hk _ (List.mem_of_getElem? h), rfl⟩)) rfl
theorem pv1 {y : MethodName} {n : Nat} (i : Nat) (h : lw_privs_1[i]? = some (y, n)) : Cond.selects y.cls y y ∈ Tbl := in_pv lw_privs_1 (fun _ h => List.mem_append_left _ h) i h
theorem pv2 {y : MethodName} {n : Nat} (i : Nat) (h : lw_privs_2[i]? = some (y, n)) : Cond.selects y.cls y y ∈ Tbl := in_pv lw_privs_2 (fun _ h => List.mem_append_right _ (List.mem_append_left _ h)) i h
theorem pv3 {y : MethodName} {n : Nat} (i : Nat) (h : lw_privs_3[i]? = some (y, n)) : Cond.selects y.cls y y ∈ Tbl := in_pv lw_privs_3 (fun _ h => List.mem_append_right _ (List.mem_append_right _ (List.mem_append_left _ h))) i h
theorem pv4 {y : MethodName} {n : Nat} (i : Nat) (h : lw_privs_4[i]? = some (y, n)) : Cond.selects y.cls y y ∈ Tbl := in_pv lw_privs_4 (fun _ h => List.mem_append_right _ (List.mem_append_right _ (List.mem_append_right _ (List.mem_append_left _ h)))) i h
theorem pv5 {y : MethodName} {n : Nat} (i : Nat) (h : lw_privs_5[i]? = some (y, n)) : Cond.selects y.cls y y ∈ Tbl := in_pv lw_privs_5 (fun _ h => List.mem_append_right _ (List.mem_append_right _ (List.mem_append_right _ (List.mem_append_right _ (List.mem_append_left _ h))))) i h
theorem pv6 {y : MethodName} {n : Nat} (i : Nat) (h : lw_privs_6[i]? = some (y, n)) : Cond.selects y.cls y y ∈ Tbl := in_pv lw_privs_6 (fun _ h => List.mem_append_right _ (List.mem_append_right _ (List.mem_append_right _ (List.mem_append_right _ (List.mem_append_right _ (List.mem_append_left _ h)))))) i h
theorem pv7 {y : MethodName} {n : Nat} (i : Nat) (h : lw_privs_7[i]? = some (y, n)) : Cond.selects y.cls y y ∈ Tbl := in_pv lw_privs_7 (fun _ h => List.mem_append_right _ (List.mem_append_right _ (List.mem_append_right _ (List.mem_append_right _ (List.mem_append_right _ (List.mem_append_right _ (List.mem_append_left _ h))))))) i h
theorem pv8 {y : MethodName} {n : Nat} (i : Nat) (h : lw_privs_8[i]? = some (y, n)) : Cond.selects y.cls y y ∈ Tbl := in_pv lw_privs_8 (fun _ h => List.mem_append_right _ (List.mem_append_right _ (List.mem_append_right _ (List.mem_append_right _ (List.mem_append_right _ (List.mem_append_right _ (List.mem_append_right _ (List.mem_append_left _ h)))))))) i h
theorem pv9 {y : MethodName} {n : Nat} (i : Nat) (h : lw_privs_9[i]? = some (y, n)) : Cond.selects y.cls y y ∈ Tbl := in_pv lw_privs_9 (fun _ h => List.mem_append_right _ (List.mem_append_right _ (List.mem_append_right _ (List.mem_append_right _ (List.mem_append_right _ (List.mem_append_right _ (List.mem_append_right _ (List.mem_append_right _ (List.mem_append_left _ h))))))))) i h
theorem pv10 {y : MethodName} {n : Nat} (i : Nat) (h : lw_privs_10[i]? = some (y, n)) : Cond.selects y.cls y y ∈ Tbl := in_pv lw_privs_10 (fun _ h => List.mem_append_right _ (List.mem_append_right _ (List.mem_append_right _ (List.mem_append_right _ (List.mem_append_right _ (List.mem_append_right _ (List.mem_append_right _ (List.mem_append_right _ (List.mem_append_right _ (List.mem_append_left _ h)))))))))) i h
theorem pv11 {y : MethodName} {n : Nat} (i : Nat) (h : lw_privs_11[i]? = some (y, n)) : Cond.selects y.cls y y ∈ Tbl := in_pv lw_privs_11 (fun _ h => List.mem_append_right _ (List.mem_append_right _ (List.mem_append_right _ (List.mem_append_right _ (List.mem_append_right _ (List.mem_append_right _ (List.mem_append_right _ (List.mem_append_right _ (List.mem_append_right _ (List.mem_append_right _ (List.mem_append_left _ h))))))))))) i h
theorem pv12 {y : MethodName} {n : Nat} (i : Nat) (h : lw_privs_12[i]? = some (y, n)) : Cond.selects y.cls y y ∈ Tbl := in_pv lw_privs_12 (fun _ h => List.mem_append_right _ (List.mem_append_right _ (List.mem_append_right _ (List.mem_append_right _ (List.mem_append_right _ (List.mem_append_right _ (List.mem_append_right _ (List.mem_append_right _ (List.mem_append_right _ (List.mem_append_right _ (List.mem_append_right _ (h)))))))))))) i h
theorem fit_z {x : Int} (h : x = 0 ∨ x = 1) : ∀ g : GG, narrow .boolean (cv g (0, x)) = cv g (0, x) ∧ fits .boolean (cv g (0, x)) = true := by
  intro g
  rcases h with rfl | rfl <;> exact ⟨rfl, rfl⟩
theorem fit_a {x : Int} : ∀ g : GG, narrow (.array .int) (cv g (2, x)) = cv g (2, x) ∧ fits (.array .int) (cv g (2, x)) = true := by
  intro g
  show narrow (.array .int) (cr g x) = cr g x ∧ fits (.array .int) (cr g x) = true
  by_cases hx : x = -1
  · subst hx; exact ⟨rfl, rfl⟩
  · obtain ⟨q, hq⟩ := cr_ref g hx
    rw [hq]; exact ⟨rfl, rfl⟩
theorem n01 : (0 : Nat) ≠ 1 := by decide
theorem n21 : (2 : Nat) ≠ 1 := by decide
section LM
variable {d pc : Nat} {M N : MR} {ls st st0 : List AV} {σ : SG} {Q : Int → SG → Prop}
theorem L_callVI {n ci idx : Nat} {a : Int} {As : List AV} (ht : rtg N.2.2.2 = 0) (hN : CV N n ci) (hn : As.length = n) (hw : Cond.methodLink M.1.cls idx N.1 ∈ Tbl) (hs : st0 = As.reverse ++ vA a :: st) (hc : (st.map catv).sum ≤ 8) (hd : decode M.2.1 pc = .ok (.invokevirtual idx, 3))
    (h : obok ci a ∧ Tri d N (vA a :: As) σ (fun r σ' => L (d + 1) M (pc + 3) ls (vI r :: st) σ' Q)) : L (d + 1) M pc ls st0 σ Q := L_callV hN hn hw hs hc hd ⟨h.1, by rw [ht]; exact h.2⟩
theorem L_callVJ {n ci idx : Nat} {a : Int} {As : List AV} (ht : rtg N.2.2.2 = 1) (hN : CV N n ci) (hn : As.length = n) (hw : Cond.methodLink M.1.cls idx N.1 ∈ Tbl) (hs : st0 = As.reverse ++ vA a :: st) (hc : (st.map catv).sum ≤ 8) (hd : decode M.2.1 pc = .ok (.invokevirtual idx, 3))
    (h : obok ci a ∧ Tri d N (vA a :: As) σ (fun r σ' => L (d + 1) M (pc + 3) ls (vJ r :: st) σ' Q)) : L (d + 1) M pc ls st0 σ Q := L_callV hN hn hw hs hc hd ⟨h.1, by rw [ht]; exact h.2⟩
theorem L_callVV {n ci idx : Nat} {a : Int} {As : List AV} (ht : rtg N.2.2.2 = 9) (hN : CV N n ci) (hn : As.length = n) (hw : Cond.methodLink M.1.cls idx N.1 ∈ Tbl) (hs : st0 = As.reverse ++ vA a :: st) (hc : (st.map catv).sum ≤ 8) (hd : decode M.2.1 pc = .ok (.invokevirtual idx, 3))
    (h : obok ci a ∧ Tri d N (vA a :: As) σ (fun r σ' => L (d + 1) M (pc + 3) ls st σ' Q)) : L (d + 1) M pc ls st0 σ Q := L_callV hN hn hw hs hc hd ⟨h.1, by rw [ht]; exact h.2⟩
theorem L_callSI {n idx : Nat} {As : List AV} (ht : rtg N.2.2.2 = 0) (hN : CS N n) (hn : As.length = n) (hw : Cond.methodLink M.1.cls idx N.1 ∈ Tbl) (hs : st0 = As.reverse ++ st) (hc : (st.map catv).sum ≤ 8) (hd : decode M.2.1 pc = .ok (.invokestatic idx, 3))
    (h : Tri d N As σ (fun r σ' => L (d + 1) M (pc + 3) ls (vI r :: st) σ' Q)) : L (d + 1) M pc ls st0 σ Q := L_callS hN hn hw hs hc hd (by rw [ht]; exact h)
theorem L_callSJ {n idx : Nat} {As : List AV} (ht : rtg N.2.2.2 = 1) (hN : CS N n) (hn : As.length = n) (hw : Cond.methodLink M.1.cls idx N.1 ∈ Tbl) (hs : st0 = As.reverse ++ st) (hc : (st.map catv).sum ≤ 8) (hd : decode M.2.1 pc = .ok (.invokestatic idx, 3))
    (h : Tri d N As σ (fun r σ' => L (d + 1) M (pc + 3) ls (vJ r :: st) σ' Q)) : L (d + 1) M pc ls st0 σ Q := L_callS hN hn hw hs hc hd (by rw [ht]; exact h)
theorem L_callSV {n idx : Nat} {As : List AV} (ht : rtg N.2.2.2 = 9) (hN : CS N n) (hn : As.length = n) (hw : Cond.methodLink M.1.cls idx N.1 ∈ Tbl) (hs : st0 = As.reverse ++ st) (hc : (st.map catv).sum ≤ 8) (hd : decode M.2.1 pc = .ok (.invokestatic idx, 3))
    (h : Tri d N As σ (fun r σ' => L (d + 1) M (pc + 3) ls st σ' Q)) : L (d + 1) M pc ls st0 σ Q := L_callS hN hn hw hs hc hd (by rw [ht]; exact h)
theorem L_callNI {n idx : Nat} {As : List AV} (ht : rtg N.2.2.2 = 0) (hN : CS N n) (hn : As.length = n) (hw : (M.1.cls, idx, N.1) ∈ nestM) (hs : st0 = As.reverse ++ st) (hc : (st.map catv).sum ≤ 8) (hd : decode M.2.1 pc = .ok (.invokestatic idx, 3))
    (h : Tri d N As σ (fun r σ' => L (d + 1) M (pc + 3) ls (vI r :: st) σ' Q)) : L (d + 1) M pc ls st0 σ Q := L_callSN hN hn hw hs hc hd (by rw [ht]; exact h)
theorem L_copyIN {idx : Nat} {n dp dst sp src : Int} (hw : Cond.methodLink M.1.cls idx arraycopyName ∈ Tbl) (hc : (st.map catv).sum ≤ 8) (hd : decode M.2.1 pc = .ok (.invokestatic idx, 3))
    (h : (0 ≤ dst ∧ (kd dst).1 = 100 ∧ (kd src).1 = 100 ∧ 0 ≤ sp ∧ 0 ≤ dp ∧ 0 ≤ n ∧ sp + n ≤ ((kd src).2 : Int) ∧ dp + n ≤ ((kd dst).2 : Int)) ∧ ∀ σ', σ' = cpy σ src sp dst dp n → L (d + 1) M (pc + 3) ls st σ' Q) :
    L (d + 1) M pc ls (vI n :: vI dp :: vA dst :: vI sp :: vA src :: st) σ Q := L_copyI hw hc hd ⟨h.1, h.2 _ rfl⟩
theorem L_copyJN {idx : Nat} {n dp dst sp src : Int} (hw : Cond.methodLink M.1.cls idx arraycopyName ∈ Tbl) (hc : (st.map catv).sum ≤ 8) (hd : decode M.2.1 pc = .ok (.invokestatic idx, 3))
    (h : (0 ≤ dst ∧ 0 ≤ src ∧ (kd dst).1 = 101 ∧ (kd src).1 = 101 ∧ 0 ≤ sp ∧ 0 ≤ dp ∧ 0 ≤ n ∧ sp + n ≤ ((kd src).2 : Int) ∧ dp + n ≤ ((kd dst).2 : Int)) ∧ ∀ σ', σ' = cpy σ src sp dst dp n → L (d + 1) M (pc + 3) ls st σ' Q) :
    L (d + 1) M pc ls (vI n :: vI dp :: vA dst :: vI sp :: vA src :: st) σ Q := L_copyJ hw hc hd ⟨h.1, h.2 _ rfl⟩
theorem L_alenJ {a : Int} (hd : decode M.2.1 pc = .ok (.arraylength, 1)) (h : (0 ≤ a ∧ (kd a).1 = 101) ∧ L d M (pc + 1) ls (vI ((kd a).2 : Int) :: st) σ Q) : L d M pc ls (vA a :: st) σ Q := by
  intro l g p e s m args below meth c H locs A cx hR hl hL hst
  obtain ⟨⟨ha, hk⟩, h⟩ := h
  obtain ⟨n, rfl⟩ := nat_of ha
  rw [kd_nat] at hk h
  have e0 : (List.map (cv g) (vA n :: st)) = .ref (gB g + n) :: st.map (cv g) := by
    show cr g n :: _ = _
    rw [cr_nat]
  rw [e0]
  have hn : n < KF.length := kdn_lt (by omega)
  have hle : (kdn n).2 ≤ 3440 := by
    have h9 : ∀ a, a < 197 → (kdn a).2 ≤ 3440 := by decide +kernel
    exact h9 n (by rw [← kf_len]; exact hn)
  refine va_alen (D := gD g) (tys := tysA g) cx.1 cx.2.1 cx.2.2.2.2.2.2.2.1.1 hR.1.1 n 1 (by rw [wsO_at hn, celK_101 hk]) rfl rfl hd ?_
  refine h.push (v := vI ((kdn n).2 : Int)) ?_ cx hR hl hL (ok_tail hst) ?_
  · show inI ((kdn n).2 : Int)
    unfold inI; omega
  · show Value.int _ = Value.int _
    rw [Int32.ofInt_eq_ofNat]
end LM
