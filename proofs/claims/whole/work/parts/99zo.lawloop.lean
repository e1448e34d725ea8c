/-! ===== the law: the two makings, the loop ===== -/
section LOP
variable {l : Launch} {g : GG} {p : Program} {e : Env} {s : State} {m : MethodId} {b : Nat} {below : List Frame} {meth : Method} {c : Code} {Lc : Nat} {xs : Nat → Int32}
theorem LX_istore_n (cx : LC g p s m b meth c Lc xs) {pc : Nat} {ls st : List AV} {σ : SG} {k : Fin 4} {x : Int} (hd : decode code pc = .ok (.istore_n k, 1)) (hi : (k : Nat) < 4) (h : LX l g p e s m b below meth c (pc + 1) (lst k (vI x) ls) st σ) : LX l g p e s m b below meth c pc ls (vI x :: st) σ := by
  intro H locs A hR hl hL hst
  refine lv_istore_n cx.1.1 cx.1.2.1 hd rfl hL.1 hi rfl (fun A' hA' => ?_)
  exact h H locs A' hR hl (Lo.set rfl hL.2 (ok_head hst) hA') (ok_tail hst)
theorem law_loop (cx : LC g p s m b meth c Lc xs) : ∀ (t k : Nat) (σ : SG), Lc < k + t → k ≤ Lc + 6 → IVT σ → LX l g p e s m b below meth c 18 [vA (-33), vA 0, vA 161, vI k] [] σ := by
  have hL3 := cx.2.2.2.2.2
  intro t
  induction t with
  | zero =>
    intro k σ h1 h2 hI
    refine LX_iload_n cx dlw_18 rfl (LX_aload_n cx dlw_19 rfl (by omega) (LX_slen cx dlw_20 (LX_bipush cx dlw_21 (by decide) ⟨by decide, by decide⟩ (LX_isub cx (z := (Lc : Int) - 6) (w32_id (by omega) (by omega)) dlw_23 (LX_icmp_gt cx (tgt := 1594) dlw_24 (by omega) ⟨fun _ => ?_, fun q => by omega⟩)))))
    exact LX_iconst cx dlw_1594 ⟨by decide, by decide⟩ (LX_end cx dlw_1595)
  | succ t ih =>
    intro k σ h1 h2 hI
    refine LX_iload_n cx dlw_18 rfl (LX_aload_n cx dlw_19 rfl (by omega) (LX_slen cx dlw_20 (LX_bipush cx dlw_21 (by decide) ⟨by decide, by decide⟩ (LX_isub cx (z := (Lc : Int) - 6) (w32_id (by omega) (by omega)) dlw_23 (LX_icmp_gt cx (tgt := 1594) dlw_24 (by omega) ⟨fun _ => ?_, fun q => ?_⟩)))))
    · exact LX_iconst cx dlw_1594 ⟨by decide, by decide⟩ (LX_end cx dlw_1595)
    · have hk : k + 6 ≤ Lc := by omega
      refine LX_aload_n cx dlw_27 rfl (by omega) (LX_iload_n cx dlw_28 rfl (LX_sld cx rfl (by omega) dlw_29 (LX_bipush cx dlw_30 (by decide) ⟨by decide, by decide⟩ (LX_iand cx dlw_32 (law_switch cx hk hI (fun σ2 hI2 => ?_))))))
      refine LX_iinc cx (x' := ((k + 6 : Nat) : Int)) dlw_1588 rfl (by decide) (w32_k (n := 6) (by omega) rfl) (LX_goto cx (tgt := 18) dlw_1591 (by omega) ?_)
      exact ih (k + 6) σ2 (by omega) (by omega) hI2
/-- while the heap is laid: the law -/
def LY (l : Launch) (g : GG) (p : Program) (e : Env) (s : State) (m : MethodId) (b : Nat) (below : List Frame) (meth : Method) (c : Code) (pc : Nat) (ls st : List AV) (n : Nat) (σ : SG) : Prop :=
  ∀ (H : Heap) (locs : List Loc) (A : Array Slot), RN g n σ H → (∀ q ∈ locs, Ag g q.base) → Lo g 4 ls A → (∀ v ∈ st, okv v) →
    W p l e room_1 s m #[.ref b] below meth c H locs n (3440 * n) (lw_Z below #[.ref b] s) (F0 m pc A (st.map (cv g)))
theorem LY_new (cx : LC g p s m b meth c Lc xs) {pc idx ci N n : Nat} {ls st : List AV} {σ : SG} {C : String} {T : u_T} (hc : classes[ci]? = some (C, T, N)) (hk : kdn n = (ci, N)) (hn1 : n < 197) (w1 : Cond.classLink "BracketRoomLaw" idx C ∈ Tbl) (w2 : Cond.instantiable C N ∈ Tbl) (w3 : Cond.initialized C ∈ Tbl) (hd : decode code pc = .ok (.new idx, 3)) (h : LY l g p e s m b below meth c (pc + 3) ls (vA n :: st) (n + 1) (bl σ n)) : LY l g p e s m b below meth c pc ls st n σ := by
  intro H locs A hR hl hL hst
  have hN := (cls_N ci _ hc).2
  simp only at hN
  refine W_new cx.1 hR hc hk w1 w2 w3 (by show n + 1 ≤ 600000; omega) (by show 3440 * n + N ≤ 7302250; omega) hd (fun H1 hR1 => ?_)
  refine W.widen (k := n + 1) (n := 3440 * (n + 1)) (by omega) (by omega) ?_
  have h1 := h H1 locs A hR1 hl hL (cons_ok (v := vA n) trivial hst)
  have e0 : (List.map (cv g) (vA n :: st)) = .ref (gB g + n) :: st.map (cv g) := by
    show cr g n :: _ = _
    rw [cr_nat]
  rw [e0] at h1
  exact h1
theorem LY_dup (cx : LC g p s m b meth c Lc xs) {pc n : Nat} {ls st : List AV} {σ : SG} {v : AV} (hd : decode code pc = .ok (.dup, 1)) (hv : v.1 ≠ 1) (h : LY l g p e s m b below meth c (pc + 1) ls (v :: v :: st) n σ) : LY l g p e s m b below meth c pc ls (v :: st) n σ := by
  intro H locs A hR hl hL hst
  exact lv_dup cx.1.1 cx.1.2.1 hd (cat1 hv) (h H locs A hR hl hL (cons_ok (ok_head hst) hst))
theorem LY_astore (cx : LC g p s m b meth c Lc xs) {pc n : Nat} {ls st : List AV} {σ : SG} {k : Fin 4} {x : Int} (hd : decode code pc = .ok (.astore_n k, 1)) (hi : (k : Nat) < 4) (hx : x ≠ -1) (h : LY l g p e s m b below meth c (pc + 1) (lst k (vA x) ls) st n σ) : LY l g p e s m b below meth c pc ls (vA x :: st) n σ := by
  intro H locs A hR hl hL hst
  obtain ⟨q, hq⟩ := cr_ref g hx
  have e0 : (List.map (cv g) (vA x :: st)) = .ref q :: st.map (cv g) := by rw [← hq]; rfl
  rw [e0]
  refine lv_astore_n cx.1.1 cx.1.2.1 hd rfl hL.1 hi rfl (fun A' hA' => ?_)
  rw [← hq] at hA'
  exact h H locs A' hR hl (Lo.set (v := vA x) rfl hL.2 trivial hA') (ok_tail hst)
theorem LY_init (cx : LC g p s m b meth c Lc xs) (hKN : KN g s) {pc n n' idx d : Nat} {a : Int} {ls st : List AV} {σ : SG} {N : MR} (hN : CI N 0) (hw : Cond.methodLink "BracketRoomLaw" idx N.1 ∈ Tbl) (ha : 0 ≤ a) (hn2 : n ≤ n') (hn1 : n' ≤ 197) (hc : (st.map catv).sum ≤ 8) (hd40 : d ≤ 2000) (hd : decode code pc = .ok (.invokespecial idx, 3))
    (h : TN d n n' N [vA a] σ (fun σ' => LY l g p e s m b below meth c (pc + 3) ls st n' σ')) : LY l g p e s m b below meth c pc ls (vA a :: st) n σ := by
  intro H locs A hR hl hL hst
  obtain ⟨y, rfl⟩ := nat_of ha
  obtain ⟨n1', n2', n3', n4', n5', n6', n7'⟩ := hN
  have hts := cx.1.2.2.2.2.2.2.1
  have e0 : (List.map (cv g) (vA y :: st)) = .ref (gB g + y) :: st.map (cv g) := by
    show cr g y :: _ = _
    rw [cr_nat]
  rw [e0]
  have hst' : ∀ v ∈ st, okv v := ok_tail hst
  have hgood : GoodIn Tbl (wsM N) := good_Tbl (wsM_in (by rw [n2']; exact n1'))
  have hwe : wsM N = Cond.code N.1 N.2.1 N.2.2.1 none :: Tbl := by unfold wsM; rw [n2']
  have hok : ∀ v ∈ [vA (y : Int)], okv v := fun v hv => by
    rcases List.mem_cons.mp hv with rfl | h1
    · exact True.intro
    · cases h1
  have hpre : PreS s H (PNc g [vA (y : Int)] n σ) [.ref (gB g + y)] := ⟨PN_blind g _ _ _, fun U hU hW => ⟨by show _ = ([cr g y] : List Value).toArray; rw [cr_nat], hok, by rw [hU]; exact hR, hKN.warm hW⟩⟩
  have hr := va_runI (p := p) (m := m) (meth := meth) (c := c) (R := room_1) (e := e) (below := below) (locs := locs) (cells := n) (slots := 3440 * n) (g := F0 m pc A (.ref (gB g + y) :: st.map (cv g))) (Ts := Tbl) (nL := 4) (As := []) (rest := st.map (cv g)) ⟨cx.1.1, cx.1.2.1, cx.1.2.2.1, cx.1.2.2.2.2.2.1, hts⟩ (h l g)
    (cwI 0 hts hgood hwe rfl rfl (hts _ n4') (hts _ hw) (hts _ n3') n6' n7' ⟨by show d + 1 ≤ 2048; omega, by show 8 + (N.2.2.1 + 11) + 40 * d ≤ 84000; omega⟩)
    hpre
    rfl rfl (hL.1.1) rfl (by show 2 * 0 + _ ≤ 8; rw [cat_sum]; omega) hd ⟨by show n + (n' - n) ≤ 600000; omega, by show 3440 * n + 3440 * (n' - n) ≤ 7302250; omega⟩
  intro T2 hT X
  obtain ⟨v, st₀, u, T', Lc', h0, X', hLc, e1, e2, ⟨σ', hv, hR2, hQ⟩, go⟩ := hr T2 hT X
  have hv' : v = none := by injection hv
  subst hv'
  rw [show n + (n' - n) = n' by omega, show 3440 * n + 3440 * (n' - n) = 3440 * n' by omega] at X'
  have hl' : ∀ q ∈ locs ++ Lc', Ag g q.base := by
    intro q hq
    rcases List.mem_append.mp hq with h1 | h1
    · exact hl q h1
    · exact hLc q h1
  obtain ⟨t2, a1, b1⟩ := hQ u.heap (locs ++ Lc') A hR2 hl' hL hst' T' e1 X'
  exact ⟨t2, go t2 a1, b1⟩
theorem LY_done (cx : LC g p s m b meth c Lc xs) {pc : Nat} {ls st : List AV} {σ : SG} (hcg : ∀ b : Nat, b < 197 → ∀ j : Nat, j < (kdn b).2 → σ b j = s0 b j) (h : LX l g p e s m b below meth c pc ls st s0) : LY l g p e s m b below meth c pc ls st 197 σ := by
  intro H locs A hR hl hL hst
  have hB := cx.2.2.2.1
  refine W.widen (k := 200) (n := 700000) (by omega) (by omega) (h H locs A ⟨RN_Rp hR hcg, by rw [hR.2.1]; omega⟩ hl hL hst)
theorem kds_of {a : Nat} {ks : List (Nat × Nat)} (h : (KF.drop a).take ks.length = ks) : kds a ks := by
  intro i q hi
  have hlt : i < ks.length := (List.getElem?_eq_some_iff.mp hi).1
  rw [← h, List.getElem?_take, if_pos hlt, List.getElem?_drop] at hi
  unfold kdn
  rw [List.getD_eq_getElem?_getD, hi]
  rfl
end LOP
theorem law_start {l : Launch} {g : GG} {p : Program} {e : Env} {s : State} {m : MethodId} {b : Nat} {below : List Frame} {meth : Method} {c : Code} {Lc : Nat} {xs : Nat → Int32} (cx : LC g p s m b meth c Lc xs) (hKN : KN g s) : LY l g p e s m b below meth c 0 [vA (-33), vU, vU, vU] [] 0 (fun _ _ => 0) := by
  have hL3 := cx.2.2.2.2.2
  refine LY_new cx (ci := 11) (n := 0) rfl (by decide +kernel) (by decide) (by decide +kernel) (by decide +kernel) (by decide +kernel) dlw_0 ?_
  refine LY_dup cx dlw_3 n21 ?_
  refine LY_init cx hKN (N := M_X_init) (d := 4) (n' := 161) ci_X_init (by decide +kernel) (by omega) (by omega) (by omega) (Nat.le_of_ble_eq_true rfl) (by omega) dlw_4 (n_Room (d := 0) (a := 0) rfl (kds_of (by decide +kernel)) ?_)
  refine LY_astore cx dlw_7 (by decide) (by omega) ?_
  refine LY_new cx (ci := 12) (n := 161) rfl (by decide +kernel) (by decide) (by decide +kernel) (by decide +kernel) (by decide +kernel) dlw_8 ?_
  refine LY_dup cx dlw_11 n21 ?_
  refine LY_init cx hKN (N := M_R_init) (d := 1) (n' := 197) ci_R_init (by decide +kernel) (by omega) (by omega) (by omega) (Nat.le_of_ble_eq_true rfl) (by omega) dlw_12 (n_Model (d := 0) (a := 161) rfl (kds_of (by decide +kernel)) ?_)
  refine LY_astore cx dlw_15 (by decide) (by omega) ?_
  refine LY_done cx (fun b hb j hj => ?_) ?_
  · by_cases h1 : b < 161
    · rw [pat_out (by omega), pat_in (by omega)]
    · rw [pat_in (by omega)]
  · refine LX_iconst cx dlw_16 ⟨by decide, by decide⟩ (LX_istore_n cx dlw_17 (by decide) ?_)
    exact law_loop cx (Lc + 1) 0 s0 (by omega) (by omega) IVT0
