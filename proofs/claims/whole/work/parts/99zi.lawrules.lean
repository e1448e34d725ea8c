/-! ===== the law's own judgement ===== -/
abbrev M_law : MR := (⟨"BracketRoomLaw", "law", "([I)Z"⟩, code, 4, ret)
def LC (g : GG) (p : Program) (s : State) (m : MethodId) (b : Nat) (meth : Method) (c : Code) (Lc : Nat) (xs : Nat → Int32) : Prop := CX g M_law p s m #[.ref b] meth c ∧ va_X b Lc xs s s.heap ∧ b < gB g ∧ gB g = s.heap.size ∧ gK g 23 = b ∧ Lc ≤ 3072
def LX (l : Launch) (g : GG) (p : Program) (e : Env) (s : State) (m : MethodId) (b : Nat) (below : List Frame) (meth : Method) (c : Code) (pc : Nat) (ls st : List AV) (σ : SG) : Prop :=
  ∀ (H : Heap) (locs : List Loc) (A : Array Slot), RS g σ s H → (∀ q ∈ locs, Ag g q.base) → Lo g 4 ls A → (∀ v ∈ st, okv v) →
    W p l e room_1 s m #[.ref b] below meth c H locs 200 700000 (lw_Z below #[.ref b] s) (F0 m pc A (st.map (cv g)))
section LXR
variable {l : Launch} {g : GG} {p : Program} {e : Env} {s : State} {m : MethodId} {b : Nat} {below : List Frame} {meth : Method} {c : Code} {Lc : Nat} {xs : Nat → Int32} {pc : Nat} {ls st : List AV} {σ : SG}
theorem LX.push {v : AV} {pc2 : Nat} (h : LX l g p e s m b below meth c pc2 ls (v :: st) σ) (hv : okv v) {H : Heap} {locs : List Loc} {A : Array Slot} (hR : RS g σ s H) (hl : ∀ q ∈ locs, Ag g q.base) (hL : Lo g 4 ls A) (hst : ∀ v ∈ st, okv v) {w : Value} (hw : cv g v = w) :
    W p l e room_1 s m #[.ref b] below meth c H locs 200 700000 (lw_Z below #[.ref b] s) (F0 m pc2 A (w :: st.map (cv g))) := by
  subst hw
  exact h H locs A hR hl hL (cons_ok hv hst)
theorem LX_iconst (cx : LC g p s m b meth c Lc xs) {k : Int} (hd : decode code pc = .ok (.iconst k, 1)) (hk : inI k) (h : LX l g p e s m b below meth c (pc + 1) ls (vI k :: st) σ) : LX l g p e s m b below meth c pc ls st σ := by
  intro H locs A hR hl hL hst
  exact lv_iconst cx.1.1 cx.1.2.1 hd rfl (h.push hk hR hl hL hst rfl)
theorem LX_bipush (cx : LC g p s m b meth c Lc xs) {k : Int} (hd : decode code pc = .ok (.bipush k, 2)) (hk : (Int8.ofInt k).toInt32 = Int32.ofInt k) (hk2 : inI k) (h : LX l g p e s m b below meth c (pc + 2) ls (vI k :: st) σ) : LX l g p e s m b below meth c pc ls st σ := by
  intro H locs A hR hl hL hst
  exact lv_bipush cx.1.1 cx.1.2.1 hd hk (h.push hk2 hR hl hL hst rfl)
theorem LX_ldc2 (cx : LC g p s m b meth c Lc xs) {index : Nat} {v : Int64} {x : Int} (hw : Cond.constantLong "BracketRoomLaw" index v ∈ Tbl) (hv : v = Int64.ofInt x) (hx : inJ x) (hd : decode code pc = .ok (.ldc2_w index, 3)) (h : LX l g p e s m b below meth c (pc + 3) ls (vJ x :: st) σ) : LX l g p e s m b below meth c pc ls st σ := by
  intro H locs A hR hl hL hst
  subst hv
  exact lv_ldc2 cx.1.1 cx.1.2.1 cx.1.2.2.2.2.2.1 (cx.1.2.2.2.2.2.2.1 _ hw) hd (h.push hx hR hl hL hst rfl)
theorem LX_iload_n (cx : LC g p s m b meth c Lc xs) {k : Fin 4} {x : Int} (hd : decode code pc = .ok (.iload_n k, 1)) (hi : ls[(k : Nat)]? = some (vI x)) (h : LX l g p e s m b below meth c (pc + 1) ls (vI x :: st) σ) : LX l g p e s m b below meth c pc ls st σ := by
  intro H locs A hR hl hL hst
  exact lv_iload_n cx.1.1 cx.1.2.1 hd rfl (hL.get hi n09) (h.push (hL.ok hi) hR hl hL hst rfl)
theorem LX_aload_n (cx : LC g p s m b meth c Lc xs) {k : Fin 4} {x : Int} (hd : decode code pc = .ok (.aload_n k, 1)) (hi : ls[(k : Nat)]? = some (vA x)) (hx : x ≠ -1) (h : LX l g p e s m b below meth c (pc + 1) ls (vA x :: st) σ) : LX l g p e s m b below meth c pc ls st σ := by
  intro H locs A hR hl hL hst
  have h1 : A[(k : Nat)]? = some (.val (cr g x)) := hL.get hi n29
  obtain ⟨q, hq⟩ := cr_ref g hx
  rw [hq] at h1
  exact lv_aload_n cx.1.1 cx.1.2.1 hd rfl h1 (h.push (v := vA x) trivial hR hl hL hst hq)
theorem LX_iinc (cx : LC g p s m b meth c Lc xs) {i : Nat} {k x x' : Int} (hd : decode code pc = .ok (.iinc i k, 3)) (hg : ls[i]? = some (vI x)) (hi : i < 4) (hx : w32 (x + k) = x') (h : LX l g p e s m b below meth c (pc + 3) (lst i (vI x') ls) st σ) : LX l g p e s m b below meth c pc ls st σ := by
  intro H locs A hR hl hL hst
  obtain ⟨j, hj⟩ := List.getElem?_of_mem (kn_mem (g := g) (i := 0) (ls := ls) (q := (i, .int (Int32.ofInt x))).mpr ⟨i, vI x, hg, n09, by simp [cv]⟩)
  refine lv_iinc (v := Int32.ofInt (w32 (x + k))) cx.1.1 cx.1.2.1 hd hL.1 hj (by rw [of_w32, Int32.ofInt_add]) hi rfl (fun A' hA' => ?_)
  subst hx
  exact h H locs A' hR hl (Lo.set (v := vI (w32 (x + k))) rfl hL.2 (w32_in _) hA') hst
theorem LX_iadd (cx : LC g p s m b meth c Lc xs) {x y z : Int} (hz : w32 (x + y) = z) (hd : decode code pc = .ok (.iadd, 1)) (h : LX l g p e s m b below meth c (pc + 1) ls (vI z :: st) σ) : LX l g p e s m b below meth c pc ls (vI y :: vI x :: st) σ := by
  intro H locs A hR hl hL hst
  subst hz
  exact lv_iadd cx.1.1 cx.1.2.1 hd (h.push (w32_in _) hR hl hL (ok_tail (ok_tail hst)) (by show Value.int _ = _; rw [of_w32, Int32.ofInt_add]))
theorem LX_isub (cx : LC g p s m b meth c Lc xs) {x y z : Int} (hz : w32 (x - y) = z) (hd : decode code pc = .ok (.isub, 1)) (h : LX l g p e s m b below meth c (pc + 1) ls (vI z :: st) σ) : LX l g p e s m b below meth c pc ls (vI y :: vI x :: st) σ := by
  intro H locs A hR hl hL hst
  subst hz
  exact lv_isub cx.1.1 cx.1.2.1 hd (h.push (w32_in _) hR hl hL (ok_tail (ok_tail hst)) (by show Value.int _ = _; rw [of_w32, Int32.ofInt_sub]))
theorem LX_iand (cx : LC g p s m b meth c Lc xs) {x y : Int} (hd : decode code pc = .ok (.iand, 1)) (h : LX l g p e s m b below meth c (pc + 1) ls (vI (and32 x y) :: st) σ) : LX l g p e s m b below meth c pc ls (vI y :: vI x :: st) σ := by
  intro H locs A hR hl hL hst
  exact lv_iand cx.1.1 cx.1.2.1 hd (h.push (int_in _) hR hl hL (ok_tail (ok_tail hst)) (by show Value.int _ = _; rw [and32, Int32.ofInt_toInt]))
theorem LX_land (cx : LC g p s m b meth c Lc xs) {x y : Int} (hd : decode code pc = .ok (.land, 1)) (h : LX l g p e s m b below meth c (pc + 1) ls (vJ (and64 x y) :: st) σ) : LX l g p e s m b below meth c pc ls (vJ y :: vJ x :: st) σ := by
  intro H locs A hR hl hL hst
  exact lv_land cx.1.1 cx.1.2.1 hd (h.push (long_in _) hR hl hL (ok_tail (ok_tail hst)) (by show Value.long _ = _; rw [and64, Int64.ofInt_toInt]))
theorem LX_lor (cx : LC g p s m b meth c Lc xs) {x y : Int} (hd : decode code pc = .ok (.lor, 1)) (h : LX l g p e s m b below meth c (pc + 1) ls (vJ (or64 x y) :: st) σ) : LX l g p e s m b below meth c pc ls (vJ y :: vJ x :: st) σ := by
  intro H locs A hR hl hL hst
  exact lv_lor cx.1.1 cx.1.2.1 hd (h.push (long_in _) hR hl hL (ok_tail (ok_tail hst)) (by show Value.long _ = _; rw [or64, Int64.ofInt_toInt]))
theorem LX_lshl (cx : LC g p s m b meth c Lc xs) {x y : Int} (hd : decode code pc = .ok (.lshl, 1)) (h : LX l g p e s m b below meth c (pc + 1) ls (vJ (shl64 x y) :: st) σ) : LX l g p e s m b below meth c pc ls (vI y :: vJ x :: st) σ := by
  intro H locs A hR hl hL hst
  exact lv_lshl cx.1.1 cx.1.2.1 hd rfl (h.push (long_in _) hR hl hL (ok_tail (ok_tail hst)) (by show Value.long _ = _; rw [shl64, Int64.ofInt_toInt]))
theorem LX_lcmp (cx : LC g p s m b meth c Lc xs) {x y : Int} (hd : decode code pc = .ok (.lcmp, 1)) (h : LX l g p e s m b below meth c (pc + 1) ls (vI (cmp3 x y) :: st) σ) : LX l g p e s m b below meth c pc ls (vJ y :: vJ x :: st) σ := by
  intro H locs A hR hl hL hst
  refine W.lcmp cx.1.1 cx.1.2.1 hd (h.push (cmp3_in _ _) hR hl hL (ok_tail (ok_tail hst)) ?_)
  refine congrArg Value.int ?_
  have hx : inJ x := ok_head (ok_tail hst)
  have hy : inJ y := ok_head hst
  unfold cmp3 lg_cmp
  by_cases h1 : y < x
  · rw [if_pos h1, if_pos ((lt64 hy hx).mpr h1)]; decide
  · rw [if_neg h1, if_neg (fun z => h1 ((lt64 hy hx).mp z))]
    by_cases h2 : x = y
    · rw [if_pos h2, if_pos ((eq64 hx hy).mpr h2)]; decide
    · rw [if_neg h2, if_neg (fun z => h2 ((eq64 hx hy).mp z))]; decide
theorem LX_i2l (cx : LC g p s m b meth c Lc xs) {x : Int} (hd : decode code pc = .ok (.i2l, 1)) (h : LX l g p e s m b below meth c (pc + 1) ls (vJ x :: st) σ) : LX l g p e s m b below meth c pc ls (vI x :: st) σ := by
  intro H locs A hR hl hL hst
  have hx : inI x := ok_head hst
  have hj : inJ x := by unfold inI at hx; unfold inJ; omega
  refine lv_i2l (v := Int64.ofInt x) cx.1.1 cx.1.2.1 hd ?_ (h.push hj hR hl hL (ok_tail hst) rfl)
  rw [← Int64.toInt_inj, Int32.toInt_toInt64, to32 hx, to64 hj]
theorem LX_goto (cx : LC g p s m b meth c Lc xs) {off : Int} {tgt : Nat} (hd : decode code pc = .ok (.goto off, 3)) (ht : (pc : Int) + off = (tgt : Int)) (h : LX l g p e s m b below meth c tgt ls st σ) : LX l g p e s m b below meth c pc ls st σ := by
  intro H locs A hR hl hL hst
  exact lv_goto cx.1.1 cx.1.2.1 hd ht (h H locs A hR hl hL hst)
theorem LX_icmp_eq (cx : LC g p s m b meth c Lc xs) {off : Int} {tgt : Nat} {x y : Int} (hd : decode code pc = .ok (.if_icmp .eq off, 3)) (ht : (pc : Int) + off = (tgt : Int)) (hxy : x = y) (h : LX l g p e s m b below meth c tgt ls st σ) : LX l g p e s m b below meth c pc ls (vI y :: vI x :: st) σ := by
  intro H locs A hR hl hL hst
  exact lv_icmp_eq cx.1.1 cx.1.2.1 hd ht (fun z => h H locs A hR hl hL (ok_tail (ok_tail hst))) (fun z => absurd (by rw [hxy]) z)
theorem LX_if_eq (cx : LC g p s m b meth c Lc xs) {off : Int} {tgt : Nat} {x : Int} (hd : decode code pc = .ok (.ifCond .eq off, 3)) (ht : (pc : Int) + off = (tgt : Int)) (hx : x = 0) (h : LX l g p e s m b below meth c tgt ls st σ) : LX l g p e s m b below meth c pc ls (vI x :: st) σ := by
  intro H locs A hR hl hL hst
  subst hx
  exact lv_if_eq cx.1.1 cx.1.2.1 hd ht (fun z => h H locs A hR hl hL (ok_tail hst)) (fun z => absurd rfl z)
theorem LX_icmp_gt (cx : LC g p s m b meth c Lc xs) {off : Int} {tgt : Nat} {x y : Int} (hd : decode code pc = .ok (.if_icmp .gt off, 3)) (ht : (pc : Int) + off = (tgt : Int)) (h : (y < x → LX l g p e s m b below meth c tgt ls st σ) ∧ (x ≤ y → LX l g p e s m b below meth c (pc + 3) ls st σ)) : LX l g p e s m b below meth c pc ls (vI y :: vI x :: st) σ := by
  intro H locs A hR hl hL hst
  have hx : inI x := ok_head (ok_tail hst)
  have hy : inI y := ok_head hst
  exact lv_icmp_gt cx.1.1 cx.1.2.1 hd ht (fun z => h.1 ((lt32 hy hx).mp z) H locs A hR hl hL (ok_tail (ok_tail hst))) (fun z => h.2 (Int.not_lt.mp (fun w => z ((lt32 hy hx).mpr w))) H locs A hR hl hL (ok_tail (ok_tail hst)))
theorem LX_table (cx : LC g p s m b meth c Lc xs) {dflt lo hi : Int} {offs : Array Int} {len tgt : Nat} {x : Int} (hd : decode code pc = .ok (.tableswitch dflt lo hi offs, len)) (ht : (pc : Int) + dflt = (tgt : Int)) (h : ((x < lo ∨ hi < x) → LX l g p e s m b below meth c tgt ls st σ) ∧ (∀ k : Nat, lo ≤ x → x ≤ hi → (k : Int) = x - lo → ∃ (off : Int) (t : Nat), offs[k]? = some off ∧ (pc : Int) + off = (t : Int) ∧ LX l g p e s m b below meth c t ls st σ)) : LX l g p e s m b below meth c pc ls (vI x :: st) σ := by
  intro H locs A hR hl hL hst
  have hx : inI x := ok_head hst
  by_cases ho : x < lo ∨ hi < x
  · exact lv_tableOut cx.1.1 cx.1.2.1 hd (by rw [to32 hx]; exact ho) ht (h.1 ho H locs A hR hl hL (ok_tail hst))
  · obtain ⟨off, t, h1, h2, h3⟩ := h.2 (x - lo).toNat (by omega) (by omega) (by omega)
    exact lv_tableIn cx.1.1 cx.1.2.1 hd (by rw [to32 hx]; omega) (by rw [to32 hx]; omega) (by rw [to32 hx]; exact h1) h2 (h3 H locs A hR hl hL (ok_tail hst))
theorem cr_scr (hb : gK g 23 = b) : cr g (-33) = .ref b := by
  unfold cr
  rw [if_neg (by omega), if_neg (by omega), if_neg (by omega)]
  exact congrArg Value.ref hb
theorem LX_slen (cx : LC g p s m b meth c Lc xs) (hd : decode code pc = .ok (.arraylength, 1)) (h : LX l g p e s m b below meth c (pc + 1) ls (vI Lc :: st) σ) : LX l g p e s m b below meth c pc ls (vA (-33) :: st) σ := by
  intro H locs A hR hl hL hst
  have hS := Rp_S hR hl cx.1.2.2.2.2.2.2.2.2.2
  have e0 : (List.map (cv g) (vA (-33) :: st)) = .ref b :: st.map (cv g) := by
    show cr g (-33) :: _ = _
    rw [cr_scr cx.2.2.2.2.1]
  rw [e0]
  have hL3 := cx.2.2.2.2.2
  have hB := cx.2.2.2.1
  have hbl := cx.2.2.1
  refine va_slen cx.1.1 cx.1.2.1 cx.2.1 (by omega) (show ¬ gB g ≤ b by omega) hS hd (h.push (v := vI (Lc : Int)) ?_ hR hl hL (ok_tail hst) ?_)
  · show inI (Lc : Int)
    unfold inI; omega
  · show Value.int _ = Value.int _
    rw [Int32.ofInt_eq_ofNat]
theorem LX_sld (cx : LC g p s m b meth c Lc xs) {j : Nat} {x : Int} (hx : x = (j : Int)) (hj : j < Lc) (hd : decode code pc = .ok (.iaload, 1)) (h : LX l g p e s m b below meth c (pc + 1) ls (vI (xs j).toInt :: st) σ) : LX l g p e s m b below meth c pc ls (vI x :: vA (-33) :: st) σ := by
  intro H locs A hR hl hL hst
  subst hx
  have hi : inI (j : Int) := ok_head hst
  have hS := Rp_S hR hl cx.1.2.2.2.2.2.2.2.2.2
  have e0 : (List.map (cv g) (vI j :: vA (-33) :: st)) = .int (Int32.ofInt j) :: .ref b :: st.map (cv g) := by
    show _ :: cr g (-33) :: _ = _
    rw [cr_scr cx.2.2.2.2.1]; rfl
  rw [e0]
  have hB := cx.2.2.2.1
  have hbl := cx.2.2.1
  refine va_sld cx.1.1 cx.1.2.1 cx.2.1 (by omega) (show ¬ gB g ≤ b by omega) hS (vq_in hi (by omega) (by omega)) hd (h.push (v := vI (xs j).toInt) (int_in _) hR hl hL (ok_tail (ok_tail hst)) ?_)
  show Value.int _ = Value.int _
  rw [Int32.ofInt_toInt, clamp32 hi]
  simp
theorem LX_callV (cx : LC g p s m b meth c Lc xs) {d n ci idx : Nat} {a : Int} {As st0 : List AV} {N : MR} (hN : CV N n ci) (hn : As.length = n) (hw : Cond.methodLink "BracketRoomLaw" idx N.1 ∈ Tbl) (hs : st0 = As.reverse ++ vA a :: st) (hc : (st.map catv).sum ≤ 8) (hd40 : d ≤ 2000) (hd : decode code pc = .ok (.invokevirtual idx, 3))
    (ho : obok ci a) (h : Tri d N (vA a :: As) σ (fun r σ' => LX l g p e s m b below meth c (pc + 3) ls (pu (rtg N.2.2.2) r st) σ')) : LX l g p e s m b below meth c pc ls st0 σ := by
  intro H locs A hR hl hL hst
  obtain ⟨ha0, hak⟩ := ho
  obtain ⟨y, rfl⟩ := nat_of ha0
  obtain ⟨n1, n2, n3, n4, n5, n6, T, K, n7⟩ := hN
  subst hs
  have hts := cx.1.2.2.2.2.2.2.1
  have hok : ∀ v ∈ vA y :: As, okv v := fun v hv => hst v (by
    rcases List.mem_cons.mp hv with rfl | h1
    · simp
    · simp [h1])
  have e0 : ((As.reverse ++ vA y :: st).map (cv g)) = (As.map (cv g)).reverse ++ .ref (gB g + y) :: st.map (cv g) := by
    rw [List.map_append, List.map_reverse]
    show _ ++ cr g y :: _ = _
    rw [cr_nat]
  rw [e0]
  rw [kd_nat] at hak
  have hci : ci < 13 := (cls_N ci _ n7).1
  have hrecv : ∃ cell : Cell, H[gB g + y]? = some cell ∧ cell.vm.isStatics = false ∧ s.vm.findClass N.1.cls = some cell.cls :=
    va_recv (ws := wsO g σ) cx.1.2.2.2.2.2.2.2.1.1 hR.1.1 n7 (by rw [wsO_at (kdn_lt (by rw [hak]; omega)), celK_obj (by rw [hak]; omega), hak])
  have hgood : GoodIn Tbl (wsV "BracketRoomLaw" idx N.1.cls N.1 (wsM N)) := good_Tbl (by
    intro w hw2
    unfold wsV at hw2
    rcases List.mem_append.mp hw2 with h1 | h1
    · simp only [List.mem_cons, List.not_mem_nil, or_false] at h1
      rcases h1 with rfl | rfl | rfl | rfl
      · exact hw
      · exact n2
      · exact n3
      · exact n4
    · exact wsM_in n1 w h1)
  have hst' : ∀ v ∈ st, okv v := fun v hv => hst v (by simp [hv])
  have hr := va_runV (p := p) (m := m) (meth := meth) (c := c) (R := room_1) (e := e) (below := below) (locs := locs) (cells := 200) (slots := 700000) (g := F0 m pc A ((As.map (cv g)).reverse ++ .ref (gB g + y) :: st.map (cv g))) (Ts := Tbl) (nL := 4) (As := As.map (cv g)) (rest := st.map (cv g)) ⟨cx.1.1, cx.1.2.1, cx.1.2.2.1, cx.1.2.2.2.2.2.1, hts⟩ (h l g)
    (cwV n hts hgood rfl rfl rfl ⟨rfl, n6.1, n6.2.1, n6.2.2⟩ ⟨by show d + 1 ≤ 2048; omega, by show 8 + (N.2.2.1 + 11) + 40 * d ≤ 84000; omega⟩)
    ⟨Pc_blind g _ _, hrecv, fun U hU hW => ⟨by show _ = (cr g y :: List.map (cv g) As).toArray; rw [cr_nat], hok, by rw [hU]; exact hR.1, cx.1.2.2.2.2.2.2.2.1.warm hW⟩⟩
    rfl (by rw [List.length_map]; exact hn) (hL.1.1) rfl (by show 2 * 0 + _ ≤ 8; rw [cat_sum]; omega) hd ⟨by show 200 + 0 ≤ 600000; omega, by show 700000 + 0 ≤ 7302250; omega⟩
  intro T2 hT X
  obtain ⟨v, st₀, u, T', Lc', h0, X', hLc, e1, e2, ⟨r, σ', hv, hok2, hR2, hQ⟩, go⟩ := hr T2 hT X
  have hv' : v = rv g (rtg N.2.2.2) r := by injection hv
  subst hv'
  have hl' : ∀ q ∈ locs ++ Lc', Ag g q.base := by
    intro q hq
    rcases List.mem_append.mp hq with h1 | h1
    · exact hl q h1
    · exact hLc q h1
  have hR' : RS g σ' s u.heap := ⟨hR2.1, Nat.le_trans hR.2 (by rw [← h0]; exact hR2.2)⟩
  have h1 := hQ u.heap (locs ++ Lc') A hR' hl' hL (pu_ok hok2 hst')
  rw [← pu_map] at h1
  obtain ⟨t2, a1, b1⟩ := h1 T' e1 X'
  exact ⟨t2, go t2 a1, b1⟩
theorem LX_callVI (cx : LC g p s m b meth c Lc xs) {d n ci idx : Nat} {a : Int} {As st0 : List AV} {N : MR} (hr : rtg N.2.2.2 = 0) (hN : CV N n ci) (hn : As.length = n) (hw : Cond.methodLink "BracketRoomLaw" idx N.1 ∈ Tbl) (hs : st0 = As.reverse ++ vA a :: st) (hc : (st.map catv).sum ≤ 8) (hd40 : d ≤ 2000) (hd : decode code pc = .ok (.invokevirtual idx, 3))
    (ho : obok ci a) (h : Tri d N (vA a :: As) σ (fun r σ' => LX l g p e s m b below meth c (pc + 3) ls (vI r :: st) σ')) : LX l g p e s m b below meth c pc ls st0 σ :=
  LX_callV cx hN hn hw hs hc hd40 hd ho (h.mono (fun r σ' q => by rw [hr]; exact q))
theorem LX_callVJ (cx : LC g p s m b meth c Lc xs) {d n ci idx : Nat} {a : Int} {As st0 : List AV} {N : MR} (hr : rtg N.2.2.2 = 1) (hN : CV N n ci) (hn : As.length = n) (hw : Cond.methodLink "BracketRoomLaw" idx N.1 ∈ Tbl) (hs : st0 = As.reverse ++ vA a :: st) (hc : (st.map catv).sum ≤ 8) (hd40 : d ≤ 2000) (hd : decode code pc = .ok (.invokevirtual idx, 3))
    (ho : obok ci a) (h : Tri d N (vA a :: As) σ (fun r σ' => LX l g p e s m b below meth c (pc + 3) ls (vJ r :: st) σ')) : LX l g p e s m b below meth c pc ls st0 σ :=
  LX_callV cx hN hn hw hs hc hd40 hd ho (h.mono (fun r σ' q => by rw [hr]; exact q))
/-- the end: true -/
theorem LX_end (cx : LC g p s m b meth c Lc xs) (hd : decode code pc = .ok (.ireturn, 1)) : LX l g p e s m b below meth c pc ls [vI 1] σ := by
  intro H locs A hR hl hL hst
  have hB := cx.2.2.2.1
  refine va_forget (fun q hq => by have := hl q hq; unfold Ag at this; omega) (W.widen (k := 600000) (n := 7302250) (by omega) (by omega) ?_)
  exact lw_ret cx.1.1 cx.1.2.1 cx.1.2.2.2.1 cx.1.2.2.2.2.1 hd
/-- script[i + n] -/
theorem w32_k {k n : Nat} (h : k + n < 2147483648) {x : Int} (hx : x = n) : w32 ((k : Int) + x) = ((k + n : Nat) : Int) := by
  subst hx
  rw [w32_id (by omega) (by omega)]
  omega
theorem LX_arg (cx : LC g p s m b meth c Lc xs) {k n : Nat} {y : Int} (hy : y = n) (hk : k + n < Lc) (d0 : decode code pc = .ok (.aload_n 0, 1)) (d1 : decode code (pc + 1) = .ok (.iload_n 3, 1)) (d2 : decode code (pc + 1 + 1) = .ok (.iconst y, 1)) (d3 : decode code (pc + 1 + 1 + 1) = .ok (.iadd, 1)) (d4 : decode code (pc + 1 + 1 + 1 + 1) = .ok (.iaload, 1)) (h : LX l g p e s m b below meth c (pc + 5) [vA (-33), vA 0, vA 161, vI k] (vI (xs (k + n)).toInt :: st) σ) : LX l g p e s m b below meth c pc [vA (-33), vA 0, vA 161, vI k] st σ := by
  have hL3 := cx.2.2.2.2.2
  exact LX_aload_n cx d0 rfl (by omega) (LX_iload_n cx d1 rfl (LX_iconst cx d2 (by unfold inI; omega) (LX_iadd cx (w32_k (by omega) hy) d3 (LX_sld cx rfl hk d4 h))))
end LXR
