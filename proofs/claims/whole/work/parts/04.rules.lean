/-! ===== a rule an instruction: no cell is made ===== -/
theorem cons_ok {v : AV} {st : List AV} (h : okv v) (h2 : ∀ w ∈ st, okv w) : ∀ w ∈ v :: st, okv w := by
  intro w hw
  rcases List.mem_cons.mp hw with rfl | h3
  · exact h
  · exact h2 w h3
theorem n09 : (0 : Nat) ≠ 9 := by decide
theorem n19 : (1 : Nat) ≠ 9 := by decide
theorem n29 : (2 : Nat) ≠ 9 := by decide
section LR
variable {d pc : Nat} {M : MR} {ls st : List AV} {σ : SG} {Q : Int → SG → Prop}
theorem L.rng (h : (∀ v ∈ ls, okv v) → (∀ v ∈ st, okv v) → Rng σ → L d M pc ls st σ Q) : L d M pc ls st σ Q := by
  intro l g p e s m args below meth c H locs A cx hR hl hL hst
  exact h hL.2 hst hR.1.2.2.1 l g p e s m args below meth c H locs A cx hR hl hL hst
/-- a value on top: what the rule of the kit wants, what ours gives -/
theorem L.push {v : AV} {pc2 : Nat} (h : L d M pc2 ls (v :: st) σ Q) (hv : okv v) {l : Launch} {g : GG} {p : Program} {e : Env} {s : State} {m : MethodId} {args : Array Value} {below : List Frame} {meth : Method} {c : Code} {H : Heap} {locs : List Loc} {A : Array Slot}
    (cx : CX g M p s m args meth c) (hR : RS g σ s H) (hl : ∀ q ∈ locs, Ag g q.base) (hL : Lo g M.2.2.1 ls A) (hst : ∀ v ∈ st, okv v) {w : Value} (hw : cv g v = w) :
    W p l e (rmd d) s m args below meth c H locs 0 0 (MQ below (Qc g (rtg M.2.2.2) Q) args s 0 0 (Ag g)) (F0 m pc2 A (w :: st.map (cv g))) := by
  subst hw
  exact h l g p e s m args below meth c H locs A cx hR hl hL (cons_ok hv hst)
theorem ok_tail {v : AV} {st : List AV} (h : ∀ w ∈ v :: st, okv w) : ∀ w ∈ st, okv w := fun w hw => h w (List.mem_cons_of_mem _ hw)
theorem ok_head {v : AV} {st : List AV} (h : ∀ w ∈ v :: st, okv w) : okv v := h v List.mem_cons_self
theorem L_iconst {n : Int} (hd : decode M.2.1 pc = .ok (.iconst n, 1)) (hn : inI n) (h : L d M (pc + 1) ls (vI n :: st) σ Q) : L d M pc ls st σ Q := by
  intro l g p e s m args below meth c H locs A cx hR hl hL hst
  exact lv_iconst cx.1 cx.2.1 hd rfl (h.push hn cx hR hl hL hst rfl)
theorem L_bipush {n : Int} (hd : decode M.2.1 pc = .ok (.bipush n, 2)) (hn : (Int8.ofInt n).toInt32 = Int32.ofInt n) (hn2 : inI n) (h : L d M (pc + 2) ls (vI n :: st) σ Q) : L d M pc ls st σ Q := by
  intro l g p e s m args below meth c H locs A cx hR hl hL hst
  exact lv_bipush cx.1 cx.2.1 hd hn (h.push hn2 cx hR hl hL hst rfl)
theorem L_sipush {n : Int} (hd : decode M.2.1 pc = .ok (.sipush n, 3)) (hn : (Int16.ofInt n).toInt32 = Int32.ofInt n) (hn2 : inI n) (h : L d M (pc + 3) ls (vI n :: st) σ Q) : L d M pc ls st σ Q := by
  intro l g p e s m args below meth c H locs A cx hR hl hL hst
  exact lv_sipush cx.1 cx.2.1 hd hn (h.push hn2 cx hR hl hL hst rfl)
theorem L_lconst {n : Fin 2} {x : Int} (hd : decode M.2.1 pc = .ok (.lconst n, 1)) (hn : Int64.ofNat (n : Nat) = Int64.ofInt x) (hn2 : inJ x) (h : L d M (pc + 1) ls (vJ x :: st) σ Q) : L d M pc ls st σ Q := by
  intro l g p e s m args below meth c H locs A cx hR hl hL hst
  exact lv_lconst cx.1 cx.2.1 hd hn (h.push hn2 cx hR hl hL hst rfl)
theorem L_ldc {index : Nat} {v : Int32} {x : Int} (hw : Cond.constant M.1.cls index v ∈ Tbl) (hv : v = Int32.ofInt x) (hx : inI x) (hd : decode M.2.1 pc = .ok (.ldc index, 2)) (h : L d M (pc + 2) ls (vI x :: st) σ Q) : L d M pc ls st σ Q := by
  intro l g p e s m args below meth c H locs A cx hR hl hL hst
  subst hv
  exact lv_ldc cx.1 cx.2.1 cx.2.2.2.2.2.1 (cx.2.2.2.2.2.2.1 _ hw) hd (h.push hx cx hR hl hL hst rfl)
theorem L_ldcw {index : Nat} {v : Int32} {x : Int} (hw : Cond.constant M.1.cls index v ∈ Tbl) (hv : v = Int32.ofInt x) (hx : inI x) (hd : decode M.2.1 pc = .ok (.ldc_w index, 3)) (h : L d M (pc + 3) ls (vI x :: st) σ Q) : L d M pc ls st σ Q := by
  intro l g p e s m args below meth c H locs A cx hR hl hL hst
  subst hv
  exact lv_ldcw cx.1 cx.2.1 cx.2.2.2.2.2.1 (cx.2.2.2.2.2.2.1 _ hw) hd (h.push hx cx hR hl hL hst rfl)
theorem L_ldc2 {index : Nat} {v : Int64} {x : Int} (hw : Cond.constantLong M.1.cls index v ∈ Tbl) (hv : v = Int64.ofInt x) (hx : inJ x) (hd : decode M.2.1 pc = .ok (.ldc2_w index, 3)) (h : L d M (pc + 3) ls (vJ x :: st) σ Q) : L d M pc ls st σ Q := by
  intro l g p e s m args below meth c H locs A cx hR hl hL hst
  subst hv
  exact lv_ldc2 cx.1 cx.2.1 cx.2.2.2.2.2.1 (cx.2.2.2.2.2.2.1 _ hw) hd (h.push hx cx hR hl hL hst rfl)
theorem L_ldcS {index k : Nat} {tx : String} (hw : (M.1.cls, index, tx, k) ∈ strW) (hd : decode M.2.1 pc = .ok (.ldc index, 2)) (h : L d M (pc + 2) ls (vA (-10 - (k : Int)) :: st) σ Q) : L d M pc ls st σ Q := by
  intro l g p e s m args below meth c H locs A cx hR hl hL hst
  refine va_ldcS cx.1 cx.2.1 cx.2.2.2.2.2.1 (cx.2.2.2.2.2.2.2.1.2.2.2.2.2.2.2 _ hw) hd (h.push (v := vA (-10 - (k : Int))) trivial cx hR hl hL hst ?_)
  show cr g (-10 - (k : Int)) = .ref (gK g k)
  unfold cr
  rw [if_neg (by omega), if_neg (by omega), if_neg (by omega)]
  congr 2
  omega
/-! loads -/
theorem L_iload {i : Nat} {x : Int} (hd : decode M.2.1 pc = .ok (.iload i, 2)) (hi : ls[i]? = some (vI x)) (h : L d M (pc + 2) ls (vI x :: st) σ Q) : L d M pc ls st σ Q := by
  intro l g p e s m args below meth c H locs A cx hR hl hL hst
  exact lv_iload cx.1 cx.2.1 hd (hL.get hi n09) (h.push (hL.ok hi) cx hR hl hL hst rfl)
theorem L_iload_n {k : Fin 4} {x : Int} (hd : decode M.2.1 pc = .ok (.iload_n k, 1)) (hi : ls[(k : Nat)]? = some (vI x)) (h : L d M (pc + 1) ls (vI x :: st) σ Q) : L d M pc ls st σ Q := by
  intro l g p e s m args below meth c H locs A cx hR hl hL hst
  exact lv_iload_n cx.1 cx.2.1 hd rfl (hL.get hi n09) (h.push (hL.ok hi) cx hR hl hL hst rfl)
theorem L_lload {i : Nat} {x : Int} (hd : decode M.2.1 pc = .ok (.lload i, 2)) (hi : ls[i]? = some (vJ x)) (h : L d M (pc + 2) ls (vJ x :: st) σ Q) : L d M pc ls st σ Q := by
  intro l g p e s m args below meth c H locs A cx hR hl hL hst
  exact lv_lload cx.1 cx.2.1 hd (hL.get hi n19) (h.push (hL.ok hi) cx hR hl hL hst rfl)
theorem L_lload_n {k : Fin 4} {x : Int} (hd : decode M.2.1 pc = .ok (.lload_n k, 1)) (hi : ls[(k : Nat)]? = some (vJ x)) (h : L d M (pc + 1) ls (vJ x :: st) σ Q) : L d M pc ls st σ Q := by
  intro l g p e s m args below meth c H locs A cx hR hl hL hst
  exact lv_lload_n cx.1 cx.2.1 hd rfl (hL.get hi n19) (h.push (hL.ok hi) cx hR hl hL hst rfl)
theorem cr_ref (g : GG) {x : Int} (hx : x ≠ -1) : ∃ q, cr g x = .ref q := by
  unfold cr
  by_cases h1 : 0 ≤ x
  · rw [if_pos h1]; exact ⟨_, rfl⟩
  · rw [if_neg h1, if_neg hx]
    by_cases h2 : x = -2
    · rw [if_pos h2]; exact ⟨_, rfl⟩
    · rw [if_neg h2]; exact ⟨_, rfl⟩
theorem L_aload {i : Nat} {x : Int} (hd : decode M.2.1 pc = .ok (.aload i, 2)) (hi : ls[i]? = some (vA x)) (h : L d M (pc + 2) ls (vA x :: st) σ Q) : L d M pc ls st σ Q := by
  intro l g p e s m args below meth c H locs A cx hR hl hL hst
  have h1 : A[i]? = some (.val (cr g x)) := hL.get hi n29
  by_cases hx : x = -1
  · have hq : cr g x = .null := by rw [hx]; rfl
    rw [hq] at h1
    exact lv_aloadN cx.1 cx.2.1 hd h1 (h.push (v := vA x) trivial cx hR hl hL hst hq)
  · obtain ⟨q, hq⟩ := cr_ref g hx
    rw [hq] at h1
    exact lv_aload cx.1 cx.2.1 hd h1 (h.push (v := vA x) trivial cx hR hl hL hst hq)
theorem L_aload_n {k : Fin 4} {x : Int} (hd : decode M.2.1 pc = .ok (.aload_n k, 1)) (hi : ls[(k : Nat)]? = some (vA x)) (h : L d M (pc + 1) ls (vA x :: st) σ Q) : L d M pc ls st σ Q := by
  intro l g p e s m args below meth c H locs A cx hR hl hL hst
  have h1 : A[(k : Nat)]? = some (.val (cr g x)) := hL.get hi n29
  by_cases hx : x = -1
  · have hq : cr g x = .null := by rw [hx]; rfl
    rw [hq] at h1
    exact lv_aload_nN cx.1 cx.2.1 hd rfl h1 (h.push (v := vA x) trivial cx hR hl hL hst hq)
  · obtain ⟨q, hq⟩ := cr_ref g hx
    rw [hq] at h1
    exact lv_aload_n cx.1 cx.2.1 hd rfl h1 (h.push (v := vA x) trivial cx hR hl hL hst hq)
/-! stores -/
theorem L_istore {i : Nat} {x : Int} (hd : decode M.2.1 pc = .ok (.istore i, 2)) (hi : i < M.2.2.1) (h : L d M (pc + 2) (lst i (vI x) ls) st σ Q) : L d M pc ls (vI x :: st) σ Q := by
  intro l g p e s m args below meth c H locs A cx hR hl hL hst
  refine lv_istore cx.1 cx.2.1 hd hL.1 hi rfl (fun A' hA' => ?_)
  exact h l g p e s m args below meth c H locs A' cx hR hl (Lo.set rfl hL.2 (ok_head hst) hA') (ok_tail hst)
theorem L_istore_n {k : Fin 4} {x : Int} (hd : decode M.2.1 pc = .ok (.istore_n k, 1)) (hi : (k : Nat) < M.2.2.1) (h : L d M (pc + 1) (lst k (vI x) ls) st σ Q) : L d M pc ls (vI x :: st) σ Q := by
  intro l g p e s m args below meth c H locs A cx hR hl hL hst
  refine lv_istore_n cx.1 cx.2.1 hd rfl hL.1 hi rfl (fun A' hA' => ?_)
  exact h l g p e s m args below meth c H locs A' cx hR hl (Lo.set rfl hL.2 (ok_head hst) hA') (ok_tail hst)
theorem L_lstore {i : Nat} {x : Int} (hd : decode M.2.1 pc = .ok (.lstore i, 2)) (hi : i + 1 < M.2.2.1) (h : L d M (pc + 2) (lstJ i (vJ x) ls) st σ Q) : L d M pc ls (vJ x :: st) σ Q := by
  intro l g p e s m args below meth c H locs A cx hR hl hL hst
  refine lv_lstore cx.1 cx.2.1 hd hL.1 hi rfl (fun A' hA' => ?_)
  exact h l g p e s m args below meth c H locs A' cx hR hl (Lo.setJ rfl hL.2 (ok_head hst) hA') (ok_tail hst)
theorem L_lstore_n {k : Fin 4} {x : Int} (hd : decode M.2.1 pc = .ok (.lstore_n k, 1)) (hi : (k : Nat) + 1 < M.2.2.1) (h : L d M (pc + 1) (lstJ k (vJ x) ls) st σ Q) : L d M pc ls (vJ x :: st) σ Q := by
  intro l g p e s m args below meth c H locs A cx hR hl hL hst
  refine lv_lstore_n cx.1 cx.2.1 hd rfl hL.1 hi rfl (fun A' hA' => ?_)
  exact h l g p e s m args below meth c H locs A' cx hR hl (Lo.setJ rfl hL.2 (ok_head hst) hA') (ok_tail hst)
theorem L_astore {i : Nat} {x : Int} (hd : decode M.2.1 pc = .ok (.astore i, 2)) (hi : i < M.2.2.1) (hx : x ≠ -1) (h : L d M (pc + 2) (lst i (vA x) ls) st σ Q) : L d M pc ls (vA x :: st) σ Q := by
  intro l g p e s m args below meth c H locs A cx hR hl hL hst
  obtain ⟨q, hq⟩ := cr_ref g hx
  have e0 : (List.map (cv g) (vA x :: st)) = .ref q :: st.map (cv g) := by rw [← hq]; rfl
  rw [e0]
  refine lv_astore cx.1 cx.2.1 hd hL.1 hi rfl (fun A' hA' => ?_)
  rw [← hq] at hA'
  exact h l g p e s m args below meth c H locs A' cx hR hl (Lo.set (v := vA x) rfl hL.2 trivial hA') (ok_tail hst)
theorem L_astore_n {k : Fin 4} {x : Int} (hd : decode M.2.1 pc = .ok (.astore_n k, 1)) (hi : (k : Nat) < M.2.2.1) (hx : x ≠ -1) (h : L d M (pc + 1) (lst k (vA x) ls) st σ Q) : L d M pc ls (vA x :: st) σ Q := by
  intro l g p e s m args below meth c H locs A cx hR hl hL hst
  obtain ⟨q, hq⟩ := cr_ref g hx
  have e0 : (List.map (cv g) (vA x :: st)) = .ref q :: st.map (cv g) := by rw [← hq]; rfl
  rw [e0]
  refine lv_astore_n cx.1 cx.2.1 hd rfl hL.1 hi rfl (fun A' hA' => ?_)
  rw [← hq] at hA'
  exact h l g p e s m args below meth c H locs A' cx hR hl (Lo.set (v := vA x) rfl hL.2 trivial hA') (ok_tail hst)
theorem L_iinc {i : Nat} {n x : Int} (hd : decode M.2.1 pc = .ok (.iinc i n, 3)) (hg : ls[i]? = some (vI x)) (hi : i < M.2.2.1) (h : L d M (pc + 3) (lst i (vI (w32 (x + n))) ls) st σ Q) : L d M pc ls st σ Q := by
  intro l g p e s m args below meth c H locs A cx hR hl hL hst
  obtain ⟨k, hk⟩ := List.getElem?_of_mem (kn_mem (g := g) (i := 0) (ls := ls) (q := (i, .int (Int32.ofInt x))).mpr ⟨i, vI x, hg, n09, by simp [cv]⟩)
  refine lv_iinc (v := Int32.ofInt (w32 (x + n))) cx.1 cx.2.1 hd hL.1 hk (by rw [of_w32, Int32.ofInt_add]) hi rfl (fun A' hA' => ?_)
  exact h l g p e s m args below meth c H locs A' cx hR hl (Lo.set (v := vI (w32 (x + n))) rfl hL.2 (w32_in _) hA') hst
/-! arithmetic -/
theorem L_iadd {x y : Int} (hd : decode M.2.1 pc = .ok (.iadd, 1)) (h : L d M (pc + 1) ls (vI (w32 (x + y)) :: st) σ Q) : L d M pc ls (vI y :: vI x :: st) σ Q := by
  intro l g p e s m args below meth c H locs A cx hR hl hL hst
  exact lv_iadd cx.1 cx.2.1 hd (h.push (w32_in _) cx hR hl hL (ok_tail (ok_tail hst)) (by show Value.int _ = _; rw [of_w32, Int32.ofInt_add]))
theorem L_isub {x y : Int} (hd : decode M.2.1 pc = .ok (.isub, 1)) (h : L d M (pc + 1) ls (vI (w32 (x - y)) :: st) σ Q) : L d M pc ls (vI y :: vI x :: st) σ Q := by
  intro l g p e s m args below meth c H locs A cx hR hl hL hst
  exact lv_isub cx.1 cx.2.1 hd (h.push (w32_in _) cx hR hl hL (ok_tail (ok_tail hst)) (by show Value.int _ = _; rw [of_w32, Int32.ofInt_sub]))
theorem L_imul {x y : Int} (hd : decode M.2.1 pc = .ok (.imul, 1)) (h : L d M (pc + 1) ls (vI (w32 (x * y)) :: st) σ Q) : L d M pc ls (vI y :: vI x :: st) σ Q := by
  intro l g p e s m args below meth c H locs A cx hR hl hL hst
  exact lv_imul cx.1 cx.2.1 hd (h.push (w32_in _) cx hR hl hL (ok_tail (ok_tail hst)) (by show Value.int _ = _; rw [of_w32, Int32.ofInt_mul]))
theorem L_ineg {x : Int} (hd : decode M.2.1 pc = .ok (.ineg, 1)) (h : L d M (pc + 1) ls (vI (w32 (-x)) :: st) σ Q) : L d M pc ls (vI x :: st) σ Q := by
  intro l g p e s m args below meth c H locs A cx hR hl hL hst
  exact lv_ineg cx.1 cx.2.1 hd (h.push (w32_in _) cx hR hl hL (ok_tail hst) (by show Value.int _ = _; rw [of_w32, Int32.ofInt_neg]))
def and32 (x y : Int) : Int := (Int32.ofInt x &&& Int32.ofInt y).toInt
def or32 (x y : Int) : Int := (Int32.ofInt x ||| Int32.ofInt y).toInt
def xor32 (x y : Int) : Int := (Int32.ofInt x ^^^ Int32.ofInt y).toInt
def shl32 (x y : Int) : Int := (Int32.ofInt x <<< (Int32.ofInt y &&& 31)).toInt
def shr32 (x y : Int) : Int := (Int32.ofInt x >>> (Int32.ofInt y &&& 31)).toInt
def ushr32 (x y : Int) : Int := ((Int32.ofInt x).toUInt32 >>> ((Int32.ofInt y).toUInt32 &&& Int32.toUInt32 31)).toInt32.toInt
def and64 (x y : Int) : Int := (Int64.ofInt x &&& Int64.ofInt y).toInt
def or64 (x y : Int) : Int := (Int64.ofInt x ||| Int64.ofInt y).toInt
def shl64 (x y : Int) : Int := (Int64.ofInt x <<< ((Int32.ofInt y).toInt64 &&& 63)).toInt
def i2b (x : Int) : Int := (Int32.ofInt x).toInt8.toInt32.toInt
def i2s (x : Int) : Int := (Int32.ofInt x).toInt16.toInt32.toInt
theorem int_in (x : Int32) : inI x.toInt := ⟨Int32.le_toInt _, Int32.toInt_lt _⟩
theorem long_in (x : Int64) : inJ x.toInt := ⟨Int64.le_toInt _, Int64.toInt_lt _⟩
theorem L_iand {x y : Int} (hd : decode M.2.1 pc = .ok (.iand, 1)) (h : L d M (pc + 1) ls (vI (and32 x y) :: st) σ Q) : L d M pc ls (vI y :: vI x :: st) σ Q := by
  intro l g p e s m args below meth c H locs A cx hR hl hL hst
  exact lv_iand cx.1 cx.2.1 hd (h.push (int_in _) cx hR hl hL (ok_tail (ok_tail hst)) (by show Value.int _ = _; rw [and32, Int32.ofInt_toInt]))
theorem L_ior {x y : Int} (hd : decode M.2.1 pc = .ok (.ior, 1)) (h : L d M (pc + 1) ls (vI (or32 x y) :: st) σ Q) : L d M pc ls (vI y :: vI x :: st) σ Q := by
  intro l g p e s m args below meth c H locs A cx hR hl hL hst
  exact lv_ior cx.1 cx.2.1 hd (h.push (int_in _) cx hR hl hL (ok_tail (ok_tail hst)) (by show Value.int _ = _; rw [or32, Int32.ofInt_toInt]))
theorem L_ixor {x y : Int} (hd : decode M.2.1 pc = .ok (.ixor, 1)) (h : L d M (pc + 1) ls (vI (xor32 x y) :: st) σ Q) : L d M pc ls (vI y :: vI x :: st) σ Q := by
  intro l g p e s m args below meth c H locs A cx hR hl hL hst
  exact lv_ixor cx.1 cx.2.1 hd (h.push (int_in _) cx hR hl hL (ok_tail (ok_tail hst)) (by show Value.int _ = _; rw [xor32, Int32.ofInt_toInt]))
theorem L_ishl {x y : Int} (hd : decode M.2.1 pc = .ok (.ishl, 1)) (h : L d M (pc + 1) ls (vI (shl32 x y) :: st) σ Q) : L d M pc ls (vI y :: vI x :: st) σ Q := by
  intro l g p e s m args below meth c H locs A cx hR hl hL hst
  exact lv_ishl cx.1 cx.2.1 hd (h.push (int_in _) cx hR hl hL (ok_tail (ok_tail hst)) (by show Value.int _ = _; rw [shl32, Int32.ofInt_toInt]))
theorem L_ishr {x y : Int} (hd : decode M.2.1 pc = .ok (.ishr, 1)) (h : L d M (pc + 1) ls (vI (shr32 x y) :: st) σ Q) : L d M pc ls (vI y :: vI x :: st) σ Q := by
  intro l g p e s m args below meth c H locs A cx hR hl hL hst
  exact lv_ishr cx.1 cx.2.1 hd (h.push (int_in _) cx hR hl hL (ok_tail (ok_tail hst)) (by show Value.int _ = _; rw [shr32, Int32.ofInt_toInt]))
theorem L_iushr {x y : Int} (hd : decode M.2.1 pc = .ok (.iushr, 1)) (h : L d M (pc + 1) ls (vI (ushr32 x y) :: st) σ Q) : L d M pc ls (vI y :: vI x :: st) σ Q := by
  intro l g p e s m args below meth c H locs A cx hR hl hL hst
  exact lv_iushr cx.1 cx.2.1 hd rfl (h.push (int_in _) cx hR hl hL (ok_tail (ok_tail hst)) (by show Value.int _ = _; rw [ushr32, Int32.ofInt_toInt]))
theorem ne32 {y : Int} (hy : inI y) (h : y ≠ 0) : ¬ Int32.ofInt y = 0 := by
  rw [zero32, eq32 hy in0]; exact h
theorem div32 {x y : Int} (hx : inI x) (hy : inI y) : Int32.ofInt x / Int32.ofInt y = Int32.ofInt (w32 (x.tdiv y)) := by
  rw [of_w32, ← Int32.toInt_inj, Int32.toInt_div, to32 hx, to32 hy, Int32.toInt_ofInt]
theorem L_idiv {x y : Int} (hd : decode M.2.1 pc = .ok (.idiv, 1)) (h : y ≠ 0 ∧ L d M (pc + 1) ls (vI (w32 (x.tdiv y)) :: st) σ Q) : L d M pc ls (vI y :: vI x :: st) σ Q := by
  intro l g p e s m args below meth c H locs A cx hR hl hL hst
  exact lv_idiv cx.1 cx.2.1 hd (ne32 (ok_head hst) h.1) (h.2.push (w32_in _) cx hR hl hL (ok_tail (ok_tail hst)) (by show Value.int _ = _; rw [div32 (ok_head (ok_tail hst)) (ok_head hst)]))
theorem rem32 {x y : Int} (hx : inI x) (hy : inI y) : Int32.ofInt x - Int32.ofInt x / Int32.ofInt y * Int32.ofInt y = Int32.ofInt (x.tmod y) := by
  rw [div32 hx hy, of_w32, ← Int32.ofInt_mul, ← Int32.ofInt_sub, Int.tmod_def, Int.mul_comm]
theorem tmod_in {x y : Int} (hx : inI x) : inI (x.tmod y) := by
  unfold inI at *
  have h1 : (x.tmod y).natAbs ≤ x.natAbs := by rw [Int.natAbs_tmod]; exact Nat.mod_le _ _
  rcases Int.le_total 0 x with h | h
  · have := Int.tmod_nonneg y h
    omega
  · have h2 : 0 ≤ -x := by omega
    have h3 := Int.tmod_nonneg y h2
    rw [Int.neg_tmod] at h3
    omega
theorem L_irem {x y : Int} (hd : decode M.2.1 pc = .ok (.irem, 1)) (h : y ≠ 0 ∧ L d M (pc + 1) ls (vI (x.tmod y) :: st) σ Q) : L d M pc ls (vI y :: vI x :: st) σ Q := by
  intro l g p e s m args below meth c H locs A cx hR hl hL hst
  exact lv_irem cx.1 cx.2.1 hd (ne32 (ok_head hst) h.1) (h.2.push (tmod_in (ok_head (ok_tail hst))) cx hR hl hL (ok_tail (ok_tail hst)) (by show Value.int _ = _; rw [rem32 (ok_head (ok_tail hst)) (ok_head hst)]))
theorem L_ladd {x y : Int} (hd : decode M.2.1 pc = .ok (.ladd, 1)) (h : L d M (pc + 1) ls (vJ (w64 (x + y)) :: st) σ Q) : L d M pc ls (vJ y :: vJ x :: st) σ Q := by
  intro l g p e s m args below meth c H locs A cx hR hl hL hst
  exact lv_ladd cx.1 cx.2.1 hd (h.push (w64_in _) cx hR hl hL (ok_tail (ok_tail hst)) (by show Value.long _ = _; rw [of_w64, Int64.ofInt_add]))
theorem L_lsub {x y : Int} (hd : decode M.2.1 pc = .ok (.lsub, 1)) (h : L d M (pc + 1) ls (vJ (w64 (x - y)) :: st) σ Q) : L d M pc ls (vJ y :: vJ x :: st) σ Q := by
  intro l g p e s m args below meth c H locs A cx hR hl hL hst
  exact lv_lsub cx.1 cx.2.1 hd (h.push (w64_in _) cx hR hl hL (ok_tail (ok_tail hst)) (by show Value.long _ = _; rw [of_w64, Int64.ofInt_sub]))
theorem L_lmul {x y : Int} (hd : decode M.2.1 pc = .ok (.lmul, 1)) (h : L d M (pc + 1) ls (vJ (w64 (x * y)) :: st) σ Q) : L d M pc ls (vJ y :: vJ x :: st) σ Q := by
  intro l g p e s m args below meth c H locs A cx hR hl hL hst
  exact lv_lmul cx.1 cx.2.1 hd (h.push (w64_in _) cx hR hl hL (ok_tail (ok_tail hst)) (by show Value.long _ = _; rw [of_w64, Int64.ofInt_mul]))
theorem L_land {x y : Int} (hd : decode M.2.1 pc = .ok (.land, 1)) (h : L d M (pc + 1) ls (vJ (and64 x y) :: st) σ Q) : L d M pc ls (vJ y :: vJ x :: st) σ Q := by
  intro l g p e s m args below meth c H locs A cx hR hl hL hst
  exact lv_land cx.1 cx.2.1 hd (h.push (long_in _) cx hR hl hL (ok_tail (ok_tail hst)) (by show Value.long _ = _; rw [and64, Int64.ofInt_toInt]))
theorem L_lor {x y : Int} (hd : decode M.2.1 pc = .ok (.lor, 1)) (h : L d M (pc + 1) ls (vJ (or64 x y) :: st) σ Q) : L d M pc ls (vJ y :: vJ x :: st) σ Q := by
  intro l g p e s m args below meth c H locs A cx hR hl hL hst
  exact lv_lor cx.1 cx.2.1 hd (h.push (long_in _) cx hR hl hL (ok_tail (ok_tail hst)) (by show Value.long _ = _; rw [or64, Int64.ofInt_toInt]))
theorem L_lshl {x y : Int} (hd : decode M.2.1 pc = .ok (.lshl, 1)) (h : L d M (pc + 1) ls (vJ (shl64 x y) :: st) σ Q) : L d M pc ls (vI y :: vJ x :: st) σ Q := by
  intro l g p e s m args below meth c H locs A cx hR hl hL hst
  exact lv_lshl cx.1 cx.2.1 hd rfl (h.push (long_in _) cx hR hl hL (ok_tail (ok_tail hst)) (by show Value.long _ = _; rw [shl64, Int64.ofInt_toInt]))
theorem eq64 {x y : Int} (hx : inJ x) (hy : inJ y) : Int64.ofInt x = Int64.ofInt y ↔ x = y := by
  rw [← Int64.toInt_inj, to64 hx, to64 hy]
theorem lt64 {x y : Int} (hx : inJ x) (hy : inJ y) : Int64.ofInt x < Int64.ofInt y ↔ x < y := by
  rw [Int64.lt_iff_toInt_lt, to64 hx, to64 hy]
theorem inJ0 : inJ 0 := ⟨by decide, by decide⟩
theorem ne64 {y : Int} (hy : inJ y) (h : y ≠ 0) : ¬ Int64.ofInt y = 0 := by
  rw [show (0 : Int64) = Int64.ofInt 0 by decide, eq64 hy inJ0]; exact h
theorem div64 {x y : Int} (hx : inJ x) (hy : inJ y) : Int64.ofInt x / Int64.ofInt y = Int64.ofInt (w64 (x.tdiv y)) := by
  rw [of_w64, ← Int64.toInt_inj, Int64.toInt_div, to64 hx, to64 hy, Int64.toInt_ofInt]
theorem L_ldiv {x y : Int} (hd : decode M.2.1 pc = .ok (.ldiv, 1)) (h : y ≠ 0 ∧ L d M (pc + 1) ls (vJ (w64 (x.tdiv y)) :: st) σ Q) : L d M pc ls (vJ y :: vJ x :: st) σ Q := by
  intro l g p e s m args below meth c H locs A cx hR hl hL hst
  exact lv_ldiv cx.1 cx.2.1 hd (ne64 (ok_head hst) h.1) (h.2.push (w64_in _) cx hR hl hL (ok_tail (ok_tail hst)) (by show Value.long _ = _; rw [div64 (ok_head (ok_tail hst)) (ok_head hst)]))
theorem rem64 {x y : Int} (hx : inJ x) (hy : inJ y) : Int64.ofInt x - Int64.ofInt x / Int64.ofInt y * Int64.ofInt y = Int64.ofInt (x.tmod y) := by
  rw [div64 hx hy, of_w64, ← Int64.ofInt_mul, ← Int64.ofInt_sub, Int.tmod_def, Int.mul_comm]
theorem tmod_inJ {x y : Int} (hx : inJ x) : inJ (x.tmod y) := by
  unfold inJ at *
  have h1 : (x.tmod y).natAbs ≤ x.natAbs := by rw [Int.natAbs_tmod]; exact Nat.mod_le _ _
  rcases Int.le_total 0 x with h | h
  · have := Int.tmod_nonneg y h
    omega
  · have h2 : 0 ≤ -x := by omega
    have h3 := Int.tmod_nonneg y h2
    rw [Int.neg_tmod] at h3
    omega
theorem L_lrem {x y : Int} (hd : decode M.2.1 pc = .ok (.lrem, 1)) (h : y ≠ 0 ∧ L d M (pc + 1) ls (vJ (x.tmod y) :: st) σ Q) : L d M pc ls (vJ y :: vJ x :: st) σ Q := by
  intro l g p e s m args below meth c H locs A cx hR hl hL hst
  exact lv_lrem cx.1 cx.2.1 hd (ne64 (ok_head hst) h.1) (h.2.push (tmod_inJ (ok_head (ok_tail hst))) cx hR hl hL (ok_tail (ok_tail hst)) (by show Value.long _ = _; rw [rem64 (ok_head (ok_tail hst)) (ok_head hst)]))
def cmp3 (x y : Int) : Int := if y < x then 1 else if x = y then 0 else -1
theorem cmp3_in (x y : Int) : inI (cmp3 x y) := by unfold cmp3 inI; split <;> (try split) <;> decide
theorem L_lcmp {x y : Int} (hd : decode M.2.1 pc = .ok (.lcmp, 1)) (h : L d M (pc + 1) ls (vI (cmp3 x y) :: st) σ Q) : L d M pc ls (vJ y :: vJ x :: st) σ Q := by
  intro l g p e s m args below meth c H locs A cx hR hl hL hst
  refine W.lcmp cx.1 cx.2.1 hd (h.push (cmp3_in _ _) cx hR hl hL (ok_tail (ok_tail hst)) ?_)
  show Value.int _ = Value.int _
  congr 1
  have hx : inJ x := ok_head (ok_tail hst)
  have hy : inJ y := ok_head hst
  unfold cmp3 lg_cmp
  by_cases h1 : y < x
  · rw [if_pos h1, if_pos ((lt64 hy hx).mpr h1)]; decide
  · rw [if_neg h1, if_neg (fun z => h1 ((lt64 hy hx).mp z))]
    by_cases h2 : x = y
    · rw [if_pos h2, if_pos ((eq64 hx hy).mpr h2)]; decide
    · rw [if_neg h2, if_neg (fun z => h2 ((eq64 hx hy).mp z))]; decide
theorem L_i2l {x : Int} (hd : decode M.2.1 pc = .ok (.i2l, 1)) (h : L d M (pc + 1) ls (vJ x :: st) σ Q) : L d M pc ls (vI x :: st) σ Q := by
  intro l g p e s m args below meth c H locs A cx hR hl hL hst
  have hx : inI x := ok_head hst
  have hj : inJ x := by unfold inI at hx; unfold inJ; omega
  refine lv_i2l (v := Int64.ofInt x) cx.1 cx.2.1 hd ?_ (h.push hj cx hR hl hL (ok_tail hst) rfl)
  rw [← Int64.toInt_inj, Int32.toInt_toInt64, to32 hx, to64 hj]
theorem L_l2i {x : Int} (hd : decode M.2.1 pc = .ok (.l2i, 1)) (h : L d M (pc + 1) ls (vI (w32 x) :: st) σ Q) : L d M pc ls (vJ x :: st) σ Q := by
  intro l g p e s m args below meth c H locs A cx hR hl hL hst
  refine lv_l2i (v := Int32.ofInt (w32 x)) cx.1 cx.2.1 hd ?_ (h.push (w32_in _) cx hR hl hL (ok_tail hst) rfl)
  rw [of_w32, ← Int32.toInt_inj, Int64.toInt_toInt32, to64 (ok_head hst), Int32.toInt_ofInt]
theorem L_i2b {x : Int} (hd : decode M.2.1 pc = .ok (.i2b, 1)) (h : L d M (pc + 1) ls (vI (i2b x) :: st) σ Q) : L d M pc ls (vI x :: st) σ Q := by
  intro l g p e s m args below meth c H locs A cx hR hl hL hst
  exact lv_i2b cx.1 cx.2.1 hd rfl (h.push (int_in _) cx hR hl hL (ok_tail hst) (by show Value.int _ = _; rw [i2b, Int32.ofInt_toInt]))
theorem L_i2s {x : Int} (hd : decode M.2.1 pc = .ok (.i2s, 1)) (h : L d M (pc + 1) ls (vI (i2s x) :: st) σ Q) : L d M pc ls (vI x :: st) σ Q := by
  intro l g p e s m args below meth c H locs A cx hR hl hL hst
  exact lv_i2s cx.1 cx.2.1 hd rfl (h.push (int_in _) cx hR hl hL (ok_tail hst) (by show Value.int _ = _; rw [i2s, Int32.ofInt_toInt]))
/-! the operand stack -/
theorem cat1 {g : GG} {v : AV} (h : v.1 ≠ 1) : (cv g v).category = 1 := by
  have h2 := mt (cv_cat (g := g) (v := v)).mp h
  unfold Value.category at h2 ⊢
  split
  · rename_i e; simp [e] at h2
  · rename_i e; simp [e] at h2
  · rfl
theorem L_dup {v : AV} (hd : decode M.2.1 pc = .ok (.dup, 1)) (hv : v.1 ≠ 1) (h : L d M (pc + 1) ls (v :: v :: st) σ Q) : L d M pc ls (v :: st) σ Q := by
  intro l g p e s m args below meth c H locs A cx hR hl hL hst
  exact lv_dup cx.1 cx.2.1 hd (cat1 hv) (h l g p e s m args below meth c H locs A cx hR hl hL (cons_ok (ok_head hst) hst))
theorem L_pop {v : AV} (hd : decode M.2.1 pc = .ok (.pop, 1)) (hv : v.1 ≠ 1) (h : L d M (pc + 1) ls st σ Q) : L d M pc ls (v :: st) σ Q := by
  intro l g p e s m args below meth c H locs A cx hR hl hL hst
  exact lv_pop cx.1 cx.2.1 hd (cat1 hv) (h l g p e s m args below meth c H locs A cx hR hl hL (ok_tail hst))
theorem L_dup_x1 {v w : AV} (hd : decode M.2.1 pc = .ok (.dup_x1, 1)) (hv : v.1 ≠ 1) (hw : w.1 ≠ 1) (h : L d M (pc + 1) ls (v :: w :: v :: st) σ Q) : L d M pc ls (v :: w :: st) σ Q := by
  intro l g p e s m args below meth c H locs A cx hR hl hL hst
  exact lv_dup_x1 cx.1 cx.2.1 hd (cat1 hv) (cat1 hw) (h l g p e s m args below meth c H locs A cx hR hl hL (cons_ok (ok_head hst) (cons_ok (ok_head (ok_tail hst)) (cons_ok (ok_head hst) (ok_tail (ok_tail hst))))))
theorem L_dup2 {v w : AV} (hd : decode M.2.1 pc = .ok (.dup2, 1)) (hv : v.1 ≠ 1) (hw : w.1 ≠ 1) (h : L d M (pc + 1) ls (v :: w :: v :: w :: st) σ Q) : L d M pc ls (v :: w :: st) σ Q := by
  intro l g p e s m args below meth c H locs A cx hR hl hL hst
  exact lv_dup2_11 cx.1 cx.2.1 hd (cat1 hv) (cat1 hw) (h l g p e s m args below meth c H locs A cx hR hl hL (cons_ok (ok_head hst) (cons_ok (ok_head (ok_tail hst)) hst)))
/-! branches -/
theorem L_goto {off : Int} {tgt : Nat} (hd : decode M.2.1 pc = .ok (.goto off, 3)) (ht : (pc : Int) + off = (tgt : Int)) (h : L d M tgt ls st σ Q) : L d M pc ls st σ Q := by
  intro l g p e s m args below meth c H locs A cx hR hl hL hst
  exact lv_goto cx.1 cx.2.1 hd ht (h l g p e s m args below meth c H locs A cx hR hl hL hst)
theorem L_icmp_eq {off : Int} {tgt : Nat} {x y : Int} (hd : decode M.2.1 pc = .ok (.if_icmp .eq off, 3)) (ht : (pc : Int) + off = (tgt : Int)) (h : (x = y → L d M tgt ls st σ Q) ∧ (x ≠ y → L d M (pc + 3) ls st σ Q)) : L d M pc ls (vI y :: vI x :: st) σ Q := by
  intro l g p e s m args below meth c H locs A cx hR hl hL hst
  have hx : inI x := ok_head (ok_tail hst)
  have hy : inI y := ok_head hst
  exact lv_icmp_eq cx.1 cx.2.1 hd ht (fun z => h.1 ((eq32 hx hy).mp z) l g p e s m args below meth c H locs A cx hR hl hL (ok_tail (ok_tail hst))) (fun z => h.2 (fun w => z ((eq32 hx hy).mpr w)) l g p e s m args below meth c H locs A cx hR hl hL (ok_tail (ok_tail hst)))
theorem L_icmp_ne {off : Int} {tgt : Nat} {x y : Int} (hd : decode M.2.1 pc = .ok (.if_icmp .ne off, 3)) (ht : (pc : Int) + off = (tgt : Int)) (h : (x ≠ y → L d M tgt ls st σ Q) ∧ (x = y → L d M (pc + 3) ls st σ Q)) : L d M pc ls (vI y :: vI x :: st) σ Q := by
  intro l g p e s m args below meth c H locs A cx hR hl hL hst
  have hx : inI x := ok_head (ok_tail hst)
  have hy : inI y := ok_head hst
  exact lv_icmp_ne cx.1 cx.2.1 hd ht (fun z => h.1 (fun w => z ((eq32 hx hy).mpr w)) l g p e s m args below meth c H locs A cx hR hl hL (ok_tail (ok_tail hst))) (fun z => h.2 ((eq32 hx hy).mp (z)) l g p e s m args below meth c H locs A cx hR hl hL (ok_tail (ok_tail hst)))
theorem L_icmp_lt {off : Int} {tgt : Nat} {x y : Int} (hd : decode M.2.1 pc = .ok (.if_icmp .lt off, 3)) (ht : (pc : Int) + off = (tgt : Int)) (h : (x < y → L d M tgt ls st σ Q) ∧ (y ≤ x → L d M (pc + 3) ls st σ Q)) : L d M pc ls (vI y :: vI x :: st) σ Q := by
  intro l g p e s m args below meth c H locs A cx hR hl hL hst
  have hx : inI x := ok_head (ok_tail hst)
  have hy : inI y := ok_head hst
  exact lv_icmp_lt cx.1 cx.2.1 hd ht (fun z => h.1 ((lt32 hx hy).mp z) l g p e s m args below meth c H locs A cx hR hl hL (ok_tail (ok_tail hst))) (fun z => h.2 (Int.not_lt.mp (fun w => z ((lt32 hx hy).mpr w))) l g p e s m args below meth c H locs A cx hR hl hL (ok_tail (ok_tail hst)))
theorem L_icmp_ge {off : Int} {tgt : Nat} {x y : Int} (hd : decode M.2.1 pc = .ok (.if_icmp .ge off, 3)) (ht : (pc : Int) + off = (tgt : Int)) (h : (y ≤ x → L d M tgt ls st σ Q) ∧ (x < y → L d M (pc + 3) ls st σ Q)) : L d M pc ls (vI y :: vI x :: st) σ Q := by
  intro l g p e s m args below meth c H locs A cx hR hl hL hst
  have hx : inI x := ok_head (ok_tail hst)
  have hy : inI y := ok_head hst
  exact lv_icmp_ge cx.1 cx.2.1 hd ht (fun z => h.1 ((le32 hy hx).mp z) l g p e s m args below meth c H locs A cx hR hl hL (ok_tail (ok_tail hst))) (fun z => h.2 (Int.not_le.mp (fun w => z ((le32 hy hx).mpr w))) l g p e s m args below meth c H locs A cx hR hl hL (ok_tail (ok_tail hst)))
theorem L_icmp_gt {off : Int} {tgt : Nat} {x y : Int} (hd : decode M.2.1 pc = .ok (.if_icmp .gt off, 3)) (ht : (pc : Int) + off = (tgt : Int)) (h : (y < x → L d M tgt ls st σ Q) ∧ (x ≤ y → L d M (pc + 3) ls st σ Q)) : L d M pc ls (vI y :: vI x :: st) σ Q := by
  intro l g p e s m args below meth c H locs A cx hR hl hL hst
  have hx : inI x := ok_head (ok_tail hst)
  have hy : inI y := ok_head hst
  exact lv_icmp_gt cx.1 cx.2.1 hd ht (fun z => h.1 ((lt32 hy hx).mp z) l g p e s m args below meth c H locs A cx hR hl hL (ok_tail (ok_tail hst))) (fun z => h.2 (Int.not_lt.mp (fun w => z ((lt32 hy hx).mpr w))) l g p e s m args below meth c H locs A cx hR hl hL (ok_tail (ok_tail hst)))
theorem L_icmp_le {off : Int} {tgt : Nat} {x y : Int} (hd : decode M.2.1 pc = .ok (.if_icmp .le off, 3)) (ht : (pc : Int) + off = (tgt : Int)) (h : (x ≤ y → L d M tgt ls st σ Q) ∧ (y < x → L d M (pc + 3) ls st σ Q)) : L d M pc ls (vI y :: vI x :: st) σ Q := by
  intro l g p e s m args below meth c H locs A cx hR hl hL hst
  have hx : inI x := ok_head (ok_tail hst)
  have hy : inI y := ok_head hst
  exact lv_icmp_le cx.1 cx.2.1 hd ht (fun z => h.1 ((le32 hx hy).mp z) l g p e s m args below meth c H locs A cx hR hl hL (ok_tail (ok_tail hst))) (fun z => h.2 (Int.not_le.mp (fun w => z ((le32 hx hy).mpr w))) l g p e s m args below meth c H locs A cx hR hl hL (ok_tail (ok_tail hst)))
theorem L_if_eq {off : Int} {tgt : Nat} {x : Int} (hd : decode M.2.1 pc = .ok (.ifCond .eq off, 3)) (ht : (pc : Int) + off = (tgt : Int)) (h : (x = 0 → L d M tgt ls st σ Q) ∧ (x ≠ 0 → L d M (pc + 3) ls st σ Q)) : L d M pc ls (vI x :: st) σ Q := by
  intro l g p e s m args below meth c H locs A cx hR hl hL hst
  have hx : inI x := ok_head hst
  exact lv_if_eq cx.1 cx.2.1 hd ht (fun z => h.1 ((eq32 hx in0).mp (by rw [← zero32]; exact z)) l g p e s m args below meth c H locs A cx hR hl hL (ok_tail hst)) (fun z => h.2 (fun w => z (by rw [zero32]; exact (eq32 hx in0).mpr w)) l g p e s m args below meth c H locs A cx hR hl hL (ok_tail hst))
theorem L_if_ne {off : Int} {tgt : Nat} {x : Int} (hd : decode M.2.1 pc = .ok (.ifCond .ne off, 3)) (ht : (pc : Int) + off = (tgt : Int)) (h : (x ≠ 0 → L d M tgt ls st σ Q) ∧ (x = 0 → L d M (pc + 3) ls st σ Q)) : L d M pc ls (vI x :: st) σ Q := by
  intro l g p e s m args below meth c H locs A cx hR hl hL hst
  have hx : inI x := ok_head hst
  exact lv_if_ne cx.1 cx.2.1 hd ht (fun z => h.1 (fun w => z (by rw [zero32]; exact (eq32 hx in0).mpr w)) l g p e s m args below meth c H locs A cx hR hl hL (ok_tail hst)) (fun z => h.2 ((eq32 hx in0).mp (by rw [← zero32]; exact z)) l g p e s m args below meth c H locs A cx hR hl hL (ok_tail hst))
theorem L_if_lt {off : Int} {tgt : Nat} {x : Int} (hd : decode M.2.1 pc = .ok (.ifCond .lt off, 3)) (ht : (pc : Int) + off = (tgt : Int)) (h : (x < 0 → L d M tgt ls st σ Q) ∧ (0 ≤ x → L d M (pc + 3) ls st σ Q)) : L d M pc ls (vI x :: st) σ Q := by
  intro l g p e s m args below meth c H locs A cx hR hl hL hst
  have hx : inI x := ok_head hst
  exact lv_if_lt cx.1 cx.2.1 hd ht (fun z => h.1 ((lt32 hx in0).mp (by rw [← zero32]; exact z)) l g p e s m args below meth c H locs A cx hR hl hL (ok_tail hst)) (fun z => h.2 (Int.not_lt.mp (fun w => z (by rw [zero32]; exact (lt32 hx in0).mpr w))) l g p e s m args below meth c H locs A cx hR hl hL (ok_tail hst))
theorem L_if_ge {off : Int} {tgt : Nat} {x : Int} (hd : decode M.2.1 pc = .ok (.ifCond .ge off, 3)) (ht : (pc : Int) + off = (tgt : Int)) (h : (0 ≤ x → L d M tgt ls st σ Q) ∧ (x < 0 → L d M (pc + 3) ls st σ Q)) : L d M pc ls (vI x :: st) σ Q := by
  intro l g p e s m args below meth c H locs A cx hR hl hL hst
  have hx : inI x := ok_head hst
  exact lv_if_ge cx.1 cx.2.1 hd ht (fun z => h.1 ((le32 in0 hx).mp (by rw [← zero32]; exact z)) l g p e s m args below meth c H locs A cx hR hl hL (ok_tail hst)) (fun z => h.2 (Int.not_le.mp (fun w => z (by rw [zero32]; exact (le32 in0 hx).mpr w))) l g p e s m args below meth c H locs A cx hR hl hL (ok_tail hst))
theorem L_if_gt {off : Int} {tgt : Nat} {x : Int} (hd : decode M.2.1 pc = .ok (.ifCond .gt off, 3)) (ht : (pc : Int) + off = (tgt : Int)) (h : (0 < x → L d M tgt ls st σ Q) ∧ (x ≤ 0 → L d M (pc + 3) ls st σ Q)) : L d M pc ls (vI x :: st) σ Q := by
  intro l g p e s m args below meth c H locs A cx hR hl hL hst
  have hx : inI x := ok_head hst
  exact lv_if_gt cx.1 cx.2.1 hd ht (fun z => h.1 ((lt32 in0 hx).mp (by rw [← zero32]; exact z)) l g p e s m args below meth c H locs A cx hR hl hL (ok_tail hst)) (fun z => h.2 (Int.not_lt.mp (fun w => z (by rw [zero32]; exact (lt32 in0 hx).mpr w))) l g p e s m args below meth c H locs A cx hR hl hL (ok_tail hst))
theorem L_if_le {off : Int} {tgt : Nat} {x : Int} (hd : decode M.2.1 pc = .ok (.ifCond .le off, 3)) (ht : (pc : Int) + off = (tgt : Int)) (h : (x ≤ 0 → L d M tgt ls st σ Q) ∧ (0 < x → L d M (pc + 3) ls st σ Q)) : L d M pc ls (vI x :: st) σ Q := by
  intro l g p e s m args below meth c H locs A cx hR hl hL hst
  have hx : inI x := ok_head hst
  exact lv_if_le cx.1 cx.2.1 hd ht (fun z => h.1 ((le32 hx in0).mp (by rw [← zero32]; exact z)) l g p e s m args below meth c H locs A cx hR hl hL (ok_tail hst)) (fun z => h.2 (Int.not_le.mp (fun w => z (by rw [zero32]; exact (le32 hx in0).mpr w))) l g p e s m args below meth c H locs A cx hR hl hL (ok_tail hst))
/-- a switch: default where x is outside, else the offset's target -/
theorem L_table {dflt lo hi : Int} {offs : Array Int} {len tgt : Nat} {x : Int} (hd : decode M.2.1 pc = .ok (.tableswitch dflt lo hi offs, len)) (ht : (pc : Int) + dflt = (tgt : Int)) (h : ((x < lo ∨ hi < x) → L d M tgt ls st σ Q) ∧ (∀ k : Nat, lo ≤ x → x ≤ hi → (k : Int) = x - lo → ∃ (off : Int) (t : Nat), offs[k]? = some off ∧ (pc : Int) + off = (t : Int) ∧ L d M t ls st σ Q)) : L d M pc ls (vI x :: st) σ Q := by
  intro l g p e s m args below meth c H locs A cx hR hl hL hst
  have hx : inI x := ok_head hst
  by_cases ho : x < lo ∨ hi < x
  · exact lv_tableOut cx.1 cx.2.1 hd (by rw [to32 hx]; exact ho) ht (h.1 ho l g p e s m args below meth c H locs A cx hR hl hL (ok_tail hst))
  · obtain ⟨off, t, h1, h2, h3⟩ := h.2 (x - lo).toNat (by omega) (by omega) (by omega)
    exact lv_tableIn cx.1 cx.2.1 hd (by rw [to32 hx]; omega) (by rw [to32 hx]; omega) (by rw [to32 hx]; exact h1) h2 (h3 l g p e s m args below meth c H locs A cx hR hl hL (ok_tail hst))
end LR
