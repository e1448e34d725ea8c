/-! ===== stores that keep the heap's size in sight ===== -/
section WST
variable {p : Program} {l : Launch} {e : Env} {R : Room} {s : State} {m : MethodId} {args : Array Value} {below : List Frame} {meth : Method} {c : Code} {H : Heap} {locs : List Loc} {cells slots : Nat} {Qw : State → Prop} {g : GG} {M : MR} {n pc : Nat} {σ : SG} {A : Array Slot} {st : List Value} {ws : va_W} {H0 : Heap}
theorem W_putN {a ci N k idx q0 : Nat} {C : String} {T : u_T} {v : Value} {fs : List Value} (cx : CX g M p s m args meth c) (hini : meth.name = "<init>") (hC : C = M.1.cls) (hP : va_P (gD g) classes ws H) (hD : va_D (Ag g) ws) (hS : va_S (Ag g) H0 H locs) (he : ws[q0]? = some (a, .inr (ci, fs))) (hc : classes[ci]? = some (C, T, N)) (hk : k < N) (hw : Cond.fieldLink M.1.cls idx C (T k).2.1 (T k).2.2.1 ∈ Tbl) (hT : (T k).1 = C) (hn : narrow (cty ci k) v = v) (hfit : fits (cty ci k) v = true) (hl : k < fs.length) (hd : decode M.2.1 pc = .ok (.putfield idx, 3))
    (kk : ∀ (H1 : Heap) (locs1 : List Loc), H1.size = H.size → va_P (gD g) classes (ws.set q0 (a, .inr (ci, fs.set k v))) H1 → va_S (Ag g) H0 H1 locs1 → W p l e R s m args below meth c H1 locs1 cells slots Qw (F0 m (pc + 3) A st)) : W p l e R s m args below meth c H locs cells slots Qw (F0 m pc A (v :: .ref a :: st)) := by
  have hts := cx.2.2.2.2.2.2.1
  have hK := cx.2.2.2.2.2.2.2.1.1
  have hin := cls_tbl ci _ hc
  obtain ⟨hty, hnm⟩ := cls_ty ci _ hc
  simp only at hin hty hnm
  have hap := va_apart (own := M.1.cls) hts hin (cty ci) hty hnm hK hc
  obtain ⟨r, hr, cell, h1, h2, h3, h4⟩ := hP q0 _ he
  have hr2 : r = (C, T, N) := Option.some.inj (hr.symm.trans hc)
  subst hr2
  obtain ⟨slotsOf, hfc, kC, hkC, hkind⟩ := hK.1 ci _ hc
  obtain ⟨cf, kf, fi, f, hi, hsl⟩ := slotsOf k hk
  have hwd := u_lays hts hin hk
  have hst := (u_facts hfc hkC hwd hi).1
  have hi2 : s.fieldFound? C (T k).2.1 (T k).2.2.1 = some (cf, kf, fi, f) := by rw [← hT]; exact hi
  have hlt : f.slot < cell.slots.size := by rw [hsl]; exact k2_hasslot (h4 k hk)
  have fin : ∀ H' : Heap, H'[a]? = some (cell.setSlot f.slot v) → H'.size = H.size → (∀ q, q ≠ a → H'[q]? = H[q]?) → W p l e R s m args below meth c H' (locs ++ [⟨a, f.slot⟩]) cells slots Qw (F0 m (pc + 3) A st) := fun H' e1 e2 e3 => by
    rw [hsl] at e1
    refine kk H' _ e2 (hP.set hD he ⟨_, hc, ?_⟩ e3) (hS.put e2 e3 (hD.2 q0 _ he))
    exact t_OB.to (V := updV (vp_V fs) k v) ⟨_, e1, h2, h3, t_set h4 hap hk v⟩ (fun j _ => vp_updV_set hl v j)
  have hlay := hts _ (hin _ (u_in_lay hk))
  unfold u_lay at hlay
  by_cases hf : (T k).2.2.2 = true
  · rw [if_pos hf] at hlay
    have hcf : m.cls = cf := by
      obtain ⟨_, _, c', _, _, _, -, -, q1, -, -, -, q2, -⟩ := Cond.laysFinal_spec hlay
      have e1 : c' = cf := by
        have := hi.symm.trans q1
        simp at this
        exact this.1.symm
      rw [hT, hC] at q2
      rw [← e1]
      exact Option.some.inj (cx.2.2.2.2.2.1.symm.trans q2)
    exact W.putFinK cx.1 cx.2.1 cx.2.2.2.2.2.1 (hts _ hw) hi2 hst hcf hini (by rw [h2]; exact u_fits hfc hkC hkind (Or.inr hlay) hi (hty k hk) hn hfit) h1 h3 hlt rfl rfl hd fin
  · rw [if_neg hf] at hlay
    exact W.putK cx.1 cx.2.1 (f := f) ⟨cx.2.2.2.2.2.1, hts _ hw, ⟨_, _, _, hi2⟩, hst⟩ (by rw [h2]; exact u_store hfc hkC hkind hlay hi (hty k hk) hn hfit) h1 h3 hlt rfl rfl hd fin
end WST
/-! ===== a rule an instruction, while the heap is laid ===== -/
section LNR
variable {d n0 n1 n pc : Nat} {M : MR} {ls st : List AV} {σ : SG} {Q : SG → Prop}
theorem LN.push {v : AV} {pc2 : Nat} (h : LN d n0 n1 M pc2 ls (v :: st) n σ Q) (hv : okv v) {l : Launch} {g : GG} {p : Program} {e : Env} {s : State} {m : MethodId} {args : Array Value} {below : List Frame} {meth : Method} {c : Code} {H : Heap} {locs : List Loc} {A : Array Slot}
    (cx : CN g M n0 p s m args meth c) (hn : n0 ≤ n) (hR : RN g n σ H) (hl : ∀ q ∈ locs, Ag g q.base) (hL : Lo g M.2.2.1 ls A) (hst : ∀ v ∈ st, okv v) {w : Value} (hw : cv g v = w) :
    W p l e (rmn d (n1 - n0)) s m args below meth c H locs (n - n0) (3440 * (n - n0)) (MQ below (QN g n1 Q) args s (n1 - n0) (3440 * (n1 - n0)) (Ag g)) (F0 m pc2 A (w :: st.map (cv g))) := by
  subst hw
  exact h l g p e s m args below meth c H locs A cx hn hR hl hL (cons_ok hv hst)
theorem LN_iconst {k : Int} (hd : decode M.2.1 pc = .ok (.iconst k, 1)) (hk : inI k) (h : LN d n0 n1 M (pc + 1) ls (vI k :: st) n σ Q) : LN d n0 n1 M pc ls st n σ Q := by
  intro l g p e s m args below meth c H locs A cx hn hR hl hL hst
  exact lv_iconst cx.1.1 cx.1.2.1 hd rfl (h.push hk cx hn hR hl hL hst rfl)
theorem LN_bipush {k : Int} (hd : decode M.2.1 pc = .ok (.bipush k, 2)) (hk : (Int8.ofInt k).toInt32 = Int32.ofInt k) (hk2 : inI k) (h : LN d n0 n1 M (pc + 2) ls (vI k :: st) n σ Q) : LN d n0 n1 M pc ls st n σ Q := by
  intro l g p e s m args below meth c H locs A cx hn hR hl hL hst
  exact lv_bipush cx.1.1 cx.1.2.1 hd hk (h.push hk2 cx hn hR hl hL hst rfl)
theorem LN_sipush {k : Int} (hd : decode M.2.1 pc = .ok (.sipush k, 3)) (hk : (Int16.ofInt k).toInt32 = Int32.ofInt k) (hk2 : inI k) (h : LN d n0 n1 M (pc + 3) ls (vI k :: st) n σ Q) : LN d n0 n1 M pc ls st n σ Q := by
  intro l g p e s m args below meth c H locs A cx hn hR hl hL hst
  exact lv_sipush cx.1.1 cx.1.2.1 hd hk (h.push hk2 cx hn hR hl hL hst rfl)
theorem LN_lconst {k : Fin 2} {x : Int} (hd : decode M.2.1 pc = .ok (.lconst k, 1)) (hk : Int64.ofNat (k : Nat) = Int64.ofInt x) (hk2 : inJ x) (h : LN d n0 n1 M (pc + 1) ls (vJ x :: st) n σ Q) : LN d n0 n1 M pc ls st n σ Q := by
  intro l g p e s m args below meth c H locs A cx hn hR hl hL hst
  exact lv_lconst cx.1.1 cx.1.2.1 hd hk (h.push hk2 cx hn hR hl hL hst rfl)
theorem LN_iload_n {k : Fin 4} {x : Int} (hd : decode M.2.1 pc = .ok (.iload_n k, 1)) (hi : ls[(k : Nat)]? = some (vI x)) (h : LN d n0 n1 M (pc + 1) ls (vI x :: st) n σ Q) : LN d n0 n1 M pc ls st n σ Q := by
  intro l g p e s m args below meth c H locs A cx hn hR hl hL hst
  exact lv_iload_n cx.1.1 cx.1.2.1 hd rfl (hL.get hi n09) (h.push (hL.ok hi) cx hn hR hl hL hst rfl)
theorem LN_aload_n {k : Fin 4} {x : Int} (hd : decode M.2.1 pc = .ok (.aload_n k, 1)) (hi : ls[(k : Nat)]? = some (vA x)) (hx : x ≠ -1) (h : LN d n0 n1 M (pc + 1) ls (vA x :: st) n σ Q) : LN d n0 n1 M pc ls st n σ Q := by
  intro l g p e s m args below meth c H locs A cx hn hR hl hL hst
  have h1 : A[(k : Nat)]? = some (.val (cr g x)) := hL.get hi n29
  obtain ⟨q, hq⟩ := cr_ref g hx
  rw [hq] at h1
  exact lv_aload_n cx.1.1 cx.1.2.1 hd rfl h1 (h.push (v := vA x) trivial cx hn hR hl hL hst hq)
theorem LN_istore_n {k : Fin 4} {x : Int} (hd : decode M.2.1 pc = .ok (.istore_n k, 1)) (hi : (k : Nat) < M.2.2.1) (h : LN d n0 n1 M (pc + 1) (lst k (vI x) ls) st n σ Q) : LN d n0 n1 M pc ls (vI x :: st) n σ Q := by
  intro l g p e s m args below meth c H locs A cx hn hR hl hL hst
  refine lv_istore_n cx.1.1 cx.1.2.1 hd rfl hL.1 hi rfl (fun A' hA' => ?_)
  exact h l g p e s m args below meth c H locs A' cx hn hR hl (Lo.set rfl hL.2 (ok_head hst) hA') (ok_tail hst)
theorem LN_iinc {i : Nat} {k x : Int} (hd : decode M.2.1 pc = .ok (.iinc i k, 3)) (hg : ls[i]? = some (vI x)) (hi : i < M.2.2.1) (h : LN d n0 n1 M (pc + 3) (lst i (vI (w32 (x + k))) ls) st n σ Q) : LN d n0 n1 M pc ls st n σ Q := by
  intro l g p e s m args below meth c H locs A cx hn hR hl hL hst
  obtain ⟨j, hj⟩ := List.getElem?_of_mem (kn_mem (g := g) (i := 0) (ls := ls) (q := (i, .int (Int32.ofInt x))).mpr ⟨i, vI x, hg, n09, by simp [cv]⟩)
  refine lv_iinc (v := Int32.ofInt (w32 (x + k))) cx.1.1 cx.1.2.1 hd hL.1 hj (by rw [of_w32, Int32.ofInt_add]) hi rfl (fun A' hA' => ?_)
  exact h l g p e s m args below meth c H locs A' cx hn hR hl (Lo.set (v := vI (w32 (x + k))) rfl hL.2 (w32_in _) hA') hst
theorem LN_imul {x y : Int} (hd : decode M.2.1 pc = .ok (.imul, 1)) (h : LN d n0 n1 M (pc + 1) ls (vI (w32 (x * y)) :: st) n σ Q) : LN d n0 n1 M pc ls (vI y :: vI x :: st) n σ Q := by
  intro l g p e s m args below meth c H locs A cx hn hR hl hL hst
  exact lv_imul cx.1.1 cx.1.2.1 hd (h.push (w32_in _) cx hn hR hl hL (ok_tail (ok_tail hst)) (by show Value.int _ = _; rw [of_w32, Int32.ofInt_mul]))
theorem LN_dup {v : AV} (hd : decode M.2.1 pc = .ok (.dup, 1)) (hv : v.1 ≠ 1) (h : LN d n0 n1 M (pc + 1) ls (v :: v :: st) n σ Q) : LN d n0 n1 M pc ls (v :: st) n σ Q := by
  intro l g p e s m args below meth c H locs A cx hn hR hl hL hst
  exact lv_dup cx.1.1 cx.1.2.1 hd (cat1 hv) (h l g p e s m args below meth c H locs A cx hn hR hl hL (cons_ok (ok_head hst) hst))
theorem LN_goto {off : Int} {tgt : Nat} (hd : decode M.2.1 pc = .ok (.goto off, 3)) (ht : (pc : Int) + off = (tgt : Int)) (h : LN d n0 n1 M tgt ls st n σ Q) : LN d n0 n1 M pc ls st n σ Q := by
  intro l g p e s m args below meth c H locs A cx hn hR hl hL hst
  exact lv_goto cx.1.1 cx.1.2.1 hd ht (h l g p e s m args below meth c H locs A cx hn hR hl hL hst)
theorem LN_icmp_ge {off : Int} {tgt : Nat} {x y : Int} (hd : decode M.2.1 pc = .ok (.if_icmp .ge off, 3)) (ht : (pc : Int) + off = (tgt : Int)) (h : (y ≤ x → LN d n0 n1 M tgt ls st n σ Q) ∧ (x < y → LN d n0 n1 M (pc + 3) ls st n σ Q)) : LN d n0 n1 M pc ls (vI y :: vI x :: st) n σ Q := by
  intro l g p e s m args below meth c H locs A cx hn hR hl hL hst
  have hx : inI x := ok_head (ok_tail hst)
  have hy : inI y := ok_head hst
  exact lv_icmp_ge cx.1.1 cx.1.2.1 hd ht (fun z => h.1 ((le32 hy hx).mp z) l g p e s m args below meth c H locs A cx hn hR hl hL (ok_tail (ok_tail hst))) (fun z => h.2 (Int.not_le.mp (fun w => z ((le32 hy hx).mpr w))) l g p e s m args below meth c H locs A cx hn hR hl hL (ok_tail (ok_tail hst)))
theorem LN_max {idx : Nat} {x y : Int} (hn1 : n ≤ n1) (hw : Cond.methodLink M.1.cls idx Lib.Math.max.name ∈ Tbl) (hc : (st.map catv).sum ≤ 8) (hd : decode M.2.1 pc = .ok (.invokestatic idx, 3)) (h : LN (d + 1) n0 n1 M (pc + 3) ls (vI (max x y) :: st) n σ Q) : LN (d + 1) n0 n1 M pc ls (vI y :: vI x :: st) n σ Q := by
  intro l g p e s m args below meth c H locs A cx hn hR hl hL hst
  obtain ⟨-, -, -, w4, w5, w6, w7, w8, -⟩ := ac_words
  have hx : inI x := ok_head (ok_tail hst)
  have hy : inI y := ok_head hst
  have hts := cx.1.2.2.2.2.2.2.1
  refine va_mmax cx.1.1 cx.1.2.1 (by rw [cx.1.2.2.1]; exact hL.1.1.symm) cx.1.2.2.2.2.2.1 (hts _ hw) (hts _ w4) (hts _ w6) (hts _ w7) (by show 1 ≤ d + 1; omega) (by rw [cat_sum]; show _ ≤ 40 * (d + 1); omega) (by show n - n0 ≤ n1 - n0; omega) (by show 3440 * (n - n0) ≤ 3440 * (n1 - n0); omega) hd (h.push (v := vI (max x y)) ?_ cx hn hR hl hL (ok_tail (ok_tail hst)) ?_)
  · show inI (max x y)
    unfold inI at *; omega
  · show Value.int _ = Value.int _
    congr 1
    show Int32.ofInt (max x y) = if Int32.ofInt x < Int32.ofInt y then Int32.ofInt y else Int32.ofInt x
    by_cases h1 : x < y
    · rw [if_pos ((lt32 hx hy).mpr h1), show max x y = y by omega]
    · rw [if_neg (fun z => h1 ((lt32 hx hy).mp z)), show max x y = x by omega]
theorem LN_min {idx : Nat} {x y : Int} (hn1 : n ≤ n1) (hw : Cond.methodLink M.1.cls idx Lib.Math.min.name ∈ Tbl) (hc : (st.map catv).sum ≤ 8) (hd : decode M.2.1 pc = .ok (.invokestatic idx, 3)) (h : LN (d + 1) n0 n1 M (pc + 3) ls (vI (min x y) :: st) n σ Q) : LN (d + 1) n0 n1 M pc ls (vI y :: vI x :: st) n σ Q := by
  intro l g p e s m args below meth c H locs A cx hn hR hl hL hst
  obtain ⟨-, -, -, w4, w5, w6, w7, w8, -⟩ := ac_words
  have hx : inI x := ok_head (ok_tail hst)
  have hy : inI y := ok_head hst
  have hts := cx.1.2.2.2.2.2.2.1
  refine va_mmin cx.1.1 cx.1.2.1 (by rw [cx.1.2.2.1]; exact hL.1.1.symm) cx.1.2.2.2.2.2.1 (hts _ hw) (hts _ w5) (hts _ w6) (hts _ w8) (by show 1 ≤ d + 1; omega) (by rw [cat_sum]; show _ ≤ 40 * (d + 1); omega) (by show n - n0 ≤ n1 - n0; omega) (by show 3440 * (n - n0) ≤ 3440 * (n1 - n0); omega) hd (h.push (v := vI (min x y)) ?_ cx hn hR hl hL (ok_tail (ok_tail hst)) ?_)
  · show inI (min x y)
    unfold inI at *; omega
  · show Value.int _ = Value.int _
    congr 1
    first
    | (show Int32.ofInt (min x y) = if Int32.ofInt x < Int32.ofInt y then Int32.ofInt x else Int32.ofInt y
       by_cases h1 : x < y
       · rw [if_pos ((lt32 hx hy).mpr h1), show min x y = x by omega]
       · rw [if_neg (fun z => h1 ((lt32 hx hy).mp z)), show min x y = y by omega])
    | (show Int32.ofInt (min x y) = if Int32.ofInt y < Int32.ofInt x then Int32.ofInt y else Int32.ofInt x
       by_cases h1 : y < x
       · rw [if_pos ((lt32 hy hx).mpr h1), show min x y = y by omega]
       · rw [if_neg (fun z => h1 ((lt32 hy hx).mp z)), show min x y = x by omega])
/-! makings -/
theorem LN_new {idx ci N : Nat} {C : String} {T : u_T} (hc : classes[ci]? = some (C, T, N)) (hk : kdn n = (ci, N)) (hn1 : n < n1) (w1 : Cond.classLink M.1.cls idx C ∈ Tbl) (w2 : Cond.instantiable C N ∈ Tbl) (w3 : Cond.initialized C ∈ Tbl) (hd : decode M.2.1 pc = .ok (.new idx, 3)) (h : LN d n0 n1 M (pc + 3) ls (vA n :: st) (n + 1) (bl σ n) Q) : LN d n0 n1 M pc ls st n σ Q := by
  intro l g p e s m args below meth c H locs A cx hn hR hl hL hst
  have hN := (cls_N ci _ hc).2
  simp only at hN
  refine W_new cx.1 hR hc hk w1 w2 w3 (by show _ ≤ n1 - n0; omega) (by show _ ≤ 3440 * (n1 - n0); omega) hd (fun H1 hR1 => ?_)
  refine W.widen (k := n + 1 - n0) (n := 3440 * (n + 1 - n0)) (by omega) (by omega) ?_
  exact h.push (v := vA n) trivial cx (by omega) hR1 hl hL hst (cr_nat g n)
def atk (t : Nat) : ArrayType := match t with
  | 100 => .int
  | 101 => .long
  | 102 => .byte
  | _ => .boolean
theorem LN_newA {N t : Nat} {at' : ArrayType} {x : Int} (ht : 100 ≤ t ∧ t ≤ 103) (ha : at' = atk t) (hk : kdn n = (t, N)) (hx : x = N) (hN : N ≤ 3440) (hn1 : n < n1) (hd : decode M.2.1 pc = .ok (.newarray at', 2)) (h : LN d n0 n1 M (pc + 2) ls (vA n :: st) (n + 1) (bl σ n) Q) : LN d n0 n1 M pc ls (vI x :: st) n σ Q := by
  intro l g p e s m args below meth c H locs A cx hn hR hl hL hst
  have hz := bl_arr (σ := σ) hk ht
  have go : ∀ H1 : Heap, RN g (n + 1) (bl σ n) H1 → W p l e (rmn d (n1 - n0)) s m args below meth c H1 locs (n - n0 + 1) (3440 * (n - n0) + N) (MQ below (QN g n1 Q) args s (n1 - n0) (3440 * (n1 - n0)) (Ag g)) (F0 m (pc + 2) A (.ref (gB g + n) :: st.map (cv g))) := fun H1 hR1 => by
    refine W.widen (k := n + 1 - n0) (n := 3440 * (n + 1 - n0)) (by omega) (by omega) ?_
    exact h.push (v := vA n) trivial cx (by omega) hR1 hl hL (ok_tail hst) (cr_nat g n)
  have h2 : t = 100 ∨ t = 101 ∨ t = 102 ∨ t = 103 := by omega
  rcases h2 with rfl | rfl | rfl | rfl
  · refine W_newA (C0 := 0) (ty := .int) (a0 := (N, .inl (fun j => Int32.ofInt (bl σ n n j)))) cx.1 hR (by rw [ha]; rfl) rfl (fun cA q => q) hx hN (by decide +kernel) (by decide) (by rw [hk]; rfl) (fun cA => ?_) (by show _ ≤ n1 - n0; omega) (by show _ ≤ 3440 * (n1 - n0); omega) hd go
    rw [vp_cell_i]
    congr 1
    funext j
    rw [hz]; rfl
  · refine W_newA (C0 := 1) (ty := .long) (a0 := (N, .inr (.inl (fun j => Int64.ofInt (bl σ n n j))))) cx.1 hR (by rw [ha]; rfl) rfl (fun cA q => q) hx hN (by decide +kernel) (by decide) (by rw [hk]; rfl) (fun cA => ?_) (by show _ ≤ n1 - n0; omega) (by show _ ≤ 3440 * (n1 - n0); omega) hd go
    rw [vp_cell_l]
    congr 1
    funext j
    rw [hz]; rfl
  · refine W_newA (C0 := 2) (ty := .byte) (a0 := (N, .inl (fun j => Int32.ofInt (bl σ n n j)))) cx.1 hR (by rw [ha]; rfl) rfl (fun cA q => q) hx hN (by decide +kernel) (by decide) (by rw [hk]; rfl) (fun cA => ?_) (by show _ ≤ n1 - n0; omega) (by show _ ≤ 3440 * (n1 - n0); omega) hd go
    rw [vp_cell_i]
    congr 1
    funext j
    rw [hz]; rfl
  · refine W_newA (C0 := 3) (ty := .boolean) (a0 := (N, .inl (fun j => Int32.ofInt (bl σ n n j)))) cx.1 hR (by rw [ha]; rfl) rfl (fun cA q => q) hx hN (by decide +kernel) (by decide) (by rw [hk]; rfl) (fun cA => ?_) (by show _ ≤ n1 - n0; omega) (by show _ ≤ 3440 * (n1 - n0); omega) hd go
    rw [vp_cell_i]
    congr 1
    funext j
    rw [hz]; rfl
theorem LN_newQ {N C0 idx : Nat} {C : String} {x : Int} (hA : ∀ g : GG, (tysA g)[C0]? = some (gC g C0, .object C)) (hC : C ∈ aoL) (hC0 : 4 ≤ C0 ∧ C0 ≤ 6) (hk : kdn n = (100 + C0, N)) (hx : x = N) (hN : N ≤ 3440) (hn1 : n < n1) (w1 : Cond.classLink M.1.cls idx C ∈ Tbl) (hd : decode M.2.1 pc = .ok (.anewarray idx, 3)) (h : LN d n0 n1 M (pc + 3) ls (vA n :: st) (n + 1) (bl σ n) Q) : LN d n0 n1 M pc ls (vI x :: st) n σ Q := by
  intro l g p e s m args below meth c H locs A cx hn hR hl hL hst
  refine W_newQ cx.1 cx.2.1 hR (hA g) hC hk hC0 hx hN w1 (by show _ ≤ n1 - n0; omega) (by show _ ≤ 3440 * (n1 - n0); omega) hd (fun H1 hR1 => ?_)
  refine W.widen (k := n + 1 - n0) (n := 3440 * (n + 1 - n0)) (by omega) (by omega) ?_
  exact h.push (v := vA n) trivial cx (by omega) hR1 hl hL (ok_tail hst) (cr_nat g n)
theorem LN_objInit {idx : Nat} {a : Int} (w1 : Cond.methodLink M.1.cls idx Lib.objectInit ∈ Tbl) (ha : 0 ≤ a) (hc : (st.map catv).sum ≤ 8) (hd : decode M.2.1 pc = .ok (.invokespecial idx, 3)) (h : LN (d + 1) n0 n1 M (pc + 3) ls st n σ Q) : LN (d + 1) n0 n1 M pc ls (vA a :: st) n σ Q := by
  intro l g p e s m args below meth c H locs A cx hn hR hl hL hst
  obtain ⟨b, rfl⟩ := nat_of ha
  have hts := cx.1.2.2.2.2.2.2.1
  have e0 : (List.map (cv g) (vA b :: st)) = .ref (gB g + b) :: st.map (cv g) := by
    show cr g b :: _ = _
    rw [cr_nat]
  rw [e0]
  have w2 : Cond.instanceMethod Lib.objectInit ∈ Tbl := by decide +kernel
  have w3 : Cond.code Lib.objectInit ⟨#[0xb1]⟩ 1 none ∈ Tbl := by decide +kernel
  refine W.objInit cx.1.1 cx.1.2.1 cx.1.2.2.2.2.2.1 (hts _ w1) (hts _ w2) (hts _ w3) rfl (by show A.size = _; rw [cx.1.2.2.1]; exact hL.1.1) rfl hd (by show 1 ≤ d + 1; omega) (by show 2 * 0 + _ + 12 ≤ 40 * (d + 1); rw [cat_sum]; omega) ?_
  exact h l g p e s m args below meth c H locs A cx hn hR hl hL (ok_tail hst)
/-! fields and arrays -/
theorem kdn_at {b t N : Nat} (h : kdn b = (t, N)) (ht : t ≠ 999) : b < 197 := by rw [← kf_len]; exact kdn_lt (by rw [h]; exact ht)
theorem LN_getf {idx ci k t : Nat} {a x : Int} (hf : FW M.1.cls idx ci k) (ht : ftg ci k = t) (hx : σ a k = x) (hok : okv (t, x)) (ha : obok ci a) (hlt : a < n) (hd : decode M.2.1 pc = .ok (.getfield idx, 3)) (h : LN d n0 n1 M (pc + 3) ls ((t, x) :: st) n σ Q) : LN d n0 n1 M pc ls (vA a :: st) n σ Q := by
  intro l g p e s m args below meth c H locs A cx hn hR hl hL hst
  obtain ⟨C, T, N, hc, hk, hT, hw⟩ := hf
  obtain ⟨ha0, ha⟩ := ha
  obtain ⟨b, rfl⟩ := nat_of ha0
  rw [kd_nat] at ha
  have hci : ci < 13 := (cls_N ci _ hc).1
  have hb : b < KF.length := kdn_lt (by omega)
  have hN : (kdn b).2 = N := by
    have h9 : b < 197 := by rw [← kf_len]; exact hb
    rcases kf_ok b h9 with ⟨_, q⟩ | ⟨q, _⟩
    · rw [ha, hc] at q; exact (Option.some.inj q).symm
    · omega
  have e0 : (List.map (cv g) (vA b :: st)) = .ref (gB g + b) :: st.map (cv g) := by
    show cr g b :: _ = _
    rw [cr_nat]
  rw [e0]
  have he : (wsN g n σ)[b]? = some (gB g + b, .inr (ci, (List.range N).map (fun j => cv g (ftg ci j, σ b j)))) := by
    rw [wsN_at (by omega), celK_obj (by omega), ha, hN]
  refine va_get (D := gD g) (ci := ci) (C := C) (T := T) (N := N) (ref := C) (index := idx) (v := cv g (t, x)) cx.1.1 cx.1.2.1 cx.1.2.2.2.2.2.2.1 (cls_tbl ci _ hc) cx.1.2.2.2.2.2.1 cx.1.2.2.2.2.2.2.2.1.1 hR.1 b he hc k hk (cx.1.2.2.2.2.2.2.1 _ hw) (fun x hx => by rw [hT] at hx; exact hx) ?_ hd ?_
  · rw [List.getElem?_map, List.getElem?_range hk, ← ht, ← hx]; rfl
  · exact h l g p e s m args below meth c H locs A cx hn hR hl hL (cons_ok hok (ok_tail hst))
theorem LN_putf {idx ci k t : Nat} {a x : Int} (hf : FW M.1.cls idx ci k) (hown : (classes[ci]?).map (fun q => q.1) = some M.1.cls) (hini : M.1.name = "<init>") (ht : ftg ci k = t) (hfit : ∀ g : GG, narrow (cty ci k) (cv g (t, x)) = cv g (t, x) ∧ fits (cty ci k) (cv g (t, x)) = true) (ha : obok ci a) (hlt : a < n) (hd : decode M.2.1 pc = .ok (.putfield idx, 3)) (h : LN d n0 n1 M (pc + 3) ls st n (up σ a k x) Q) : LN d n0 n1 M pc ls ((t, x) :: vA a :: st) n σ Q := by
  intro l g p e s m args below meth c H locs A cx hn hR hl hL hst
  obtain ⟨C, T, N, hc, hk, hT, hw⟩ := hf
  obtain ⟨ha0, ha⟩ := ha
  obtain ⟨b, rfl⟩ := nat_of ha0
  rw [kd_nat] at ha
  have hci : ci < 13 := (cls_N ci _ hc).1
  have hb : b < KF.length := kdn_lt (by omega)
  have hN : (kdn b).2 = N := by
    have h9 : b < 197 := by rw [← kf_len]; exact hb
    rcases kf_ok b h9 with ⟨_, q⟩ | ⟨q, _⟩
    · rw [ha, hc] at q; exact (Option.some.inj q).symm
    · omega
  have e0 : (List.map (cv g) ((t, x) :: vA b :: st)) = cv g (t, x) :: .ref (gB g + b) :: st.map (cv g) := by
    show _ :: cr g b :: _ = _
    rw [cr_nat]
  rw [e0]
  have he : (wsN g n σ)[b]? = some (gB g + b, .inr (ci, (List.range N).map (fun j => cv g (ftg ci j, σ b j)))) := by
    rw [wsN_at (by omega), celK_obj (by omega), ha, hN]
  have hS := RN_S cx.1 cx.2.2.2 hn hR hl
  have hset : ((List.range N).map (fun j => cv g (ftg ci j, σ b j))).set k (cv g (t, x)) = (List.range N).map (fun j => cv g (ftg ci j, up σ b k x b j)) := by
    apply map_set
    · intro j hj
      unfold up
      rw [if_neg (by omega)]
    · unfold up
      rw [if_pos ⟨rfl, rfl⟩, ht]
  have hcel : celK g (up σ b k x b) (kdn b) = .inr (ci, (List.range N).map (fun j => cv g (ftg ci j, up σ b k x b j))) := by
    rw [celK_obj (by omega), ha, hN]
  have hlen : k < ((List.range N).map (fun j => cv g (ftg ci j, σ b j))).length := by simpa using hk
  have hCo : C = M.1.cls := by
    rw [hc] at hown
    exact Option.some.inj hown
  refine W_putN cx.1 (by rw [cx.2.2.1]; exact hini) hCo hR.1 (wsN_D g n σ) hS he hc hk hw hT (hfit g).1 (hfit g).2 hlen hd (fun H1 locs1 hz1 hP1 hS1 => ?_)
  rw [hset, ← hcel] at hP1
  exact h l g p e s m args below meth c H1 locs1 A cx hn (RN_put cx.1 cx.2.2.2 hR hz1 (by omega) hP1 hS1) hS1.2.2 hL (ok_tail (ok_tail hst))
theorem LN_iastore {a i x : Int} (hw : wrok 100 a i) (hlt : a < n) (hd : decode M.2.1 pc = .ok (.iastore, 1)) (h : LN d n0 n1 M (pc + 1) ls st n (up σ a i x) Q) : LN d n0 n1 M pc ls (vI x :: vI i :: vA a :: st) n σ Q := by
  intro l g p e s m args below meth c H locs A cx hn hR hl hL hst
  obtain ⟨ha, hk, hi0, hi1⟩ := hw
  have hi : inI i := ok_head (ok_tail hst)
  obtain ⟨b, rfl⟩ := nat_of ha
  obtain ⟨j, rfl⟩ := nat_of hi0
  rw [kd_nat] at hk hi1
  have e0 : (List.map (cv g) (vI x :: vI j :: vA b :: st)) = .int (Int32.ofInt x) :: .int (Int32.ofInt j) :: .ref (gB g + b) :: st.map (cv g) := by
    show _ :: _ :: cr g b :: _ = _
    rw [cr_nat]; rfl
  rw [e0]
  have hcl : (Int32.ofInt (j : Int)).toNatClampNeg = j := by rw [clamp32 hi]; simp
  have he : (wsN g n σ)[b]? = some (gB g + b, .inl (gC g 0, (kdn b).2, .inl (fun k => Int32.ofInt (σ b k)))) := by rw [wsN_at (by omega), celK_100 hk]
  have hS := RN_S cx.1 cx.2.2.2 hn hR hl
  have hK := cx.1.2.2.2.2.2.2.2.1.1
  have hin := vq_in hi hi0 hi1
  refine W.iast cx.1.1 cx.1.2.1 (hR.1 b _ he) ((hK.2 0 (gC g 0, .int) rfl).1 (kdn b).2 (fun k => .int (Int32.ofInt (σ b k)))) (fun q => by cases q) (by show ¬ (_ < 0 ∨ (arrV _ _ _).slots.size ≤ _); rw [arrV_size]; exact hin) rfl rfl hd fun H1 e1 z1 o1 => ?_
  have hcel : celK g (up σ b j x b) (kdn b) = .inl (gC g 0, (kdn b).2, .inl (upd (fun k => Int32.ofInt (σ b k)) j (Int32.ofInt x))) := by
    rw [celK_100 hk]
    congr 4
    funext k
    simp only [up, upd]
    by_cases hkj : k = j
    · subst hkj; simp
    · rw [if_neg (by omega), if_neg hkj]
  have hv : va_at (gD g) classes (gB g + b, celK g (up σ b j x b) (kdn b)) H1 := by
    rw [hcel]
    show H1[gB g + b]? = some (vp_cell _ _)
    rw [e1, hcl]
    show some ((arrV (gC g 0) (kdn b).2 (fun k => .int (Int32.ofInt (σ b k)))).setSlot j (.int (Int32.ofInt x))) = some (arrV (gC g 0) (kdn b).2 (fun k => .int (upd (fun k => Int32.ofInt (σ b k)) j (Int32.ofInt x) k)))
    rw [arrV_store]
    congr 2
    funext k
    unfold updV upd
    by_cases hkj : k = j
    · rw [if_pos hkj, if_pos hkj]
    · rw [if_neg hkj, if_neg hkj]
  have hS1 := hS.put (k := (Int32.ofInt (j : Int)).toNatClampNeg) z1 o1 (show Ag g (gB g + b) from Nat.le_add_right _ _)
  exact h l g p e s m args below meth c H1 _ A cx hn (RN_put cx.1 cx.2.2.2 hR z1 (by omega) (hR.1.set (wsN_D g n σ) he hv o1) hS1) hS1.2.2 hL (ok_tail (ok_tail (ok_tail hst)))
theorem LN_aastore {C0 ci : Nat} {a i x : Int} {r : vw_C} (hA : ∀ g : GG, (tysA g)[C0]? = some (gC g C0, .object r.1)) (hC0 : 4 ≤ C0 ∧ C0 ≤ 6) (hc : classes[ci]? = some r) (hw : wrok (100 + C0) a i) (hlt : a < n) (hx : obok ci x) (hxlt : x < n) (hd : decode M.2.1 pc = .ok (.aastore, 1)) (h : LN d n0 n1 M (pc + 1) ls st n (up σ a i x) Q) : LN d n0 n1 M pc ls (vA x :: vI i :: vA a :: st) n σ Q := by
  intro l g p e s m args below meth c H locs A cx hn hR hl hL hst
  obtain ⟨ha, hk, hi0, hi1⟩ := hw
  obtain ⟨hx0, hxk⟩ := hx
  have hi : inI i := ok_head (ok_tail hst)
  obtain ⟨b, rfl⟩ := nat_of ha
  obtain ⟨j, rfl⟩ := nat_of hi0
  obtain ⟨y, rfl⟩ := nat_of hx0
  rw [kd_nat] at hk hi1 hxk
  have e0 : (List.map (cv g) (vA y :: vI j :: vA b :: st)) = .ref (gB g + y) :: .int (Int32.ofInt j) :: .ref (gB g + b) :: st.map (cv g) := by
    show cr g y :: _ :: cr g b :: _ = _
    rw [cr_nat, cr_nat]; rfl
  rw [e0]
  have hcl : (Int32.ofInt (j : Int)).toNatClampNeg = j := by rw [clamp32 hi]; simp
  have hcelk : ∀ f : Int → Int, celK g f (kdn b) = .inl (gC g C0, (kdn b).2, .inr (.inr (.inr (.inr (fun k => rfo g (f k)))))) := fun f => by
    rw [celK_ref (by omega) (by omega), hk, show 100 + C0 - 100 = C0 by omega]
  have he : (wsN g n σ)[b]? = some (gB g + b, .inl (gC g C0, (kdn b).2, .inr (.inr (.inr (.inr (fun k => rfo g (σ b k))))))) := by rw [wsN_at (by omega), hcelk]
  have hey : (wsN g n σ)[y]? = some (gB g + y, celK g (σ y) (kdn y)) := wsN_at (by omega)
  rw [celK_obj (by rw [hxk]; exact (cls_N ci _ hc).1), hxk] at hey
  have hS := RN_S cx.1 cx.2.2.2 hn hR hl
  have hK := cx.1.2.2.2.2.2.2.2.1.1
  have hin := vq_in hi hi0 hi1
  obtain ⟨r', -, cellV, g1, g2, g3, -⟩ := hR.1 y _ hey
  have hcls := (hK.1 ci r hc).2
  obtain ⟨kA, comp, k1, k2, k3, -⟩ := (hK.2 C0 _ (hA g)).2
  have hcomp : comp = (gD g).1 ci := Option.some.inj (k3.symm.trans hcls.1)
  subst hcomp
  obtain ⟨kC, hkC, -⟩ := hcls.2
  have hlt2 : (Int32.ofInt (j : Int)).toNatClampNeg < (kdn b).2 := by rw [hcl]; omega
  refine W.aast cx.1.1 cx.1.2.1 (hR.1 b _ he) (fun q h => by cases h) (fun h => by cases h) k1 k2 rfl hkC ⟨fun q => hin (Or.inl q), by show _ < (arrV _ _ _).slots.size; rw [arrV_size]; exact hlt2⟩ g1 (fun q h => by rw [g3] at h; cases h) (by rw [g2]; exact hkC) (by rw [g2]; exact va_assign hcls) rfl rfl hd fun H1 e1 z1 o1 => ?_
  have hv : va_at (gD g) classes (gB g + b, celK g (up σ b j y b) (kdn b)) H1 := by
    rw [hcelk]
    show H1[gB g + b]? = some (vp_cell _ _)
    rw [e1, hcl]
    show some ((arrV (gC g C0) (kdn b).2 (fun k => va_rf (rfo g (σ b k)))).setSlot j (.ref (gB g + y))) = some (arrV (gC g C0) (kdn b).2 (fun k => va_rf (rfo g (up σ b j y b k))))
    rw [arrV_store]
    congr 2
    funext k
    unfold updV up
    by_cases hkj : k = j
    · subst hkj
      rw [if_pos rfl, if_pos ⟨rfl, rfl⟩]
      unfold rfo
      rw [if_pos (by omega)]
      simp [va_rf]
    · rw [if_neg hkj, if_neg (by omega)]
  have hS1 := hS.put (k := (Int32.ofInt (j : Int)).toNatClampNeg) z1 o1 (show Ag g (gB g + b) from Nat.le_add_right _ _)
  exact h l g p e s m args below meth c H1 _ A cx hn (RN_put cx.1 cx.2.2.2 hR z1 (by omega) (hR.1.set (wsN_D g n σ) he hv o1) hS1) hS1.2.2 hL (ok_tail (ok_tail (ok_tail hst)))
theorem LN_alen {a x : Int} (ha : 0 ≤ a ∧ (kd a).1 = 100) (hx : ((kd a).2 : Int) = x) (hlt : a < n) (hd : decode M.2.1 pc = .ok (.arraylength, 1)) (h : LN d n0 n1 M (pc + 1) ls (vI x :: st) n σ Q) : LN d n0 n1 M pc ls (vA a :: st) n σ Q := by
  intro l g p e s m args below meth c H locs A cx hn hR hl hL hst
  obtain ⟨ha, hk⟩ := ha
  obtain ⟨b, rfl⟩ := nat_of ha
  rw [kd_nat] at hk hx
  subst hx
  have e0 : (List.map (cv g) (vA b :: st)) = .ref (gB g + b) :: st.map (cv g) := by
    show cr g b :: _ = _
    rw [cr_nat]
  rw [e0]
  have hb : b < KF.length := kdn_lt (by omega)
  have hle : (kdn b).2 ≤ 3440 := by
    have h9 : ∀ a, a < 197 → (kdn a).2 ≤ 3440 := by decide +kernel
    exact h9 b (by rw [← kf_len]; exact hb)
  refine va_alen (D := gD g) (tys := tysA g) cx.1.1 cx.1.2.1 cx.1.2.2.2.2.2.2.2.1.1 hR.1 b 0 (by rw [wsN_at (by omega), celK_100 hk]) rfl rfl hd ?_
  refine h.push (v := vI ((kdn b).2 : Int)) ?_ cx hn hR hl hL (ok_tail hst) ?_
  · show inI ((kdn b).2 : Int)
    unfold inI; omega
  · show Value.int _ = Value.int _
    rw [Int32.ofInt_eq_ofNat]
/-! calls, entries, ends -/
theorem LN_ran {N : MR} {n' : Nat} {l : Launch} {g : GG} {p : Program} {e : Env} {s : State} {m : MethodId} {args : Array Value} {below : List Frame} {meth : Method} {c : Code} {H : Heap} {locs : List Loc} {A : Array Slot} {as : Array Value} {st1 : List Value}
    (cx : CN g M n0 p s m args meth c) (hn : n0 ≤ n) (hn2 : n ≤ n') (hl : ∀ q ∈ locs, Ag g q.base) (hL : Lo g M.2.2.1 ls A) (hst : ∀ v ∈ st, okv v)
    (hr : va_Run p l e (rmn (d + 1) (n1 - n0)) s m args below meth c H locs (n - n0) (3440 * (n - n0)) (n' - n) (3440 * (n' - n)) (F0 m pc A st1) (st.map (cv g)) (QN g n' (fun σ' => LN (d + 1) n0 n1 M (pc + 3) ls st n' σ' Q) as) (Ag g)) :
    W p l e (rmn (d + 1) (n1 - n0)) s m args below meth c H locs (n - n0) (3440 * (n - n0)) (MQ below (QN g n1 Q) args s (n1 - n0) (3440 * (n1 - n0)) (Ag g)) (F0 m pc A st1) := by
  intro T hT X
  obtain ⟨v, st₀, u, T', Lc, h0, X', hLc, e1, e2, ⟨σ', hv, hR, hQ⟩, go⟩ := hr T hT X
  have hv' : v = none := by injection hv
  subst hv'
  rw [show n - n0 + (n' - n) = n' - n0 by omega, show 3440 * (n - n0) + 3440 * (n' - n) = 3440 * (n' - n0) by omega] at X'
  have hl' : ∀ q ∈ locs ++ Lc, Ag g q.base := by
    intro q hq
    rcases List.mem_append.mp hq with h1 | h1
    · exact hl q h1
    · exact hLc q h1
  obtain ⟨t2, a1, b1⟩ := hQ l g p e s m args below meth c u.heap (locs ++ Lc) A cx (by omega) hR hl' hL hst T' e1 X'
  exact ⟨t2, go t2 a1, b1⟩
theorem PN_blind (g : GG) (args : List AV) (n : Nat) (σ : SG) : FrameBlind (PNc g args n σ) := by
  intro a U f mk h
  obtain ⟨h1, h2, h3, h4⟩ := h
  exact ⟨h1, h2, h3, h4.same rfl⟩
/-- a constructor: code, words -/
def CI (M : MR) (k : Nat) : Prop := Cond.code M.1 M.2.1 M.2.2.1 none ∈ Tbl ∧ M.2.2.2 = none ∧ Cond.instanceMethod M.1 ∈ Tbl ∧ Cond.initialized M.1.cls ∈ Tbl ∧ M.2.2.1 ≤ 20 ∧ M.1.name = "<init>" ∧ (M.1.cls ≠ "java/lang/invoke/MethodHandle" ∧ M.1.cls ≠ "java/lang/invoke/VarHandle" ∧ (parseMethodDescriptor M.1.desc).map (fun d => d.parameters.length) = some k)
theorem LN_callI {N : MR} {k n' idx : Nat} {a : Int} {As : List AV} {st0 : List AV} (hN : CI N k) (hk : As.length = k) (hw : Cond.methodLink M.1.cls idx N.1 ∈ Tbl ∨ (M.1.cls, idx, N.1) ∈ nestI) (hs : st0 = As.reverse ++ vA a :: st) (ha : 0 ≤ a) (hn2 : n ≤ n') (hn1 : n' ≤ n1) (hc : (st.map catv).sum ≤ 8) (hd : decode M.2.1 pc = .ok (.invokespecial idx, 3))
    (h : TN d n n' N (vA a :: As) σ (fun σ' => LN (d + 1) n0 n1 M (pc + 3) ls st n' σ' Q)) : LN (d + 1) n0 n1 M pc ls st0 n σ Q := by
  intro l g p e s m args below meth c H locs A cx hn hR hl hL hst
  obtain ⟨b, rfl⟩ := nat_of ha
  obtain ⟨n1', n2', n3', n4', n5', n6', n7'⟩ := hN
  subst hs
  have hts := cx.1.2.2.2.2.2.2.1
  have hok : ∀ v ∈ vA b :: As, okv v := fun v hv => hst v (by
    rcases List.mem_cons.mp hv with rfl | h1
    · simp
    · simp [h1])
  have e0 : ((As.reverse ++ vA b :: st).map (cv g)) = (As.map (cv g)).reverse ++ .ref (gB g + b) :: st.map (cv g) := by
    rw [List.map_append, List.map_reverse]
    show _ ++ cr g b :: _ = _
    rw [cr_nat]
  rw [e0]
  have hst' : ∀ v ∈ st, okv v := fun v hv => hst v (by simp [hv])
  have hgood : GoodIn Tbl (wsM N) := good_Tbl (wsM_in (by rw [n2']; exact n1'))
  have hwe : wsM N = Cond.code N.1 N.2.1 N.2.2.1 none :: Tbl := by unfold wsM; rw [n2']
  have hpre : PreS s H (PNc g (vA b :: As) n σ) (.ref (gB g + b) :: As.map (cv g)) := ⟨PN_blind g _ _ _, fun U hU hW => ⟨by show _ = (cr g b :: List.map (cv g) As).toArray; rw [cr_nat], hok, by rw [hU]; exact hR, cx.2.1.warm hW⟩⟩
  have hcf : CallFix p m c M.2.1 M.2.2.1 s args Tbl M.1.cls := ⟨cx.1.1, cx.1.2.1, cx.1.2.2.1, cx.1.2.2.2.2.2.1, cx.1.2.2.2.2.2.2.1⟩
  refine LN_ran (N := N) (n' := n') (as := (Value.ref (gB g + b) :: As.map (cv g)).toArray) cx hn hn2 hl hL hst' ?_
  rcases hw with hw | hw
  · exact va_runI (Ts := Tbl) (nL := M.2.2.1) (As := As.map (cv g)) (rest := st.map (cv g)) hcf (h l g)
      (cwI k hts hgood hwe rfl rfl (hts _ n4') (hts _ hw) (hts _ n3') n6' n7' ⟨Nat.le_refl _, by show 8 + (N.2.2.1 + 11) + 40 * d ≤ 40 * (d + 1); omega⟩)
      hpre rfl (by rw [List.length_map]; exact hk) (hL.1.1) rfl (by show 2 * 0 + _ ≤ 8; rw [cat_sum]; omega) hd ⟨by show _ ≤ n1 - n0; omega, by show _ ≤ 3440 * (n1 - n0); omega⟩
  · exact va_runIN (Ts := Tbl) (nL := M.2.2.1) (As := As.map (cv g)) (rest := st.map (cv g)) hcf (h l g)
      ⟨va_cnB k hts hgood hwe rfl rfl (cx.2.1.2.1 _ hw) (hts _ n4') n7' ⟨Nat.le_refl _, by show 8 + (N.2.2.1 + 11) + 40 * d ≤ 40 * (d + 1); omega⟩, n6', hts _ n3'⟩
      hpre rfl (by rw [List.length_map]; exact hk) (hL.1.1) rfl (by show 2 * 0 + _ ≤ 8; rw [cat_sum]; omega) hd ⟨by show _ ≤ n1 - n0; omega, by show _ ≤ 3440 * (n1 - n0); omega⟩
theorem LN_callS {N : MR} {k idx : Nat} {As : List AV} {st0 : List AV} (hN : CS N k) (hv : N.2.2.2 = none) (hk : As.length = k) (hw : Cond.methodLink M.1.cls idx N.1 ∈ Tbl) (hs : st0 = As.reverse ++ st) (hn1 : n ≤ n1) (hc : (st.map catv).sum ≤ 8) (hd : decode M.2.1 pc = .ok (.invokestatic idx, 3))
    (h : TN d n n N As σ (fun σ' => LN (d + 1) n0 n1 M (pc + 3) ls st n σ' Q)) : LN (d + 1) n0 n1 M pc ls st0 n σ Q := by
  intro l g p e s m args below meth c H locs A cx hn hR hl hL hst
  obtain ⟨n1', n2', n4', n5', n6'⟩ := hN
  subst hs
  have hts := cx.1.2.2.2.2.2.2.1
  have hok : ∀ v ∈ As, okv v := fun v hv => hst v (by simp [hv])
  have e0 : ((As.reverse ++ st).map (cv g)) = (As.map (cv g)).reverse ++ st.map (cv g) := by
    rw [List.map_append, List.map_reverse]
  rw [e0]
  have hst' : ∀ v ∈ st, okv v := fun v hv => hst v (by simp [hv])
  have hgood : GoodIn Tbl (va_wsS M.1.cls idx N.1 (wsM N)) := good_Tbl (by
    intro w hw2
    unfold va_wsS at hw2
    rcases List.mem_append.mp hw2 with h1 | h1
    · simp only [List.mem_cons, List.not_mem_nil, or_false] at h1
      rcases h1 with rfl | rfl | rfl
      · exact hw
      · exact n2'
      · exact n4'
    · exact wsM_in n1' w h1)
  refine LN_ran (N := N) (n' := n) (as := (As.map (cv g)).toArray) cx hn (Nat.le_refl _) hl hL hst' ?_
  exact va_runS (Ts := Tbl) (nL := M.2.2.1) (As := As.map (cv g)) (rest := st.map (cv g)) ⟨cx.1.1, cx.1.2.1, cx.1.2.2.1, cx.1.2.2.2.2.2.1, hts⟩ (h l g)
    (va_cwS k hts hgood rfl rfl rfl n6' ⟨Nat.le_refl _, by show 8 + (N.2.2.1 + 11) + 40 * d ≤ 40 * (d + 1); omega⟩)
    ⟨PN_blind g _ _ _, fun U hU hW => ⟨rfl, hok, by rw [hU]; exact hR, cx.2.1.warm hW⟩⟩
    rfl (by rw [List.length_map]; exact hk) (hL.1.1) rfl (by show 2 * 0 + _ ≤ 8; rw [cat_sum]; omega) hd ⟨by show _ ≤ n1 - n0; omega, by show _ ≤ 3440 * (n1 - n0); omega⟩
theorem LN_return {σ' : SG} (hn197 : n1 ≤ 197) (hr : M.2.2.2 = none) (hd : decode M.2.1 pc = .ok (.return_, 1)) (hcg : ∀ b : Nat, b < n1 → ∀ j : Nat, j < (kdn b).2 → σ b j = σ' b j) (h : Q σ') : LN d n0 n1 M pc ls [] n1 σ Q := by
  intro l g p e s m args below meth c H locs A cx hn hR hl hL hst
  have hlocks : meth.locks = false := cx.1.2.2.2.2.1
  exact W.vret cx.1.1 cx.1.2.1 (by rw [cx.1.2.2.2.1, hr]) (fun t ht _ => ⟨σ', rfl, by rw [ht]; exact RN_cg hR hn197 hcg, h⟩) hl hd hlocks
theorem TN_intro {args : List AV} (hp : plainName M.1.cls = true) (hlen : (ent args).length ≤ M.2.2.1) (hls : ent args ++ List.replicate (M.2.2.1 - (ent args).length) vU = ls) (h : LN d n0 n1 M 0 ls [] n0 σ Q) : TN d n0 n1 M args σ Q := by
  intro l g
  refine Met.ofW (cc := M.2.1) (maxL := M.2.2.1) (ret := M.2.2.2) hp rfl ?_
  intro p e s m as below meth c s₁ B hml hv
  obtain ⟨rfl, hok, hR, hK⟩ := hv
  have hts := atoms_spec (ws := wsM M) B.pre
  have hl := lv_entry (args.map (cv g)) (n := M.2.2.1) (by rw [ent_len]; exact hlen)
  rw [lg_entry_eq]
  have e1 : n0 - n0 = 0 := by omega
  have go := h l g p e s m _ below meth c s.heap [] (lg_sl (args.map (cv g)) ++ List.replicate (M.2.2.1 - (lg_sl (args.map (cv g))).length) Slot.unset).toArray ⟨⟨B.exec, B.bytes, hml, B.returns, B.notSynchronized, findClass_of_methodNamed B.named, fun w hw => hts w (List.mem_cons_of_mem _ hw), hK.1, by rw [hR.2.1]; omega, hR.2.2⟩, hK, (name_of_methodNamed B.named B.method).1, hR.2.1⟩ (Nat.le_refl _) hR (fun q hq => by cases hq) ⟨⟨hl.1, hl.2.1, fun q hq => hl.2.2 q ?_⟩, ?_⟩ (fun v hv => by cases hv)
  · rw [e1] at go
    exact go
  · rw [← hls] at hq
    exact ent_kn g _ args 0 q hq
  · rw [← hls]
    exact ent_ok _ hok
end LNR
