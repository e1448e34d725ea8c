/-! ===== the heap while it is laid: its first n cells ===== -/
def wsN (g : GG) (n : Nat) (σ : SG) : va_W := (List.range n).map (fun a => (gB g + a, celK g (σ a) (kdn a)))
def RN (g : GG) (n : Nat) (σ : SG) (H : Heap) : Prop := va_P (gD g) classes (wsN g n σ) H ∧ H.size = gB g + n ∧ ∀ q : Nat, q < gB g → H[q]? = (gH g)[q]?
theorem wsN_at {g : GG} {n : Nat} {σ : SG} {a : Nat} (h : a < n) : (wsN g n σ)[a]? = some (gB g + a, celK g (σ a) (kdn a)) := by
  unfold wsN
  rw [List.getElem?_map, List.getElem?_range h]
  rfl
theorem wsN_len {g : GG} {n : Nat} {σ : SG} : (wsN g n σ).length = n := by unfold wsN; simp
theorem wsN_of {g : GG} {n : Nat} {σ : SG} {i : Nat} {q : Nat × va_E} (h : (wsN g n σ)[i]? = some q) : i < n ∧ q.1 = gB g + i := by
  have h1 : i < n := by
    have := (List.getElem?_eq_some_iff.mp h).1
    rw [wsN_len] at this
    exact this
  rw [wsN_at h1] at h
  cases h
  exact ⟨h1, rfl⟩
theorem wsN_D (g : GG) (n : Nat) (σ : SG) : va_D (Ag g) (wsN g n σ) := by
  refine ⟨fun i j x y hi hj hxy => ?_, fun k q hk => ?_⟩
  · have h1 := (wsN_of hi).2
    have h2 := (wsN_of hj).2
    omega
  · have h1 := (wsN_of hk).2
    show gB g ≤ q.1
    omega
theorem wsN_up {g : GG} {n : Nat} {σ : SG} {a : Nat} {k v : Int} (h : a < n) : (wsN g n σ).set a (gB g + a, celK g (up σ a k v a) (kdn a)) = wsN g n (up σ a k v) := by
  apply List.ext_getElem?
  intro i
  by_cases hi : i = a
  · subst hi
    rw [List.getElem?_set_self (by rw [wsN_len]; exact h), wsN_at h]
  · rw [List.getElem?_set_ne (Ne.symm hi)]
    by_cases h2 : i < n
    · rw [wsN_at h2, wsN_at h2]
      have e : up σ a k v (i : Int) = σ (i : Int) := by
        funext j
        unfold up
        rw [if_neg (by omega)]
      rw [e]
    · rw [List.getElem?_eq_none (by rw [wsN_len]; omega), List.getElem?_eq_none (by rw [wsN_len]; omega)]
/-- a new cell: 0, null -/
def bl (σ : SG) (n : Nat) : SG := fun b j => if b = (n : Int) then (if ktg (kdn n) j.toNat = 2 then -1 else 0) else σ b j
theorem bl_ne {σ : SG} {n : Nat} {b j : Int} (h : b ≠ n) : bl σ n b j = σ b j := by unfold bl; rw [if_neg h]
theorem wsN_bl {g : GG} {n : Nat} {σ : SG} : wsN g (n + 1) (bl σ n) = wsN g n σ ++ [(gB g + n, celK g (bl σ n n) (kdn n))] := by
  unfold wsN
  rw [List.range_succ, List.map_append]
  congr 1
  apply List.map_congr_left
  intro a ha
  have ha2 := List.mem_range.mp ha
  have e : bl σ n (a : Int) = σ (a : Int) := by
    funext j
    exact bl_ne (by omega)
  rw [e]
/-- what stands in the cells is all that counts -/
theorem celK_cg {g : GG} {f f' : Int → Int} {k : Nat × Nat} (hk : k.1 < 13 ∨ (100 ≤ k.1 ∧ k.1 ≤ 106)) (D : va_G) (cl : List vw_C) (b : Nat) (H : Heap) (h : ∀ j : Nat, j < k.2 → f j = f' j) (hv : va_at D cl (b, celK g f k) H) : va_at D cl (b, celK g f' k) H := by
  obtain ⟨c, n⟩ := k
  simp only at h hk
  have arr : ∀ (cA : ClassId) (F G : Nat → Value), (∀ j, j < n → F j = G j) → arrV cA n F = arrV cA n G := by
    intro cA F G hFG
    have e : (Array.ofFn (n := n) fun j => F j.val) = Array.ofFn (n := n) fun j => G j.val := by
      congr 1
      funext j
      exact hFG j.val j.isLt
    show ({ cls := cA, slots := Array.ofFn (n := n) fun j => F j.val, vm := .none } : Cell) = { cls := cA, slots := Array.ofFn (n := n) fun j => G j.val, vm := .none }
    rw [e]
  by_cases hc : c < 13
  · rw [celK_obj hc] at hv ⊢
    have e : (List.range n).map (fun j => cv g (ftg c j, f j)) = (List.range n).map (fun j => cv g (ftg c j, f' j)) := by
      apply List.map_congr_left
      intro j hj
      rw [h j (List.mem_range.mp hj)]
    simp only at hv ⊢
    rw [← e]
    exact hv
  · have h2 : c = 100 ∨ c = 101 ∨ c = 102 ∨ c = 103 ∨ c = 104 ∨ c = 105 ∨ c = 106 := by omega
    have hv' : H[b]? = some (match celK g f (c, n) with
      | .inl a => vp_cell a.1 a.2
      | .inr _ => arrV 0 0 (fun _ => .null)) := by
      rcases h2 with rfl | rfl | rfl | rfl | rfl | rfl | rfl <;> exact hv
    rcases h2 with rfl | rfl | rfl | rfl | rfl | rfl | rfl
    · exact hv'.trans (congrArg some (arr (gC g 0) _ _ (fun j hj => congrArg (fun x => Value.int (Int32.ofInt x)) (h j hj))))
    · exact hv'.trans (congrArg some (arr (gC g 1) _ _ (fun j hj => congrArg (fun x => Value.long (Int64.ofInt x)) (h j hj))))
    · exact hv'.trans (congrArg some (arr (gC g 2) _ _ (fun j hj => congrArg (fun x => Value.int (Int32.ofInt x)) (h j hj))))
    · exact hv'.trans (congrArg some (arr (gC g 3) _ _ (fun j hj => congrArg (fun x => Value.int (Int32.ofInt x)) (h j hj))))
    · exact hv'.trans (congrArg some (arr (gC g 4) _ _ (fun j hj => congrArg (fun x => va_rf (rfo g x)) (h j hj))))
    · exact hv'.trans (congrArg some (arr (gC g 5) _ _ (fun j hj => congrArg (fun x => va_rf (rfo g x)) (h j hj))))
    · exact hv'.trans (congrArg some (arr (gC g 6) _ _ (fun j hj => congrArg (fun x => va_rf (rfo g x)) (h j hj))))
theorem kf_cls {a : Nat} (h : a < 197) : (kdn a).1 < 13 ∨ (100 ≤ (kdn a).1 ∧ (kdn a).1 ≤ 106) := (kf_ok a h).imp (fun q => q.1) (fun q => q)
theorem RN_cg {g : GG} {n : Nat} {σ σ' : SG} {H : Heap} (hR : RN g n σ H) (hn : n ≤ 197) (h : ∀ b : Nat, b < n → ∀ j : Nat, j < (kdn b).2 → σ b j = σ' b j) : RN g n σ' H := by
  refine ⟨fun k q hk => ?_, hR.2⟩
  obtain ⟨h1, -⟩ := wsN_of hk
  rw [wsN_at h1] at hk
  cases hk
  exact celK_cg (kf_cls (by omega)) _ _ _ _ (h k h1) (hR.1 k _ (wsN_at h1))
/-- constructors of nest mates; arrays of our own objects -/
def nestI : List (String × Nat × MethodName) := [("BracketRoom$Desk", 11, ⟨"BracketRoom$World", "<init>", "()V"⟩), ("BracketRoom$Desk", 24, ⟨"BracketRoom$Script", "<init>", "()V"⟩), ("BracketRoom", 47, ⟨"BracketRoom$Tokens", "<init>", "()V"⟩), ("BracketRoom", 66, ⟨"BracketRoom$Anatomy", "<init>", "()V"⟩), ("BracketRoom$Anatomy", 37, ⟨"BracketRoom$SpanWalk", "<init>", "()V"⟩), ("BracketRoom", 73, ⟨"BracketRoom$Measures", "<init>", "()V"⟩), ("BracketRoom$MapSearch", 32, ⟨"BracketRoom$World", "<init>", "()V"⟩), ("BracketRoom", 87, ⟨"BracketRoom$Workshop", "<init>", "()V"⟩), ("BracketRoom$Workshop", 11, ⟨"BracketRoom$World", "<init>", "()V"⟩), ("BracketRoom", 94, ⟨"BracketRoom$Runner", "<init>", "()V"⟩)]
def aoL : List String := ["BracketRoom$World", "BracketRoom$Desk", "BracketRoom$Echelon"]
def KN (g : GG) (U : State) : Prop := KK g U ∧ (∀ q ∈ nestI, va_Nw (.methodLinkNest q.1 q.2.1 q.2.2 "BracketRoom") U) ∧ ∀ C ∈ aoL, va_AO C U
theorem KN.warm {g : GG} {s U : State} (hW : s.WarmedH U.vm) (h : KN g s) : KN g U := ⟨h.1.warm hW, fun q hq => va_Nw.warmM hW (h.2.1 q hq), fun C hC => (h.2.2 C hC).moved hW.alike⟩
theorem KN.same {g : GG} {s U : State} (hv : U.vm = s.vm) (h : KN g s) : KN g U := ⟨h.1.same hv, fun q hq => va_Nw.same rfl hv.symm (h.2.1 q hq), fun C hC => (h.2.2 C hC).moved (by rw [hv]; exact Vm.Alike.refl _)⟩
def rmn (d k : Nat) : Room := { frames := d, cells := k, slots := 3440 * k, locals := 40 * d }
def QN (g : GG) (n : Nat) (Q : SG → Prop) : Array Value → State → Outcome → State → Prop := fun _ _ o u => ∃ σ : SG, o = .returned none ∧ RN g n σ u.heap ∧ Q σ
def PNc (g : GG) (args : List AV) (n : Nat) (σ : SG) : Array Value → State → Prop := fun v U => v = (args.map (cv g)).toArray ∧ (∀ a ∈ args, okv a) ∧ RN g n σ U.heap ∧ KN g U
/-- a constructor's contract: cells n0 to n1 come -/
def TN (d n0 n1 : Nat) (M : MR) (args : List AV) (σ : SG) (Q : SG → Prop) : Prop := ∀ (l : Launch) (g : GG), Met l M.1 (wsM M) (rmn d (n1 - n0)) (PNc g args n0 σ) (QN g n1 Q) (n1 - n0) (3440 * (n1 - n0)) (Ag g)
theorem TN.mono {d n0 n1 : Nat} {M : MR} {args : List AV} {σ : SG} {Q Q' : SG → Prop} (h : TN d n0 n1 M args σ Q) (hq : ∀ σ', Q σ' → Q' σ') : TN d n0 n1 M args σ Q' := by
  intro l g p e a1 a2 a3 s m args below a4 a5 a6 a7
  obtain ⟨k, o, h1, h2, h3, hQ⟩ := h l g p e a1 a2 a3 s m args below a4 a5 a6 a7
  obtain ⟨⟨σ', q1, q3, q4⟩, q5⟩ := hQ
  exact ⟨k, o, h1, h2, h3, ⟨σ', q1, q3, hq _ q4⟩, q5⟩
def CN (g : GG) (M : MR) (n0 : Nat) (p : Program) (s : State) (m : MethodId) (args : Array Value) (meth : Method) (c : Code) : Prop := CX g M p s m args meth c ∧ KN g s ∧ meth.name = M.1.name ∧ s.heap.size = gB g + n0
def LN (d n0 n1 : Nat) (M : MR) (pc : Nat) (ls st : List AV) (n : Nat) (σ : SG) (Q : SG → Prop) : Prop :=
  ∀ (l : Launch) (g : GG) (p : Program) (e : Env) (s : State) (m : MethodId) (args : Array Value) (below : List Frame) (meth : Method) (c : Code) (H : Heap) (locs : List Loc) (A : Array Slot),
    CN g M n0 p s m args meth c → n0 ≤ n → RN g n σ H → (∀ q ∈ locs, Ag g q.base) → Lo g M.2.2.1 ls A → (∀ v ∈ st, okv v) →
    W p l e (rmn d (n1 - n0)) s m args below meth c H locs (n - n0) (3440 * (n - n0)) (MQ below (QN g n1 Q) args s (n1 - n0) (3440 * (n1 - n0)) (Ag g)) (F0 m pc A (st.map (cv g)))
theorem RN_S {g : GG} {n n0 : Nat} {M : MR} {p : Program} {s : State} {m : MethodId} {args : Array Value} {meth : Method} {c : Code} {σ : SG} {H : Heap} {locs : List Loc} (cx : CX g M p s m args meth c) (hz : s.heap.size = gB g + n0) (hn : n0 ≤ n) (hR : RN g n σ H) (hl : ∀ q ∈ locs, Ag g q.base) : va_S (Ag g) s.heap H locs := by
  refine ⟨by rw [hz, hR.2.1]; omega, fun q _ hq => ?_, hl⟩
  have hq2 : q < gB g := Nat.not_le.mp hq
  rw [hR.2.2 q hq2, cx.2.2.2.2.2.2.2.2.2 q hq2]
/-- behind a store -/
theorem RN_put {g : GG} {n n0 : Nat} {M : MR} {p : Program} {s : State} {m : MethodId} {args : Array Value} {meth : Method} {c : Code} {σ : SG} {H H1 : Heap} {locs : List Loc} {a : Nat} {k : Nat} {v : Int} (cx : CX g M p s m args meth c) (hz : s.heap.size = gB g + n0) (hR : RN g n σ H) (hz1 : H1.size = H.size) (ha : a < n) (hP : va_P (gD g) classes ((wsN g n σ).set a (gB g + a, celK g (up σ a k v a) (kdn a))) H1) (hS : va_S (Ag g) s.heap H1 locs) : RN g n (up σ a k v) H1 := by
  rw [wsN_up ha] at hP
  refine ⟨hP, by rw [hz1, hR.2.1], fun q hq => ?_⟩
  rw [hS.2.1 q (by omega) (Nat.not_le.mpr hq), cx.2.2.2.2.2.2.2.2.2 q hq]
theorem dv_tg {t : FieldType} {g : GG} (h1 : t ≠ .float) (h2 : t ≠ .double) : defaultValue t = cv g (tg t, if tg t = 2 then -1 else 0) := by
  cases t <;> first | rfl | exact absurd rfl h1 | exact absurd rfl h2
theorem cty_nf : ∀ ci, ci < 13 → ∀ j, j < 71 → cty ci j ≠ .float ∧ cty ci j ≠ .double := by decide +kernel
theorem cls_N : ∀ (ci : Nat) (q : vw_C), classes[ci]? = some q → ci < 13 ∧ q.2.2 ≤ 71 := by
  intro ci q h
  match ci with
  | 0 => cases h; decide
  | 1 => cases h; decide
  | 2 => cases h; decide
  | 3 => cases h; decide
  | 4 => cases h; decide
  | 5 => cases h; decide
  | 6 => cases h; decide
  | 7 => cases h; decide
  | 8 => cases h; decide
  | 9 => cases h; decide
  | 10 => cases h; decide
  | 11 => cases h; decide
  | 12 => cases h; decide
  | n + 13 => cases h
section WN
variable {p : Program} {l : Launch} {e : Env} {R : Room} {s : State} {m : MethodId} {args : Array Value} {below : List Frame} {meth : Method} {c : Code} {H : Heap} {locs : List Loc} {cells slots : Nat} {Qw : State → Prop} {g : GG} {M : MR} {n pc : Nat} {σ : SG} {A : Array Slot} {st : List Value}
/-- the heap behind a making -/
theorem RN_push {H1 : Heap} (hR : RN g n σ H) (z1 : H1.size = gB g + n + 1) (o1 : ∀ q : Nat, q < gB g + n → H1[q]? = H[q]?) (hv : va_at (gD g) classes (gB g + n, celK g (bl σ n n) (kdn n)) H1) : RN g (n + 1) (bl σ n) H1 := by
  refine ⟨?_, by rw [z1]; omega, fun q hq => by rw [o1 q (by omega), hR.2.2 q hq]⟩
  rw [wsN_bl]
  refine (hR.1.kept (fun k x hx => o1 x.1 ?_)).app (fun k x hx => ?_)
  · obtain ⟨h1, h2⟩ := wsN_of hx
    omega
  · have hz : k < 1 := (List.getElem?_eq_some_iff.mp hx).1
    rw [show k = 0 by omega] at hx
    cases hx
    exact hv
theorem W_new {idx ci N : Nat} {C : String} {T : u_T} (cx : CX g M p s m args meth c) (hR : RN g n σ H) (hc : classes[ci]? = some (C, T, N)) (hk : kdn n = (ci, N)) (w1 : Cond.classLink M.1.cls idx C ∈ Tbl) (w2 : Cond.instantiable C N ∈ Tbl) (w3 : Cond.initialized C ∈ Tbl) (hcells : cells + 1 ≤ R.cells) (hslots : slots + N ≤ R.slots) (hd : decode M.2.1 pc = .ok (.new idx, 3))
    (h : ∀ H1 : Heap, RN g (n + 1) (bl σ n) H1 → W p l e R s m args below meth c H1 locs (cells + 1) (slots + N) Qw (F0 m (pc + 3) A (.ref (gB g + n) :: st))) : W p l e R s m args below meth c H locs cells slots Qw (F0 m pc A st) := by
  have hts := cx.2.2.2.2.2.2.1
  have hKn := cx.2.2.2.2.2.2.2.1.1.1 ci _ hc
  obtain ⟨hci, hN⟩ := cls_N ci _ hc
  refine W.newcK cx.1 cx.2.1 cx.2.2.2.2.2.1 (hts _ w1) (hts _ w2) (hts _ w3) rfl hd hcells hslots hKn.2.1 hR.2.1 fun H1 kC hkC e1 z1 o1 => ?_
  refine h H1 (RN_push hR z1 o1 ?_)
  rw [hk, celK_obj hci]
  refine ⟨_, hc, (u_born (cty ci) hts (cls_tbl ci _ hc) hKn hkC e1 (cls_ty ci _ hc).1).to (fun j hj => ?_)⟩
  have hj71 : j < 71 := Nat.lt_of_lt_of_le hj hN
  have e2 : vp_V ((List.range N).map (fun j => cv g (ftg ci j, bl σ n n j))) j = cv g (ftg ci j, bl σ n n j) := by
    unfold vp_V
    rw [List.getD_eq_getElem?_getD, List.getElem?_map, List.getElem?_range hj]
    rfl
  show defaultValue (cty ci j) = vp_V ((List.range N).map (fun j => cv g (ftg ci j, bl σ n n j))) j
  rw [e2, dv_tg (g := g) (cty_nf ci hci j hj71).1 (cty_nf ci hci j hj71).2]
  show cv g (ftg ci j, if ftg ci j = 2 then -1 else 0) = _
  unfold bl
  rw [if_pos rfl, hk, ktg_obj hci]
  simp
theorem bl_arr {t N : Nat} (hk : kdn n = (t, N)) (ht : 100 ≤ t ∧ t ≤ 103) (j : Int) : bl σ n n j = 0 := by
  unfold bl
  rw [if_pos rfl, hk]
  have h2 : t = 100 ∨ t = 101 ∨ t = 102 ∨ t = 103 := by omega
  rcases h2 with rfl | rfl | rfl | rfl <;> rfl
theorem W_newA {N C0 : Nat} {at' : ArrayType} {ty : FieldType} {x : Int} {a0 : vp_A} (cx : CX g M p s m args meth c) (hR : RN g n σ H) (hty : newarray.typeOf at' = ty) (hA : (tysA g)[C0]? = some (gC g C0, ty)) (hra : ∀ cA : ClassId, va_RA s cA ty → s.vm.findClass ("[" ++ ty.toString) = some cA) (hx : x = N) (hN : N ≤ 3440) (w1 : Cond.arrayClass ty ∈ Tbl) (hb : componentBytes ty ≤ 8)
    (hcel : celK g (bl σ n n) (kdn n) = .inl (gC g C0, a0)) (hnew : ∀ cA : ClassId, vp_cell cA a0 = arrV cA N (fun _ => defaultValue ty)) (hcells : cells + 1 ≤ R.cells) (hslots : slots + N ≤ R.slots) (hd : decode M.2.1 pc = .ok (.newarray at', 2))
    (h : ∀ H1 : Heap, RN g (n + 1) (bl σ n) H1 → W p l e R s m args below meth c H1 locs (cells + 1) (slots + N) Qw (F0 m (pc + 2) A (.ref (gB g + n) :: st))) : W p l e R s m args below meth c H locs cells slots Qw (F0 m pc A (.int (Int32.ofInt x) :: st)) := by
  subst hty
  subst hx
  have hi : inI (N : Int) := by unfold inI; omega
  have hts := cx.2.2.2.2.2.2.1
  have hK2 := (cx.2.2.2.2.2.2.2.1.1.2 C0 _ hA).2
  have hm : N * componentBytes (newarray.typeOf at') ≤ 3440 * 8 := Nat.mul_le_mul hN hb
  refine va_newaK cx.1 cx.2.1 (hts _ w1) rfl hd rfl (fun q => ?_) (by rw [clamp32 hi]; simp) (by omega) hcells hslots hR.2.1 fun H1 cA e1 z1 o1 hAr hNm => ?_
  · rw [zero32, lt32 hi in0] at q; omega
  · have hcA : cA = gC g C0 := Option.some.inj (hNm.symm.trans (hra _ hK2))
    subst hcA
    refine h H1 (RN_push hR z1 o1 ?_)
    rw [hcel]
    show H1[gB g + n]? = some (vp_cell (gC g C0) a0)
    rw [hnew]
    exact e1
theorem W_newQ {N C0 idx : Nat} {C : String} {x : Int} (cx : CX g M p s m args meth c) (hN2 : KN g s) (hR : RN g n σ H) (hA : (tysA g)[C0]? = some (gC g C0, .object C)) (hC : C ∈ aoL) (hk : kdn n = (100 + C0, N)) (hC0 : 4 ≤ C0 ∧ C0 ≤ 6) (hx : x = N) (hN : N ≤ 3440) (w1 : Cond.classLink M.1.cls idx C ∈ Tbl) (hcells : cells + 1 ≤ R.cells) (hslots : slots + N ≤ R.slots) (hd : decode M.2.1 pc = .ok (.anewarray idx, 3))
    (h : ∀ H1 : Heap, RN g (n + 1) (bl σ n) H1 → W p l e R s m args below meth c H1 locs (cells + 1) (slots + N) Qw (F0 m (pc + 3) A (.ref (gB g + n) :: st))) : W p l e R s m args below meth c H locs cells slots Qw (F0 m pc A (.int (Int32.ofInt x) :: st)) := by
  subst hx
  have hi : inI (N : Int) := by unfold inI; omega
  have hcl : (Int32.ofInt (N : Int)).toNatClampNeg = N := by rw [clamp32 hi]; simp
  have hts := cx.2.2.2.2.2.2.1
  obtain ⟨kA0, comp0, -, -, -, hname⟩ := (cx.2.2.2.2.2.2.2.1.1.2 C0 _ hA).2
  refine W.anew cx.1 cx.2.1 cx.2.2.2.2.2.1 (hts _ w1) (va_AO.use (hN2.2.2 C hC)) rfl hd rfl (fun q => ?_) (by rw [hcl]; omega) hcells (by rw [hcl]; exact hslots) fun cA kA comp f1 f2 f3 f4 => ?_
  · rw [zero32, lt32 hi in0] at q; omega
  · have hcA : cA = gC g C0 := Option.some.inj (f1.symm.trans hname)
    subst hcA
    rw [hcl]
    generalize hH1 : H.push ({ cls := gC g C0, slots := Array.replicate N .null, vm := .none } : Cell) = H1
    have z1 : H1.size = H.size + 1 := by rw [← hH1, Array.size_push]
    have e1 : H1[H.size]? = some (arrV (gC g C0) N (fun _ => .null)) := by rw [← hH1, Array.getElem?_push_size, ← arrV_new]
    have o1 : ∀ q : Nat, q < H.size → H1[q]? = H[q]? := fun q hq => by rw [← hH1, Array.getElem?_push, if_neg (Nat.ne_of_lt hq)]
    have hsz := hR.2.1
    have hcel : celK g (bl σ n n) (kdn n) = .inl (gC g C0, N, .inr (.inr (.inr (.inr (fun j => rfo g (bl σ n n j)))))) := by
      rw [hk, celK_ref (by simp only; omega) (by simp only; omega)]
      simp only [show 100 + C0 - 100 = C0 by omega]
    have hv : va_at (gD g) classes (gB g + n, celK g (bl σ n n) (kdn n)) H1 := by
      rw [hcel]
      show H1[gB g + n]? = some (vp_cell (gC g C0) (N, .inr (.inr (.inr (.inr (fun j => rfo g (bl σ n n j)))))))
      rw [vp_cell_q, ← hsz, e1]
      congr 2
      funext j
      have : bl σ n n j = -1 := by
        unfold bl
        rw [if_pos rfl, hk]
        have h2 : C0 = 4 ∨ C0 = 5 ∨ C0 = 6 := by omega
        rcases h2 with rfl | rfl | rfl <;> rfl
      rw [this]
      rfl
    have hgo := h H1 (RN_push hR (by rw [z1, hsz]) (fun q hq => o1 q (by rw [hsz]; exact hq)) hv)
    rw [← hsz] at hgo
    exact hgo
end WN
