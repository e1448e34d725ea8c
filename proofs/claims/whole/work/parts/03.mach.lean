/-! ===== the machine, told in whole numbers: values (tag, number), a heap as a function of cell and place ===== -/
abbrev AV : Type := Nat × Int
abbrev SG : Type := Int → Int → Int
abbrev MR : Type := MethodName × ByteArray × Nat × Option FieldType
abbrev vI (x : Int) : AV := (0, x)
abbrev vJ (x : Int) : AV := (1, x)
abbrev vA (x : Int) : AV := (2, x)
abbrev vU : AV := (9, 0)
def w32 (x : Int) : Int := (Int32.ofInt x).toInt
def w64 (x : Int) : Int := (Int64.ofInt x).toInt
def inI (x : Int) : Prop := -2147483648 ≤ x ∧ x < 2147483648
def inJ (x : Int) : Prop := -9223372036854775808 ≤ x ∧ x < 9223372036854775808
def okv (v : AV) : Prop := match v.1 with
  | 0 => inI v.2
  | 1 => inJ v.2
  | _ => True
theorem w32_id {x : Int} (h1 : -2147483648 ≤ x) (h2 : x < 2147483648) : w32 x = x := Int32.toInt_ofInt_of_le h1 h2
theorem w64_id {x : Int} (h1 : -9223372036854775808 ≤ x) (h2 : x < 9223372036854775808) : w64 x = x := Int64.toInt_ofInt_of_le h1 h2
theorem w32_in (x : Int) : inI (w32 x) := ⟨Int32.le_toInt _, Int32.toInt_lt _⟩
theorem w64_in (x : Int) : inJ (w64 x) := ⟨Int64.le_toInt _, Int64.toInt_lt _⟩
theorem of_w32 (x : Int) : Int32.ofInt (w32 x) = Int32.ofInt x := Int32.ofInt_toInt _
theorem of_w64 (x : Int) : Int64.ofInt (w64 x) = Int64.ofInt x := Int64.ofInt_toInt _
theorem to32 {x : Int} (h : inI x) : (Int32.ofInt x).toInt = x := w32_id h.1 h.2
theorem to64 {x : Int} (h : inJ x) : (Int64.ofInt x).toInt = x := w64_id h.1 h.2
theorem lt32 {x y : Int} (hx : inI x) (hy : inI y) : Int32.ofInt x < Int32.ofInt y ↔ x < y := by
  rw [Int32.lt_iff_toInt_lt, to32 hx, to32 hy]
theorem le32 {x y : Int} (hx : inI x) (hy : inI y) : Int32.ofInt x ≤ Int32.ofInt y ↔ x ≤ y := by
  rw [Int32.le_iff_toInt_le, to32 hx, to32 hy]
theorem eq32 {x y : Int} (hx : inI x) (hy : inI y) : Int32.ofInt x = Int32.ofInt y ↔ x = y := by
  rw [← Int32.toInt_inj, to32 hx, to32 hy]
theorem zero32 : (0 : Int32) = Int32.ofInt 0 := by decide
theorem in0 : inI 0 := ⟨by decide, by decide⟩
theorem clamp32 {x : Int} (h : inI x) : (Int32.ofInt x).toNatClampNeg = x.toNat := Int32.toNatClampNeg_ofInt_of_le h.1 h.2
/-- cells, their makers' numbers; the heap before all; where UNITS and the String constants lie -/
abbrev GG : Type := Nat × va_G × (Nat → ClassId) × Heap × Nat × (Nat → Nat) × (Nat → Nat)
abbrev gB (g : GG) : Nat := g.1
abbrev gD (g : GG) : va_G := g.2.1
abbrev gC (g : GG) : Nat → ClassId := g.2.2.1
abbrev gH (g : GG) : Heap := g.2.2.2.1
abbrev gU (g : GG) : Nat := g.2.2.2.2.1
abbrev gK (g : GG) : Nat → Nat := g.2.2.2.2.2.1
abbrev gV (g : GG) : Nat → Nat := g.2.2.2.2.2.2
def Ag (g : GG) : Nat → Prop := fun q => gB g ≤ q
/-- a reference: our cells from 0 on, -1 null, -2 UNITS, -10 and below the String constants -/
def cr (g : GG) (x : Int) : Value := if 0 ≤ x then .ref (gB g + x.toNat) else if x = -1 then .null else if x = -2 then .ref (gU g) else .ref (gK g (-10 - x).toNat)
def cv (g : GG) (v : AV) : Value := match v.1 with
  | 0 => .int (Int32.ofInt v.2)
  | 1 => .long (Int64.ofInt v.2)
  | _ => cr g v.2
def tg (t : FieldType) : Nat := match t with
  | .long => 1
  | .object _ => 2
  | .array _ => 2
  | _ => 0
def ftg (c j : Nat) : Nat := tg (cty c j)
def rfo (g : GG) (x : Int) : Option Nat := if 0 ≤ x then some (gB g + x.toNat) else none
def celK (g : GG) (f : Int → Int) (k : Nat × Nat) : va_E := match k.1 with
  | 100 => .inl (gC g 0, k.2, .inl (fun j => Int32.ofInt (f j)))
  | 101 => .inl (gC g 1, k.2, .inr (.inl (fun j => Int64.ofInt (f j))))
  | 102 => .inl (gC g 2, k.2, .inl (fun j => Int32.ofInt (f j)))
  | 103 => .inl (gC g 3, k.2, .inl (fun j => Int32.ofInt (f j)))
  | 104 => .inl (gC g 4, k.2, .inr (.inr (.inr (.inr (fun j => rfo g (f j))))))
  | 105 => .inl (gC g 5, k.2, .inr (.inr (.inr (.inr (fun j => rfo g (f j))))))
  | 106 => .inl (gC g 6, k.2, .inr (.inr (.inr (.inr (fun j => rfo g (f j))))))
  | c => .inr (c, (List.range k.2).map (fun j => cv g (ftg c j, f j)))
def kdn (a : Nat) : Nat × Nat := KF.getD a (999, 0)
def kd (a : Int) : Nat × Nat := if 0 ≤ a then kdn a.toNat else if a = -2 then (100, 25) else (999, 0)
def wsO (g : GG) (σ : SG) : va_W := (List.range KF.length).map (fun a => (gB g + a, celK g (σ a) (kdn a)))
/-- the tag of a cell's place -/
def ktg (k : Nat × Nat) (j : Nat) : Nat := match k.1 with
  | 100 => 0
  | 101 => 1
  | 102 => 0
  | 103 => 0
  | 104 => 2
  | 105 => 2
  | 106 => 2
  | c => ftg c j
def unitv (j : Int) : Int := if j / 5 = j % 5 then 1 else 0
def Rng (σ : SG) : Prop := ∀ a j : Nat, okv (ktg (kdn a) j, σ a j)
/-- final references stand where they were laid -/
def Fin2 (σ : SG) : Prop := ∀ a j : Nat, (∀ o, fo (kdn a).1 j = some o → σ a j = a + o) ∧ (∀ o, ao (kdn a).1 = some o → j < (kdn a).2 → σ a j = a + o.1 + o.2 * j)
def Rp (g : GG) (σ : SG) (H : Heap) : Prop := va_P (gD g) classes (wsO g σ) H ∧ (∀ q : Nat, q < gB g → H[q]? = (gH g)[q]?) ∧ Rng σ ∧ (∀ j : Nat, j < 25 → σ (-2) j = unitv j) ∧ Fin2 σ
def RS (g : GG) (σ : SG) (s : State) (H : Heap) : Prop := Rp g σ H ∧ s.heap.size ≤ H.size
def tysA (g : GG) : List (ClassId × FieldType) := [(gC g 0, .int), (gC g 1, .long), (gC g 2, .byte), (gC g 3, .boolean), (gC g 4, .object "BracketRoom$Desk"), (gC g 5, .object "BracketRoom$World"), (gC g 6, .object "BracketRoom$Echelon")]
def nestM : List (String × Nat × MethodName) := [("BracketRoom$World", 22, ⟨"BracketRoom", "sizeLimit", "(I)I"⟩), ("BracketRoom$World", 50, ⟨"BracketRoom", "mod", "(II)I"⟩), ("BracketRoom$World", 47, ⟨"BracketRoom", "raised", "(II)I"⟩), ("BracketRoom$Echelon", 68, ⟨"BracketRoom", "inverse", "(II)I"⟩), ("BracketRoom$Echelon", 71, ⟨"BracketRoom", "mod", "(II)I"⟩), ("BracketRoom$Measures", 52, ⟨"BracketRoom", "mod", "(II)I"⟩), ("BracketRoom$Anatomy", 152, ⟨"BracketRoom", "raised", "(II)I"⟩), ("BracketRoom$MapSearch", 116, ⟨"BracketRoom", "mod", "(II)I"⟩), ("BracketRoom$Workshop", 107, ⟨"BracketRoom", "sizeLimit", "(I)I"⟩), ("BracketRoom$MapSearch", 127, ⟨"BracketRoom", "raised", "(II)I"⟩), ("BracketRoom$Workshop", 95, ⟨"BracketRoom", "mod", "(II)I"⟩)]
def nestF : List (String × Nat) := [("BracketRoom$Anatomy", 103), ("BracketRoom$Echelon", 47), ("BracketRoom$SpanWalk", 69), ("BracketRoom$Measures", 60), ("BracketRoom$Workshop", 86)]
/-- the String constants: class, entry, text, which of the eleven -/
def strW : List (String × Nat × String × Nat) := [("BracketRoom$World", 76, "prime", 0), ("BracketRoom$World", 101, "size", 1), ("BracketRoom$World", 117, "bracket", 2), ("BracketRoom$World", 119, "gives", 3), ("BracketRoom$World", 124, "less", 4), ("BracketRoom$World", 129, "of", 5), ("BracketRoom$Script", 50, "end", 6), ("BracketRoom$Script", 81, "swap scale add keep take sum when loop stop ", 7), ("BracketRoom$Script", 114, "lawful abelian nilpotent solvable derived size same ", 8), ("BracketRoom$Script", 98, "by", 9), ("BracketRoom$Script", 103, "of", 5), ("BracketRoom$Script", 105, "to", 10)]
def strT (k : Nat) : String := ["prime", "size", "bracket", "gives", "less", "of", "end", "swap scale add keep take sum when loop stop ", "lawful abelian nilpotent solvable derived size same ", "by", "to"].getD k ""
def strB (k : Nat) : List Int32 := (strT k).toList.map (fun c => Int32.ofNat c.toNat)
def strL (k : Nat) : Nat := (strB k).length
/-- UNITS: an int array that begins with the 25 numbers; its length is 25 as an int -/
def UX (g : GG) (U : State) : Prop := ∃ (N : Nat) (xs : Nat → Int32), va_X (gU g) N xs U (gH g) ∧ 25 ≤ N ∧ Int32.ofNat N = Int32.ofInt 25 ∧ ∀ j : Nat, j < 25 → xs j = Int32.ofInt (unitv j)
theorem UX.moved {g : GG} {u U : State} (hvm : u.vm.Alike U.vm) (h : UX g u) : UX g U := by
  obtain ⟨N, xs, h1, h2⟩ := h
  exact ⟨N, xs, va_X.moved hvm h1, h2⟩
def EX (g : GG) (U : State) : Prop := va_Z "BracketRoom" "UNITS" "[I" (.ref (gU g)) (Ag g) U (gH g) ∧ (UX g U ∧ gU g < gB g) ∧ (va_Z "java/lang/String" "COMPACT_STRINGS" "Z" (.int 1) (Ag g) U (gH g) ∧ (va_Z "jdk/internal/util/Preconditions" "SIOOBE_FORMATTER" "Ljava/util/function/BiFunction;" .null (Ag g) U (gH g) ∨ va_Z "jdk/internal/util/Preconditions" "SIOOBE_FORMATTER" "Ljava/util/function/BiFunction;" (.ref (gK g 22)) (Ag g) U (gH g)) ∧ ∀ k : Nat, k < 11 → gK g (11 + k) = gV g k) ∧ vk_S 11 ((List.range 11).map strL) ((List.range 11).map strB) (gK g) (gV g) (Ag g) U (gH g) ∧ ∀ q ∈ strW, vk_R q.1 q.2.1 q.2.2.1 (gK g q.2.2.2) U
def KK (g : GG) (U : State) : Prop := va_K (gD g) classes (tysA g) U ∧ (∀ q ∈ nestM, va_Nw (.methodLinkNest q.1 q.2.1 q.2.2 "BracketRoom") U) ∧ (∀ q ∈ nestF, va_Nw (.fieldLinkNest q.1 q.2 "BracketRoom" "UNITS" "[I" "BracketRoom") U) ∧ EX g U
theorem KK.warm {g : GG} {s U : State} (hW : s.WarmedH U.vm) (h : KK g s) : KK g U := by
  obtain ⟨h1, h2, h3, h4, h5, h6, h7, h8⟩ := h
  exact ⟨va_K.moved hW.alike h1, fun q hq => va_Nw.warmM hW (h2 q hq), fun q hq => va_Nw.warmF hW (h3 q hq), va_Z.moved hW.alike h4, ⟨h5.1.moved hW.alike, h5.2⟩, ⟨va_Z.moved hW.alike h6.1, h6.2.1.imp (va_Z.moved hW.alike) (va_Z.moved hW.alike), h6.2.2⟩, vk_S.moved hW.alike h7, fun q hq => vk_R.warm hW (h8 q hq)⟩
theorem KK.same {g : GG} {s U : State} (hv : U.vm = s.vm) (h : KK g s) : KK g U := by
  obtain ⟨h1, h2, h3, h4, h5, h6, h7, h8⟩ := h
  have ha : s.vm.Alike U.vm := by rw [hv]; exact Vm.Alike.refl _
  exact ⟨va_K.moved ha h1, fun q hq => va_Nw.same rfl hv.symm (h2 q hq), fun q hq => va_Nw.same rfl hv.symm (h3 q hq), va_Z.moved ha h4, ⟨h5.1.moved ha, h5.2⟩, ⟨va_Z.moved ha h6.1, h6.2.1.imp (va_Z.moved ha) (va_Z.moved ha), h6.2.2⟩, vk_S.moved ha h7, fun q hq => vk_R.same hv (h8 q hq)⟩
def rmd (d : Nat) : Room := { frames := d, cells := 0, slots := 0, locals := 40 * d }
def Tbl : List Cond := lw_tbl.filter goodWord
def wsM (M : MR) : List Cond := .code M.1 M.2.1 M.2.2.1 M.2.2.2 :: Tbl
def rtg (r : Option FieldType) : Nat := match r with
  | none => 9
  | some t => tg t
def rv (g : GG) (t : Nat) (r : Int) : Option Value := if t = 9 then none else some (cv g (t, r))
def Qc (g : GG) (t : Nat) (Q : Int → SG → Prop) : Array Value → State → Outcome → State → Prop := fun _ s o u => ∃ (r : Int) (σ : SG), o = .returned (rv g t r) ∧ okv (t, r) ∧ RS g σ s u.heap ∧ Q r σ
def Pc (g : GG) (args : List AV) (σ : SG) : Array Value → State → Prop := fun v U => v = (args.map (cv g)).toArray ∧ (∀ a ∈ args, okv a) ∧ Rp g σ U.heap ∧ KK g U
/-- a method's contract: from the heap σ, with these arguments, within d frames, it answers r and leaves a heap with Q -/
def Tri (d : Nat) (M : MR) (args : List AV) (σ : SG) (Q : Int → SG → Prop) : Prop := ∀ (l : Launch) (g : GG), Met l M.1 (wsM M) (rmd d) (Pc g args σ) (Qc g (rtg M.2.2.2) Q) 0 0 (Ag g)
def kn (g : GG) : Nat → List AV → List (Nat × Value)
  | _, [] => []
  | i, v :: t => if v.1 = 9 then kn g (i + 1) t else (i, cv g v) :: kn g (i + 1) t
def Lo (g : GG) (n : Nat) (ls : List AV) (A : Array Slot) : Prop := lv_has A n (kn g 0 ls) ∧ ∀ v ∈ ls, okv v
def CX (g : GG) (M : MR) (p : Program) (s : State) (m : MethodId) (args : Array Value) (meth : Method) (c : Code) : Prop :=
  p.tables.exec = Jvm.exec ∧ c.code = M.2.1 ∧ c.maxLocals = M.2.2.1 ∧ meth.sig.returnType = M.2.2.2 ∧ meth.locks = false ∧ s.vm.findClass M.1.cls = some m.cls ∧ (∀ w ∈ Tbl, w.before args s = true) ∧ KK g s ∧ gB g ≤ s.heap.size ∧ ∀ q : Nat, q < gB g → s.heap[q]? = (gH g)[q]?
/-- the machine at pc of method M, with these locals and operands, over the heap σ, within d frames below: it comes to the method's end with Q -/
def L (d : Nat) (M : MR) (pc : Nat) (ls st : List AV) (σ : SG) (Q : Int → SG → Prop) : Prop :=
  ∀ (l : Launch) (g : GG) (p : Program) (e : Env) (s : State) (m : MethodId) (args : Array Value) (below : List Frame) (meth : Method) (c : Code) (H : Heap) (locs : List Loc) (A : Array Slot),
    CX g M p s m args meth c → RS g σ s H → (∀ q ∈ locs, Ag g q.base) → Lo g M.2.2.1 ls A → (∀ v ∈ st, okv v) →
    W p l e (rmd d) s m args below meth c H locs 0 0 (MQ below (Qc g (rtg M.2.2.2) Q) args s 0 0 (Ag g)) (F0 m pc A (st.map (cv g)))
/-! ===== locals ===== -/
theorem kn_mem {g : GG} {ls : List AV} {i : Nat} {q : Nat × Value} : q ∈ kn g i ls ↔ ∃ (k : Nat) (v : AV), ls[k]? = some v ∧ v.1 ≠ 9 ∧ q = (i + k, cv g v) := by
  induction ls generalizing i with
  | nil => simp [kn]
  | cons v t ih =>
    unfold kn
    by_cases h : v.1 = 9
    · rw [if_pos h, ih]
      constructor
      · rintro ⟨k, w, h1, h2, h3⟩
        exact ⟨k + 1, w, by simpa using h1, h2, by rw [h3]; congr 1; omega⟩
      · rintro ⟨k, w, h1, h2, h3⟩
        cases k with
        | zero => simp at h1; subst h1; exact absurd h h2
        | succ k => exact ⟨k, w, by simpa using h1, h2, by rw [h3]; congr 1; omega⟩
    · rw [if_neg h, List.mem_cons, ih]
      constructor
      · rintro (h0 | ⟨k, w, h1, h2, h3⟩)
        · exact ⟨0, v, rfl, h, h0⟩
        · exact ⟨k + 1, w, by simpa using h1, h2, by rw [h3]; congr 1; omega⟩
      · rintro ⟨k, w, h1, h2, h3⟩
        cases k with
        | zero => simp at h1; subst h1; exact Or.inl h3
        | succ k => exact Or.inr ⟨k, w, by simpa using h1, h2, by rw [h3]; congr 1; omega⟩
theorem Lo.get {g : GG} {n : Nat} {ls : List AV} {A : Array Slot} (h : Lo g n ls A) {i : Nat} {v : AV} (hi : ls[i]? = some v) (hv : v.1 ≠ 9) : A[i]? = some (.val (cv g v)) :=
  h.1.2.2 (i, cv g v) (kn_mem.mpr ⟨i, v, hi, hv, by simp⟩)
theorem Lo.ok {g : GG} {n : Nat} {ls : List AV} {A : Array Slot} (h : Lo g n ls A) {i : Nat} {v : AV} (hi : ls[i]? = some v) : okv v := h.2 v (List.mem_of_getElem? hi)
/-- a store of one word -/
def lst : Nat → AV → List AV → List AV
  | _, _, [] => []
  | 0, v, _ :: t => v :: t
  | 1, v, u :: t => (match u.1 with
      | 1 => vU
      | _ => u) :: lst 0 v t
  | i + 2, v, u :: t => u :: lst (i + 1) v t
/-- a store of two words -/
def lstJ : Nat → AV → List AV → List AV
  | _, _, [] => []
  | 0, v, _ :: t => v :: (match t with
      | [] => []
      | _ :: t' => vU :: t')
  | 1, v, u :: t => (match u.1 with
      | 1 => vU
      | _ => u) :: lstJ 0 v t
  | i + 2, v, u :: t => u :: lstJ (i + 1) v t
theorem lst_get (v : AV) : ∀ (ls : List AV) (i k : Nat) (w : AV), (lst i v ls)[k]? = some w → w.1 ≠ 9 → (k = i ∧ w = v) ∨ (k ≠ i ∧ ls[k]? = some w ∧ ¬ (k + 1 = i ∧ w.1 = 1))
  | [], i, k, w, h, _ => by cases i <;> simp [lst] at h
  | u :: t, 0, k, w, h, h9 => by
    cases k with
    | zero => simp [lst] at h; exact Or.inl ⟨rfl, h.symm⟩
    | succ k => simp [lst] at h; exact Or.inr ⟨by omega, by simpa using h, by omega⟩
  | u :: t, 1, k, w, h, h9 => by
    cases k with
    | zero =>
      simp only [lst, List.getElem?_cons_zero, Option.some.injEq] at h
      split at h
      · subst h; exact absurd rfl h9
      · subst h; rename_i hu; exact Or.inr ⟨by omega, rfl, fun z => hu z.2⟩
    | succ k =>
      simp only [lst, List.getElem?_cons_succ] at h
      rcases lst_get v t 0 k w h h9 with ⟨a, b⟩ | ⟨a, b, c⟩
      · exact Or.inl ⟨by omega, b⟩
      · exact Or.inr ⟨by omega, by simpa using b, by omega⟩
  | u :: t, i + 2, k, w, h, h9 => by
    cases k with
    | zero => simp [lst] at h; exact Or.inr ⟨by omega, by simpa using h, by omega⟩
    | succ k =>
      simp only [lst, List.getElem?_cons_succ] at h
      rcases lst_get v t (i + 1) k w h h9 with ⟨a, b⟩ | ⟨a, b, c⟩
      · exact Or.inl ⟨by omega, b⟩
      · exact Or.inr ⟨by omega, by simpa using b, by omega⟩
theorem lstJ_get (v : AV) : ∀ (ls : List AV) (i k : Nat) (w : AV), (lstJ i v ls)[k]? = some w → w.1 ≠ 9 → (k = i ∧ w = v) ∨ (k ≠ i ∧ k ≠ i + 1 ∧ ls[k]? = some w ∧ ¬ (k + 1 = i ∧ w.1 = 1))
  | [], i, k, w, h, _ => by cases i <;> simp [lstJ] at h
  | [u], 0, k, w, h, h9 => by
    cases k with
    | zero => simp [lstJ] at h; exact Or.inl ⟨rfl, h.symm⟩
    | succ k => simp [lstJ] at h
  | u :: u2 :: t, 0, k, w, h, h9 => by
    cases k with
    | zero => simp [lstJ] at h; exact Or.inl ⟨rfl, h.symm⟩
    | succ k =>
      cases k with
      | zero => simp [lstJ] at h; subst h; exact absurd rfl h9
      | succ k => simp [lstJ] at h; exact Or.inr ⟨by omega, by omega, by simpa using h, by omega⟩
  | u :: t, 1, k, w, h, h9 => by
    cases k with
    | zero =>
      simp only [lstJ, List.getElem?_cons_zero, Option.some.injEq] at h
      split at h
      · subst h; exact absurd rfl h9
      · subst h; rename_i hu; exact Or.inr ⟨by omega, by omega, rfl, fun z => hu z.2⟩
    | succ k =>
      simp only [lstJ, List.getElem?_cons_succ] at h
      rcases lstJ_get v t 0 k w h h9 with ⟨a, b⟩ | ⟨a, a2, b, c⟩
      · exact Or.inl ⟨by omega, b⟩
      · exact Or.inr ⟨by omega, by omega, by simpa using b, by omega⟩
  | u :: t, i + 2, k, w, h, h9 => by
    cases k with
    | zero => simp [lstJ] at h; exact Or.inr ⟨by omega, by omega, by simpa using h, by omega⟩
    | succ k =>
      simp only [lstJ, List.getElem?_cons_succ] at h
      rcases lstJ_get v t (i + 1) k w h h9 with ⟨a, b⟩ | ⟨a, a2, b, c⟩
      · exact Or.inl ⟨by omega, b⟩
      · exact Or.inr ⟨by omega, by omega, by simpa using b, by omega⟩
theorem okv_vU : okv vU := trivial
theorem lst_ok {v : AV} (hv : okv v) {ls : List AV} {i : Nat} (h : ∀ w ∈ ls, okv w) : ∀ w ∈ lst i v ls, okv w := by
  intro w hw
  obtain ⟨k, hk⟩ := List.getElem?_of_mem hw
  by_cases h9 : w.1 = 9
  · unfold okv; rw [h9]; trivial
  · rcases lst_get v ls i k w hk h9 with ⟨_, b⟩ | ⟨_, b, _⟩
    · subst b; exact hv
    · exact h w (List.mem_of_getElem? b)
theorem lstJ_ok {v : AV} (hv : okv v) {ls : List AV} {i : Nat} (h : ∀ w ∈ ls, okv w) : ∀ w ∈ lstJ i v ls, okv w := by
  intro w hw
  obtain ⟨k, hk⟩ := List.getElem?_of_mem hw
  by_cases h9 : w.1 = 9
  · unfold okv; rw [h9]; trivial
  · rcases lstJ_get v ls i k w hk h9 with ⟨_, b⟩ | ⟨_, _, b, _⟩
    · subst b; exact hv
    · exact h w (List.mem_of_getElem? b)
theorem cv_cat {g : GG} {v : AV} : (cv g v).category = 2 ↔ v.1 = 1 := by
  unfold cv cr
  split <;> rename_i h
  · simp [Value.category, h]
  · simp [Value.category, h]
  · constructor
    · intro h2
      repeat' split at h2
      all_goals simp [Value.category] at h2
    · intro h2; exact absurd h2 h
theorem Lo.set {g : GG} {n i : Nat} {ls : List AV} {A' : Array Slot} {v : AV} {l0 : List (Nat × Value)} (h0 : l0 = kn g 0 ls) (hok : ∀ w ∈ ls, okv w) (hv : okv v) (h : lv_has A' n ((i, cv g v) :: l0.filter (fun q => !(q.1 == i) && !(q.1 + 1 == i && q.2.category == 2)))) : Lo g n (lst i v ls) A' := by
  refine ⟨⟨h.1, h.2.1, fun q hq => h.2.2 q ?_⟩, lst_ok hv hok⟩
  obtain ⟨k, w, h1, h2, h3⟩ := kn_mem.mp hq
  subst h3
  rcases lst_get v ls i k w h1 h2 with ⟨a, b⟩ | ⟨a, b, c⟩
  · subst a; subst b; simp
  · refine List.mem_cons_of_mem _ (List.mem_filter.mpr ⟨by rw [h0]; exact kn_mem.mpr ⟨k, w, b, h2, rfl⟩, ?_⟩)
    have e1 : ((0 + k) == i) = false := by simpa using a
    have e2 : ((0 + k + 1 == i) && ((cv g w).category == 2)) = false := by
      rw [Bool.and_eq_false_iff]
      by_cases hk : k + 1 = i
      · right
        have : ¬ (cv g w).category = 2 := fun z => c ⟨hk, cv_cat.mp z⟩
        simpa using this
      · left; simpa using hk
    simp only [e1, e2, Bool.not_false, Bool.and_self]
theorem Lo.setJ {g : GG} {n i : Nat} {ls : List AV} {A' : Array Slot} {v : AV} {l0 : List (Nat × Value)} (h0 : l0 = kn g 0 ls) (hok : ∀ w ∈ ls, okv w) (hv : okv v) (h : lv_has A' n ((i, cv g v) :: l0.filter (fun q => !(q.1 == i) && (!(q.1 == i + 1) && !(q.1 + 1 == i && q.2.category == 2))))) : Lo g n (lstJ i v ls) A' := by
  refine ⟨⟨h.1, h.2.1, fun q hq => h.2.2 q ?_⟩, lstJ_ok hv hok⟩
  obtain ⟨k, w, h1, h2, h3⟩ := kn_mem.mp hq
  subst h3
  rcases lstJ_get v ls i k w h1 h2 with ⟨a, b⟩ | ⟨a, a2, b, c⟩
  · subst a; subst b; simp
  · refine List.mem_cons_of_mem _ (List.mem_filter.mpr ⟨by rw [h0]; exact kn_mem.mpr ⟨k, w, b, h2, rfl⟩, ?_⟩)
    have e1 : ((0 + k) == i) = false := by simpa using a
    have e3 : ((0 + k) == i + 1) = false := by simpa using a2
    have e2 : ((0 + k + 1 == i) && ((cv g w).category == 2)) = false := by
      rw [Bool.and_eq_false_iff]
      by_cases hk : k + 1 = i
      · right
        have : ¬ (cv g w).category = 2 := fun z => c ⟨hk, cv_cat.mp z⟩
        simpa using this
      · left; simpa using hk
    simp only [e1, e2, e3, Bool.not_false, Bool.and_self]
