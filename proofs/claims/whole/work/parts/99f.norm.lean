/-! ===== numbers beside a TABLE's places count for nothing ===== -/
abbrev tbl (a : Int) : Prop := a = 8 ∨ a = 14 ∨ a = 16 ∨ a = 18 ∨ a = 20
def nrm (σ : SG) : SG := fun a j => if tbl a ∧ ¬ (0 ≤ j ∧ j < 125) then 0 else σ a j
theorem nrm_in {σ : SG} {a j : Int} (h0 : 0 ≤ j) (h1 : j < 125) : nrm σ a j = σ a j := by unfold nrm; rw [if_neg (fun h => h.2 ⟨h0, h1⟩)]
theorem nrm_ne {σ : SG} {a j : Int} (h : ¬ tbl a) : nrm σ a j = σ a j := by unfold nrm; rw [if_neg (fun q => h q.1)]
theorem nrm_out {σ : SG} {a j : Int} (h : tbl a) (h1 : ¬ (0 ≤ j ∧ j < 125)) : nrm σ a j = 0 := by unfold nrm; rw [if_pos ⟨h, h1⟩]
theorem tbl_k {a : Int} (h : tbl a) : kd a = (100, 125) := by
  rcases h with h | h | h | h | h
  · rw [h]; exact kd_8
  · rw [h]; exact kd_14
  · rw [h]; exact kd_16
  · rw [h]; exact kd_18
  · rw [h]; exact kd_20
theorem arrV_cg {cI : ClassId} {N : Nat} {f g : Nat → Value} (h : ∀ j, j < N → f j = g j) : arrV cI N f = arrV cI N g := by
  unfold arrV
  have e : (Array.ofFn (n := N) fun j => f j.val) = Array.ofFn (n := N) fun j => g j.val := by
    congr 1; funext j; exact h j.val j.isLt
  rw [e]
theorem Rp_n {g : GG} {σ : SG} {H : Heap} (h : Rp g σ H) : Rp g (nrm σ) H := by
  obtain ⟨h1, h2, h3, h4, h5⟩ := h
  have kn : ∀ a : Nat, kd (a : Int) = kdn a := fun a => by unfold kd; rw [if_pos (by omega), Int.toNat_natCast]
  refine ⟨fun k q hq => ?_, h2, fun a j => ?_, fun j hj => ?_, fun a j => ⟨fun o ho => ?_, fun o ho hj => ?_⟩⟩
  · unfold wsO at hq
    rw [List.getElem?_map] at hq
    have hlt : k < KF.length := by
      by_cases y : k < KF.length
      · exact y
      · rw [List.getElem?_eq_none (by rw [List.length_range]; omega)] at hq; cases hq
    rw [List.getElem?_range hlt, Option.map_some, Option.some.injEq] at hq
    have hh := h1 k (gB g + k, celK g (σ k) (kdn k)) (by unfold wsO; rw [List.getElem?_map, List.getElem?_range hlt, Option.map_some])
    subst hq
    by_cases hk0 : tbl (k : Int)
    · have hk : kdn k = (100, 125) := by rw [← kn]; exact tbl_k hk0
      rw [hk] at hh ⊢
      have e : vp_cell (gC g 0) (125, .inl (fun j => Int32.ofInt (nrm σ (k : Int) j))) = vp_cell (gC g 0) (125, .inl (fun j => Int32.ofInt (σ (k : Int) j))) := by
        rw [vp_cell_i, vp_cell_i]
        exact arrV_cg (fun j hj => by rw [nrm_in (by omega) (by omega)])
      show H[gB g + k]? = some (vp_cell (gC g 0) (125, .inl (fun j => Int32.ofInt (nrm σ (k : Int) j))))
      rw [e]; exact hh
    · have e : nrm σ (k : Int) = σ (k : Int) := funext fun j => nrm_ne hk0
      show va_at (gD g) classes (gB g + k, celK g (nrm σ (k : Int)) (kdn k)) H
      rw [e]; exact hh
  · by_cases hk : tbl (a : Int) ∧ ¬ (0 ≤ (j : Int) ∧ (j : Int) < 125)
    · rw [nrm_out hk.1 hk.2]
      have hk1 := tbl_k hk.1
      rw [kn] at hk1
      rw [hk1]; exact in0
    · have e : nrm σ (a : Int) (j : Int) = σ a j := by unfold nrm; rw [if_neg hk]
      rw [e]; exact h3 a j
  · rw [nrm_ne (by omega)]; exact h4 j hj
  · by_cases hk0 : tbl (a : Int)
    · have hk : kdn a = (100, 125) := by rw [← kn]; exact tbl_k hk0
      rw [hk] at ho
      have : fo 100 j = none := rfl
      rw [this] at ho; cases ho
    · rw [nrm_ne hk0]; exact (h5 a j).1 o ho
  · by_cases hk0 : tbl (a : Int)
    · have hk : kdn a = (100, 125) := by rw [← kn]; exact tbl_k hk0
      rw [hk] at ho
      have : ao 100 = none := rfl
      rw [this] at ho; cases ho
    · rw [nrm_ne hk0]; exact (h5 a j).2 o ho hj
theorem Tri_n {d : Nat} {M : MR} {args : List AV} {σ : SG} {Q : Int → SG → Prop} (h : Tri d M args (nrm σ) Q) : Tri d M args σ Q := by
  intro l g p e a1 a2 a3 s m as below a4 a5 a6 a7
  exact h l g p e a1 a2 a3 s m as below a4 a5 ⟨a6.1, a6.2.1, Rp_n a6.2.2.1, a6.2.2.2⟩ a7
theorem L_n {d : Nat} {M : MR} {pc : Nat} {ls st : List AV} {σ : SG} {Q : Int → SG → Prop} (h : L d M pc ls st (nrm σ) Q) : L d M pc ls st σ Q := by
  intro l g p e s m args below meth c H locs A h1 h2 h3 h4 h5
  exact h l g p e s m args below meth c H locs A h1 ⟨Rp_n h2.1, h2.2⟩ h3 h4 h5
theorem nrm_ob {σ : SG} {a j : Int} {t : Nat} (h : obok t a) (ht : t < 100) : nrm σ a j = σ a j := nrm_ne (fun q => by
  have := h.2
  rw [tbl_k q] at this
  have e : (100 : Nat) = t := this
  omega)
def OffN (D : Int → Int → Prop) (σ σ' : SG) : Prop := ∀ a k, ¬ D a k → (¬ (a = 8 ∨ a = 14 ∨ a = 16 ∨ a = 18 ∨ a = 20) ∨ (0 ≤ k ∧ k < 125)) → σ' a k = σ a k
theorem OffN_rfl {D : Int → Int → Prop} {σ : SG} : OffN D σ σ := fun _ _ _ _ => rfl
theorem OffN_trans {D : Int → Int → Prop} {σ σ1 σ2 : SG} (h1 : OffN D σ σ1) (h2 : OffN D σ1 σ2) : OffN D σ σ2 := fun a k h q => (h2 a k h q).trans (h1 a k h q)
theorem OffN_mono {D D' : Int → Int → Prop} {σ σ1 : SG} (h : OffN D σ σ1) (hd : ∀ a k, D a k → D' a k) : OffN D' σ σ1 := fun a k hn q => h a k (fun z => hn (hd a k z)) q
theorem OffN_of {D : Int → Int → Prop} {σ σ1 : SG} (h : Off D σ σ1) : OffN D σ σ1 := fun a k hn _ => h a k hn
theorem OffN_n {D : Int → Int → Prop} {σ σ1 : SG} (h : Off D (nrm σ) σ1) : OffN D σ σ1 := fun a k hn q => by
  rw [h a k hn]
  rcases q with q | q
  · exact nrm_ne q
  · exact nrm_in q.1 q.2
theorem OffN_nn {D : Int → Int → Prop} {σ σ1 : SG} (h : OffN D (nrm σ) σ1) : OffN D σ σ1 := fun a k hn q => by
  rw [h a k hn q]
  rcases q with q | q
  · exact nrm_ne q
  · exact nrm_in q.1 q.2
theorem ST_n {σ : SG} (h : ST σ) : ST (nrm σ) := fun e he => by rw [nrm_ob he (by omega)]; exact h e he
theorem UN_n {σ : SG} (h : UN σ) : UN (nrm σ) := fun j j0 j1 => by rw [nrm_ne (by omega)]; exact h j j0 j1
/-! ===== a DESK, told purely: the WORLD and four SHELVES, 127 numbers each ===== -/
def TBc (c : Int → Int) (i : Int) : Int → Int := fun t => if 0 ≤ t ∧ t < 125 then c (127 * i + 2 + t) else 0
theorem TBc_in {c : Int → Int} {i t : Int} (t0 : 0 ≤ t) (t1 : t < 125) : TBc c i t = c (127 * i + 2 + t) := if_pos ⟨t0, t1⟩
def WWc (c : Int → Int) (i : Int) : Prop := TW (c (127 * i)) (c (127 * i + 1)) (TBc c i)
def DC (c : Int → Int) : Prop := WWc c 0 ∧ ∀ i, 1 ≤ i → i ≤ 4 → c (127 * i) ≠ 0 → WWc c i
/-- the class's DESK at x; its WORLD i stands at wdx x i -/
def wdx (x i : Int) : Int := if i = 0 then x + 1 else x + 5 + 2 * i
def KW (σ : SG) (a : Int) (c : Int → Int) (i : Int) : Prop := σ a 1 = c (127 * i) ∧ σ a 2 = c (127 * i + 1) ∧ ∀ t, 0 ≤ t → t < 125 → σ (a + 1) t = c (127 * i + 2 + t)
def KC (σ : SG) (x : Int) (c : Int → Int) : Prop := KW σ (x + 1) c 0 ∧ ∀ i, 1 ≤ i → i ≤ 4 → (σ (x + 5 + 2 * i) 3 = if c (127 * i) = 0 then 0 else 1) ∧ (c (127 * i) ≠ 0 → KW σ (x + 5 + 2 * i) c i)
/-- the model's desk from f on -/
def KM (σ : SG) (f : Int) (c : Int → Int) : Prop := ∀ j, 0 ≤ j → j < 635 → σ 166 (f + j) = c j
def ptW (c : Int → Int) (i p n : Int) (T : Int → Int) : Int → Int := fun j => if j = 127 * i then p else if j = 127 * i + 1 then n else if 127 * i + 2 ≤ j ∧ j < 127 * i + 127 then T (j - 127 * i - 2) else c j
section PTW
variable {c : Int → Int} {i p n : Int} {T : Int → Int}
theorem ptW_0 : ptW c i p n T (127 * i) = p := by unfold ptW; rw [if_pos rfl]
theorem ptW_1 : ptW c i p n T (127 * i + 1) = n := by unfold ptW; rw [if_neg (by omega), if_pos rfl]
theorem ptW_t {t : Int} (t0 : 0 ≤ t) (t1 : t < 125) : ptW c i p n T (127 * i + 2 + t) = T t := by
  unfold ptW; rw [if_neg (by omega), if_neg (by omega), if_pos (by omega)]; congr 1; omega
theorem ptW_ne {j : Int} (h : j < 127 * i ∨ 127 * i + 127 ≤ j) : ptW c i p n T j = c j := by
  unfold ptW; rw [if_neg (by omega), if_neg (by omega), if_neg (by omega)]
theorem WWc_pt (h : TW p n T) : WWc (ptW c i p n T) i := by
  unfold WWc
  rw [ptW_0, ptW_1]
  exact TW_cg h (fun t t0 t1 => by rw [TBc_in t0 t1, ptW_t t0 t1])
theorem WWc_ne {k : Int} (h : WWc c k) (hk : k ≠ i) : WWc (ptW c i p n T) k := by
  unfold WWc at *
  rw [ptW_ne (by omega), ptW_ne (by omega)]
  exact TW_cg h (fun t t0 t1 => by rw [TBc_in t0 t1, TBc_in t0 t1, ptW_ne (by omega)])
theorem DC_pt (h : DC c) (hT : TW p n T) (i0 : 0 ≤ i) (i1 : i ≤ 4) : DC (ptW c i p n T) := by
  refine ⟨?_, fun k k0 k1 hk => ?_⟩
  · by_cases q : i = 0
    · rw [q]; exact WWc_pt hT
    · exact WWc_ne h.1 (by omega)
  · by_cases q : k = i
    · rw [q]; exact WWc_pt hT
    · rw [ptW_ne (by omega)] at hk
      exact WWc_ne (h.2 k k0 k1 hk) q
theorem KW_pt {σ : SG} {a : Int} (h1 : σ a 1 = p) (h2 : σ a 2 = n) (h3 : ∀ t, 0 ≤ t → t < 125 → σ (a + 1) t = T t) : KW σ a (ptW c i p n T) i := by
  refine ⟨by rw [ptW_0]; exact h1, by rw [ptW_1]; exact h2, fun t t0 t1 => ?_⟩
  rw [ptW_t t0 t1]; exact h3 t t0 t1
theorem KW_ne {σ σ' : SG} {a k : Int} (h : KW σ a c k) (hk : k ≠ i) (h1 : ∀ j, 1 ≤ j → j ≤ 2 → σ' a j = σ a j) (h2 : ∀ j, σ' (a + 1) j = σ (a + 1) j) : KW σ' a (ptW c i p n T) k := by
  refine ⟨by rw [ptW_ne (by omega), h1 1 (by omega) (by omega)]; exact h.1, by rw [ptW_ne (by omega), h1 2 (by omega) (by omega)]; exact h.2.1, fun t t0 t1 => ?_⟩
  rw [ptW_ne (by omega), h2]; exact h.2.2 t t0 t1
theorem KM_pt {σ σ' : SG} {f : Int} (h : KM σ f c) (i0 : 0 ≤ i) (h1 : σ' 166 (f + 127 * i) = p) (h2 : σ' 166 (f + 127 * i + 1) = n) (h3 : ∀ t, 0 ≤ t → t < 125 → σ' 166 (f + 127 * i + 2 + t) = T t) (h4 : ∀ j, (j < f + 127 * i ∨ f + 127 * i + 127 ≤ j) → σ' 166 j = σ 166 j) : KM σ' f (ptW c i p n T) := by
  intro j j0 j1
  by_cases q : j < 127 * i ∨ 127 * i + 127 ≤ j
  · rw [ptW_ne q, h4 _ (by omega)]; exact h j j0 j1
  · by_cases q0 : j = 127 * i
    · rw [q0, ptW_0]; exact h1
    · by_cases q1 : j = 127 * i + 1
      · rw [q1, ptW_1, show f + (127 * i + 1) = f + 127 * i + 1 by omega]; exact h2
      · have e : j = 127 * i + 2 + (j - 127 * i - 2) := by omega
        rw [e, ptW_t (by omega) (by omega), show f + (127 * i + 2 + (j - 127 * i - 2)) = f + 127 * i + 2 + (j - 127 * i - 2) by omega]; exact h3 _ (by omega) (by omega)
end PTW
theorem ob_sh {i : Int} (i0 : 1 ≤ i) (i1 : i ≤ 4) : obok 10 (6 + 5 + 2 * i) := by
  have h : i = 1 ∨ i = 2 ∨ i = 3 ∨ i = 4 := by omega
  rcases h with h | h | h | h
  · rw [h]; exact ob_13
  · rw [h]; exact ob_15
  · rw [h]; exact ob_17
  · rw [h]; exact ob_19
/-- the class's WORLD as its calls want it -/
theorem KW_WD {σ : SG} {a : Int} {c : Int → Int} {i : Int} (ho : obok 10 a) (ha : tbl (a + 1)) (h : KW σ a c i) (hW : WWc c i) : WD (nrm σ) a (c (127 * i)) (c (127 * i + 1)) (TBc c i) := by
  refine ⟨ho, by rw [nrm_ob ho (by omega)]; exact h.1, by rw [nrm_ob ho (by omega)]; exact h.2.1, funext fun t => ?_, hW⟩
  by_cases q : 0 ≤ t ∧ t < 125
  · rw [nrm_in q.1 q.2, TBc_in q.1 q.2]; exact h.2.2 t q.1 q.2
  · rw [nrm_out ha q]; exact (if_neg q).symm
theorem KC_n {σ : SG} {x : Int} {c : Int → Int} (h : KC σ x c) (hx : x = 6) : KC (nrm σ) x c := by
  subst hx
  refine ⟨⟨by rw [nrm_ne (by omega)]; exact h.1.1, by rw [nrm_ne (by omega)]; exact h.1.2.1, fun t t0 t1 => by rw [nrm_in t0 t1]; exact h.1.2.2 t t0 t1⟩, fun i i0 i1 => ⟨?_, fun hc => ?_⟩⟩
  · rw [nrm_ob (ob_sh i0 i1) (by omega)]; exact (h.2 i i0 i1).1
  · have h2 := (h.2 i i0 i1).2 hc
    exact ⟨by rw [nrm_ob (ob_sh i0 i1) (by omega)]; exact h2.1, by rw [nrm_ob (ob_sh i0 i1) (by omega)]; exact h2.2.1, fun t t0 t1 => by rw [nrm_in t0 t1]; exact h2.2.2 t t0 t1⟩
theorem KM_WM {σ : SG} {f : Int} {c : Int → Int} {i : Int} (h : KM σ f c) (i0 : 0 ≤ i) (i1 : i ≤ 4) (hW : WWc c i) : WM σ (f + 127 * i) (c (127 * i)) (c (127 * i + 1)) (TBc c i) := by
  refine ⟨h _ (by omega) (by omega), by rw [Int.add_assoc]; exact h _ (by omega) (by omega), fun t t0 t1 => ?_, hW⟩
  rw [TBc_in t0 t1, show f + 127 * i + 2 + t = f + (127 * i + 2 + t) by omega]
  exact h _ (by omega) (by omega)
