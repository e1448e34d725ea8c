/-! ===== fields and arrays ===== -/
theorem Tbl_in {w : Cond} (h : w ∈ lw_tbl) (hg : goodWord w = true) : w ∈ Tbl := List.mem_filter.mpr ⟨h, hg⟩
theorem kf_ok : ∀ a, a < 197 → ((kdn a).1 < 13 ∧ (classes[(kdn a).1]?).map (fun q => q.2.2) = some (kdn a).2) ∨ (100 ≤ (kdn a).1 ∧ (kdn a).1 ≤ 106) := by decide +kernel
theorem kf_len : KF.length = 197 := by decide +kernel
theorem cls_tbl : ∀ (ci : Nat) (q : vw_C), classes[ci]? = some q → ∀ w ∈ u_ws q.1 q.2.1 q.2.2, w ∈ Tbl := by
  intro ci q h
  match ci with
  | 0 => cases h; decide +kernel
  | 1 => cases h; decide +kernel
  | 2 => cases h; decide +kernel
  | 3 => cases h; decide +kernel
  | 4 => cases h; decide +kernel
  | 5 => cases h; decide +kernel
  | 6 => cases h; decide +kernel
  | 7 => cases h; decide +kernel
  | 8 => cases h; decide +kernel
  | 9 => cases h; decide +kernel
  | 10 => cases h; decide +kernel
  | 11 => cases h; decide +kernel
  | 12 => cases h; decide +kernel
  | n + 13 => cases h
theorem cls_ty : ∀ (ci : Nat) (q : vw_C), classes[ci]? = some q → (∀ k, k < q.2.2 → parseFieldDescriptor (q.2.1 k).2.2.1 = some (cty ci k)) ∧ (∀ a, a < q.2.2 → ∀ b, b < q.2.2 → a ≠ b → (q.2.1 a).2.1 ≠ (q.2.1 b).2.1) := by
  intro ci q h
  match ci with
  | 0 => cases h; exact ⟨tyX0_ok, nmX0⟩
  | 1 => cases h; exact ⟨tyX1_ok, nmX1⟩
  | 2 => cases h; exact ⟨tyX2_ok, nmX2⟩
  | 3 => cases h; exact ⟨tyX3_ok, nmX3⟩
  | 4 => cases h; exact ⟨tyX4_ok, nmX4⟩
  | 5 => cases h; exact ⟨tyX5_ok, nmX5⟩
  | 6 => cases h; exact ⟨tyX6_ok, nmX6⟩
  | 7 => cases h; exact ⟨tyX7_ok, nmX7⟩
  | 8 => cases h; exact ⟨tyX8_ok, nmX8⟩
  | 9 => cases h; exact ⟨tyX9_ok, nmX9⟩
  | 10 => cases h; exact ⟨tyX10_ok, nmX10⟩
  | 11 => cases h; exact ⟨tyX11_ok, nmX11⟩
  | 12 => cases h; exact ⟨tyX12_ok, nmX12⟩
  | n + 13 => cases h
def obok (ci : Nat) (a : Int) : Prop := 0 ≤ a ∧ (kd a).1 = ci
def rdok (t : Nat) (a i : Int) : Prop := (kd a).1 = t ∧ 0 ≤ i ∧ i < ((kd a).2 : Int)
def wrok (t : Nat) (a i : Int) : Prop := 0 ≤ a ∧ (kd a).1 = t ∧ 0 ≤ i ∧ i < ((kd a).2 : Int)
/-- a field's word: class own, entry idx, is field k of class ci -/
def FW (own : String) (idx ci k : Nat) : Prop := ∃ (C : String) (T : u_T) (N : Nat), classes[ci]? = some (C, T, N) ∧ k < N ∧ (T k).1 = C ∧ Cond.fieldLink own idx C (T k).2.1 (T k).2.2.1 ∈ Tbl
def FP (own : String) (idx ci k : Nat) : Prop := ∃ (C : String) (T : u_T) (N : Nat), classes[ci]? = some (C, T, N) ∧ k < N ∧ (T k).1 = C ∧ Cond.fieldLink own idx C (T k).2.1 (T k).2.2.1 ∈ Tbl ∧ (T k).2.2.2 = false
theorem celK_obj {g : GG} {f : Int → Int} {k : Nat × Nat} (h : k.1 < 13) : celK g f k = .inr (k.1, (List.range k.2).map (fun j => cv g (ftg k.1 j, f j))) := by
  obtain ⟨c, n⟩ := k
  simp only at h
  unfold celK
  simp only
  split <;> first | omega | rfl
theorem ktg_obj {k : Nat × Nat} {j : Nat} (h : k.1 < 13) : ktg k j = ftg k.1 j := by
  obtain ⟨c, n⟩ := k
  simp only at h
  unfold ktg
  simp only
  split <;> first | omega | rfl
theorem Rp_S {g : GG} {σ : SG} {s : State} {H : Heap} {locs : List Loc} (hR : RS g σ s H) (hl : ∀ q ∈ locs, Ag g q.base) (h2 : ∀ q : Nat, q < gB g → s.heap[q]? = (gH g)[q]?) : va_S (Ag g) s.heap H locs := by
  refine ⟨hR.2, fun q _ hn => ?_, hl⟩
  have hq : q < gB g := Nat.not_le.mp hn
  rw [hR.1.2.1 q hq, h2 q hq]
theorem wsO_lt {g : GG} {σ : SG} {H : Heap} (hP : va_P (gD g) classes (wsO g σ) H) : gB g ≤ H.size := by
  have h1 := (hP 0 _ (wsO_at (by rw [kf_len]; decide))).lt
  simp only at h1
  omega
theorem Rp_put {g : GG} {σ : SG} {s : State} {H H1 : Heap} {locs : List Loc} {a : Nat} {k : Nat} {v : Int} (hR : RS g σ s H) (ha : a < KF.length) (h0 : ∀ q : Nat, q < gB g → s.heap[q]? = (gH g)[q]?) (hB : gB g ≤ s.heap.size) (hP : va_P (gD g) classes ((wsO g σ).set a (gB g + a, celK g (up σ a k v a) (kdn a))) H1) (hS : va_S (Ag g) s.heap H1 locs) (hv : okv (ktg (kdn a) k, v)) (hf : fo (kdn a).1 k = none) (ha2 : ao (kdn a).1 = none) : RS g (up σ a k v) s H1 := by
  rw [wsO_up ha] at hP
  refine ⟨⟨hP, fun q hq => ?_, Rng_up hR.1.2.2.1 hv, fun j hj => ?_, fun b j => ?_⟩, hS.1⟩
  · rw [hS.2.1 q (by omega) (Nat.not_le.mpr hq), h0 q hq]
  · show up σ a k v (-2) j = _
    unfold up
    rw [if_neg (by omega)]
    exact hR.1.2.2.2.1 j hj
  · have h5 := hR.1.2.2.2.2 b j
    simp only [up]
    by_cases hb : (b : Int) = (a : Int) ∧ (j : Int) = (k : Int)
    · have e1 : b = a := by omega
      have e2 : j = k := by omega
      subst e1; subst e2
      exact ⟨fun o ho => (by rw [hf] at ho; cases ho), fun o ho => (by rw [ha2] at ho; cases ho)⟩
    · rw [if_neg hb]
      exact h5
theorem map_set {n k : Nat} {F G : Nat → Value} {v : Value} (h1 : ∀ j, j ≠ k → G j = F j) (h2 : G k = v) : ((List.range n).map F).set k v = (List.range n).map G := by
  apply List.ext_getElem?
  intro i
  by_cases hi : i = k
  · subst hi
    by_cases hn : i < n
    · rw [List.getElem?_set_self (by simpa using hn), List.getElem?_map, List.getElem?_range hn]
      simp [h2]
    · rw [List.getElem?_eq_none (by simpa using hn), List.getElem?_eq_none (by simpa using hn)]
  · rw [List.getElem?_set_ne (Ne.symm hi), List.getElem?_map, List.getElem?_map]
    cases hr : (List.range n)[i]? with
    | none => rfl
    | some j =>
      obtain ⟨hx, hy⟩ := List.getElem?_eq_some_iff.mp hr
      rw [List.getElem_range] at hy
      subst hy
      simp [h1 i hi]
theorem ao_obj {c : Nat} (h : c < 13) : ao c = none := by
  unfold ao
  split <;> first | omega | rfl
section LF
variable {d pc : Nat} {M : MR} {ls st : List AV} {σ : SG} {Q : Int → SG → Prop}
theorem L_getf {idx ci k t : Nat} {a : Int} (hf : FW M.1.cls idx ci k) (ht : ftg ci k = t) (hd : decode M.2.1 pc = .ok (.getfield idx, 3)) (h : obok ci a ∧ L d M (pc + 3) ls ((t, σ a k) :: st) σ Q) : L d M pc ls (vA a :: st) σ Q := by
  intro l g p e s m args below meth c H locs A cx hR hl hL hst
  obtain ⟨C, T, N, hc, hk, hT, hw⟩ := hf
  obtain ⟨⟨ha0, ha⟩, h⟩ := h
  obtain ⟨n, rfl⟩ := nat_of ha0
  rw [kd_nat] at ha
  have hci : ci < 13 := by
    rcases Nat.lt_or_ge ci 13 with q | q
    · exact q
    · rw [List.getElem?_eq_none (by simpa using q)] at hc; cases hc
  have hn : n < KF.length := kdn_lt (by omega)
  have hN : (kdn n).2 = N := by
    have h9 : n < 197 := by rw [← kf_len]; exact hn
    rcases kf_ok n h9 with ⟨_, q⟩ | ⟨q, _⟩
    · rw [ha, hc] at q; exact (Option.some.inj q).symm
    · omega
  have e0 : (List.map (cv g) (vA n :: st)) = .ref (gB g + n) :: st.map (cv g) := by
    show cr g n :: _ = _
    unfold cr
    rw [if_pos (by omega)]
    simp
  rw [e0]
  have he : (wsO g σ)[n]? = some (gB g + n, .inr (ci, (List.range N).map (fun j => cv g (ftg ci j, σ n j)))) := by
    rw [wsO_at hn, celK_obj (by omega), ha, hN]
  refine va_get (D := gD g) (ci := ci) (C := C) (T := T) (N := N) (ref := C) (index := idx) (v := cv g (t, σ n k)) cx.1 cx.2.1 cx.2.2.2.2.2.2.1 (cls_tbl ci _ hc) cx.2.2.2.2.2.1 cx.2.2.2.2.2.2.2.1.1 hR.1.1 n he hc k hk (cx.2.2.2.2.2.2.1 _ hw) (fun x hx => by rw [hT] at hx; exact hx) ?_ hd ?_
  · rw [List.getElem?_map, List.getElem?_range hk, ← ht]; rfl
  · refine h l g p e s m args below meth c H locs A cx hR hl hL (cons_ok ?_ (ok_tail hst))
    have h5 := hR.1.2.2.1 n k
    rw [ktg_obj (by omega), ha, ht] at h5
    exact h5
/-- a field's store: any value that fits the field's type -/
theorem L_putf {idx ci k t : Nat} {a x : Int} (hf : FP M.1.cls idx ci k) (hfo : fo ci k = none) (ht : ftg ci k = t) (hfit : ∀ g : GG, narrow (cty ci k) (cv g (t, x)) = cv g (t, x) ∧ fits (cty ci k) (cv g (t, x)) = true) (hd : decode M.2.1 pc = .ok (.putfield idx, 3)) (h : obok ci a ∧ L d M (pc + 3) ls st (up σ a k x) Q) : L d M pc ls ((t, x) :: vA a :: st) σ Q := by
  intro l g p e s m args below meth c H locs A cx hR hl hL hst
  obtain ⟨C, T, N, hc, hk, hT, hw, hfin⟩ := hf
  obtain ⟨⟨ha0, ha⟩, h⟩ := h
  obtain ⟨n, rfl⟩ := nat_of ha0
  rw [kd_nat] at ha
  have hci : ci < 13 := by
    rcases Nat.lt_or_ge ci 13 with q | q
    · exact q
    · rw [List.getElem?_eq_none (by simpa using q)] at hc; cases hc
  have hn : n < KF.length := kdn_lt (by omega)
  have hN : (kdn n).2 = N := by
    have h9 : n < 197 := by rw [← kf_len]; exact hn
    rcases kf_ok n h9 with ⟨_, q⟩ | ⟨q, _⟩
    · rw [ha, hc] at q; exact (Option.some.inj q).symm
    · omega
  have e0 : (List.map (cv g) ((t, x) :: vA n :: st)) = cv g (t, x) :: .ref (gB g + n) :: st.map (cv g) := by
    show _ :: cr g n :: _ = _
    unfold cr
    rw [if_pos (by omega)]
    simp
  rw [e0]
  have he : (wsO g σ)[n]? = some (gB g + n, .inr (ci, (List.range N).map (fun j => cv g (ftg ci j, σ n j)))) := by
    rw [wsO_at hn, celK_obj (by omega), ha, hN]
  have hS := Rp_S hR hl cx.2.2.2.2.2.2.2.2.2
  have hset : ((List.range N).map (fun j => cv g (ftg ci j, σ n j))).set k (cv g (t, x)) = (List.range N).map (fun j => cv g (ftg ci j, up σ n k x n j)) := by
    apply map_set
    · intro j hj
      unfold up
      rw [if_neg (by omega)]
    · unfold up
      rw [if_pos ⟨rfl, rfl⟩, ht]
  refine va_put (D := gD g) (A := Ag g) (ci := ci) (C := C) (T := T) (N := N) (ref := C) (index := idx) (ty := cty ci k) (v := cv g (t, x)) cx.1 cx.2.1 cx.2.2.2.2.2.2.1 (cls_tbl ci _ hc) (cty ci) (cls_ty ci _ hc).1 (cls_ty ci _ hc).2 cx.2.2.2.2.2.1 cx.2.2.2.2.2.2.2.1.1 hR.1.1 (wsO_D g σ) hS n he hc k hk (cx.2.2.2.2.2.2.1 _ hw) (fun x hx => by rw [hT] at hx; exact hx) hfin ((cls_ty ci _ hc).1 k hk) (hfit g).1 (hfit g).2 (by simpa using hk) hd (fun H1 locs1 hP1 hD1 hS1 => ?_)
  rw [hset] at hP1
  have hcel : celK g (up σ n k x n) (kdn n) = .inr (ci, (List.range N).map (fun j => cv g (ftg ci j, up σ n k x n j))) := by
    rw [celK_obj (by omega), ha, hN]
  rw [← hcel] at hP1
  have hok : okv (ktg (kdn n) k, x) := by rw [ktg_obj (by omega), ha, ht]; exact ok_head hst
  exact h l g p e s m args below meth c H1 locs1 A cx (Rp_put hR hn cx.2.2.2.2.2.2.2.2.2 cx.2.2.2.2.2.2.2.2.1 hP1 hS1 hok (by rw [ha]; exact hfo) (by rw [ha]; exact ao_obj hci)) hS1.2.2 hL (ok_tail (ok_tail hst))
/-- a final reference: its place is known -/
theorem L_getF {idx ci k : Nat} {a b o : Int} (hf : FW M.1.cls idx ci k) (ht : ftg ci k = 2) (ho : fo ci k = some o) (hb : a + o = b) (hd : decode M.2.1 pc = .ok (.getfield idx, 3)) (h : obok ci a ∧ L d M (pc + 3) ls (vA b :: st) σ Q) : L d M pc ls (vA a :: st) σ Q := by
  intro l g p e s m args below meth c H locs A cx hR hl hL hst
  obtain ⟨n, hn⟩ := nat_of h.1.1
  subst hn
  have h2 : (kdn n).1 = ci := by rw [← kd_nat]; exact h.1.2
  have h3 : σ n k = b := by rw [(hR.1.2.2.2.2 n k).1 o (by rw [h2]; exact ho)]; exact hb
  exact L_getf hf ht hd ⟨h.1, by rw [h3]; exact h.2⟩ l g p e s m args below meth c H locs A cx hR hl hL hst
end LF
