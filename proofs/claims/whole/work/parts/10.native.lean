/-! ===== System.arraycopy, Math.min, Math.max, Math.abs ===== -/
def cpy (σ : SG) (src sp dst dp n : Int) : SG := fun a k => if a = dst ∧ dp ≤ k ∧ k < dp + n then σ src (sp + (k - dp)) else σ a k
theorem wsO_ch {g : GG} {σ σ' : SG} {a : Nat} (h : a < KF.length) (ho : ∀ b : Nat, b ≠ a → σ' (b : Int) = σ (b : Int)) : (wsO g σ).set a (gB g + a, celK g (σ' a) (kdn a)) = wsO g σ' := by
  apply List.ext_getElem?
  intro i
  by_cases hi : i = a
  · subst hi
    rw [List.getElem?_set_self (by unfold wsO; simpa using h), wsO_at h]
  · rw [List.getElem?_set_ne (Ne.symm hi)]
    by_cases h2 : i < KF.length
    · rw [wsO_at h2, wsO_at h2, ho i hi]
    · rw [List.getElem?_eq_none (by unfold wsO; simpa using h2), List.getElem?_eq_none (by unfold wsO; simpa using h2)]
theorem cpy_off {σ : SG} {src sp dp n : Int} {a b : Nat} (h : b ≠ a) : cpy σ src sp a dp n (b : Int) = σ (b : Int) := by
  funext k
  unfold cpy
  rw [if_neg (by omega)]
theorem Rp_ch {g : GG} {σ σ' : SG} {s : State} {H H1 : Heap} {locs : List Loc} {a : Nat} (hR : RS g σ s H) (ha : a < KF.length) (ho : ∀ b : Nat, b ≠ a → σ' (b : Int) = σ (b : Int)) (hu : σ' (-2) = σ (-2)) (h0 : ∀ q : Nat, q < gB g → s.heap[q]? = (gH g)[q]?) (hB : gB g ≤ s.heap.size) (hP : va_P (gD g) classes ((wsO g σ).set a (gB g + a, celK g (σ' a) (kdn a))) H1) (hS : va_S (Ag g) s.heap H1 locs) (hv : ∀ j : Nat, okv (ktg (kdn a) j, σ' a j)) (hf : ∀ j, fo (kdn a).1 j = none) (ha2 : ao (kdn a).1 = none) : RS g σ' s H1 := by
  rw [wsO_ch ha ho] at hP
  refine ⟨⟨hP, fun q hq => ?_, fun b j => ?_, fun j hj => ?_, fun b j => ?_⟩, hS.1⟩
  · rw [hS.2.1 q (by omega) (Nat.not_le.mpr hq), h0 q hq]
  · by_cases hb : b = a
    · subst hb; exact hv j
    · rw [ho b hb]; exact hR.1.2.2.1 b j
  · rw [hu]; exact hR.1.2.2.2.1 j hj
  · by_cases hb : b = a
    · subst hb
      exact ⟨fun o ho => (by rw [hf] at ho; cases ho), fun o ho => (by rw [ha2] at ho; cases ho)⟩
    · rw [ho b hb]; exact hR.1.2.2.2.2 b j
theorem ac_words : Cond.native arraycopyName ∈ Tbl ∧ Cond.static arraycopyName ∈ Tbl ∧ Cond.initialized "java/lang/System" ∈ Tbl ∧ Cond.static Lib.Math.max.name ∈ Tbl ∧ Cond.static Lib.Math.min.name ∈ Tbl ∧ Cond.initialized "java/lang/Math" ∈ Tbl ∧ Cond.code Lib.Math.max.name Lib.Math.max.code 2 (some .int) ∈ Tbl ∧ Cond.code Lib.Math.min.name Lib.Math.min.code 2 (some .int) ∈ Tbl ∧ Cond.static Lib.MathLoose.abs_long.x ∈ Tbl ∧ Cond.code Lib.MathLoose.abs_long.x Lib.MathLoose.abs_long.code 2 (some .long) ∈ Tbl := by decide +kernel
theorem ac_room : nativeFrameWords "java/lang/System" "arraycopy" 5 ≤ 20 := by decide +kernel
theorem nlt32 {x : Int} (hx : inI x) (h : 0 ≤ x) : ¬ Int32.ofInt x < 0 := by
  rw [zero32, lt32 hx in0]; omega
section LN
variable {d pc : Nat} {M : MR} {ls st : List AV} {σ : SG} {Q : Int → SG → Prop}
theorem L_copyI {idx : Nat} {n dp dst sp src : Int} (hw : Cond.methodLink M.1.cls idx arraycopyName ∈ Tbl) (hc : (st.map catv).sum ≤ 8) (hd : decode M.2.1 pc = .ok (.invokestatic idx, 3))
    (h : (0 ≤ dst ∧ (kd dst).1 = 100 ∧ (kd src).1 = 100 ∧ 0 ≤ sp ∧ 0 ≤ dp ∧ 0 ≤ n ∧ sp + n ≤ ((kd src).2 : Int) ∧ dp + n ≤ ((kd dst).2 : Int)) ∧ L (d + 1) M (pc + 3) ls st (cpy σ src sp dst dp n) Q) :
    L (d + 1) M pc ls (vI n :: vI dp :: vA dst :: vI sp :: vA src :: st) σ Q := by
  intro l g p e s m args below meth c H locs A cx hR hl hL hst
  obtain ⟨⟨hd0, hdk, hsk, hsp, hdp, hn, hs1, hd1⟩, h⟩ := h
  have in_n : inI n := ok_head hst
  have in_dp : inI dp := ok_head (ok_tail hst)
  have in_sp : inI sp := ok_head (ok_tail (ok_tail (ok_tail hst)))
  have hst' : ∀ v ∈ st, okv v := ok_tail (ok_tail (ok_tail (ok_tail (ok_tail hst))))
  obtain ⟨b, rfl⟩ := nat_of hd0
  rw [kd_nat] at hdk hd1
  have hb : b < KF.length := kdn_lt (by omega)
  have hS := Rp_S hR hl cx.2.2.2.2.2.2.2.2.2
  obtain ⟨w1, w2, w3, -⟩ := ac_words
  have hlo : ((st.map (cv g)).map fun v => v.category).sum + (nativeFrameWords "java/lang/System" "arraycopy" 5 + 11) ≤ (rmd (d + 1)).locals := by
    rw [cat_sum]
    have := ac_room
    show _ ≤ 40 * (d + 1)
    omega
  have nn : n.toNat = (Int32.ofInt n).toNatClampNeg := (clamp32 in_n).symm
  have ns : sp.toNat = (Int32.ofInt sp).toNatClampNeg := (clamp32 in_sp).symm
  have nd : dp.toNat = (Int32.ofInt dp).toNatClampNeg := (clamp32 in_dp).symm
  have fin : ∀ (H1 : Heap) (locs1 : List Loc), va_P (gD g) classes ((wsO g σ).set b (gB g + b, .inl (gC g 0, (kdn b).2, .inl (va_cpy (fun j => Int32.ofInt (σ src j)) (fun j => Int32.ofInt (σ b j)) (Int32.ofInt sp).toNatClampNeg (Int32.ofInt dp).toNatClampNeg (Int32.ofInt n).toNatClampNeg)))) H1 → va_S (Ag g) s.heap H1 locs1 →
      W p l e (rmd (d + 1)) s m args below meth c H1 locs1 0 0 (MQ below (Qc g (rtg M.2.2.2) Q) args s 0 0 (Ag g)) (F0 m (pc + 3) A (st.map (cv g))) := by
    intro H1 locs1 hP1 hS1
    have hcel : celK g (cpy σ src sp b dp n b) (kdn b) = .inl (gC g 0, (kdn b).2, .inl (va_cpy (fun j => Int32.ofInt (σ src j)) (fun j => Int32.ofInt (σ b j)) (Int32.ofInt sp).toNatClampNeg (Int32.ofInt dp).toNatClampNeg (Int32.ofInt n).toNatClampNeg)) := by
      rw [celK_100 hdk]
      congr 4
      funext k
      rw [← nn, ← ns, ← nd]
      simp only [cpy, va_cpy]
      by_cases hk : dp ≤ (k : Int) ∧ (k : Int) < dp + n
      · rw [if_pos ⟨trivial, hk⟩, if_pos (by omega)]
        congr 2
        omega
      · rw [if_neg (by omega), if_neg (by omega)]
    rw [← hcel] at hP1
    refine h l g p e s m args below meth c H1 locs1 A cx (Rp_ch hR hb (fun b' hb' => cpy_off hb') (by funext k; unfold cpy; rw [if_neg (by omega)]) cx.2.2.2.2.2.2.2.2.2 cx.2.2.2.2.2.2.2.2.1 hP1 hS1 ?_ (by rw [hdk]; exact fun _ => rfl) (by rw [hdk]; rfl)) hS1.2.2 hL hst'
    intro j
    rw [ktg_at hdk]
    show inI (cpy σ src sp b dp n b j)
    unfold cpy
    by_cases hk : (b : Int) = b ∧ dp ≤ (j : Int) ∧ (j : Int) < dp + n
    · rw [if_pos hk]
      obtain ⟨q, hq⟩ := nat_of (show 0 ≤ sp + ((j : Int) - dp) by omega)
      rw [hq]
      by_cases ha : 0 ≤ src
      · obtain ⟨a, rfl⟩ := nat_of ha
        rw [kd_nat] at hsk
        have h5 := hR.1.2.2.1 a q
        rw [ktg_at hsk] at h5
        exact h5
      · obtain ⟨rfl, -, h25⟩ := kd_neg hsk ha (by decide)
        rw [h25] at hs1
        rw [hR.1.2.2.2.1 q (by omega)]
        unfold unitv inI; split <;> decide
    · rw [if_neg hk]
      have h5 := hR.1.2.2.1 b j
      rw [ktg_at hdk] at h5
      exact h5
  by_cases ha : 0 ≤ src
  · obtain ⟨a, rfl⟩ := nat_of ha
    rw [kd_nat] at hsk hs1
    have e0 : (List.map (cv g) (vI n :: vI dp :: vA b :: vI sp :: vA a :: st)) = .int (Int32.ofInt n) :: .int (Int32.ofInt dp) :: .ref (gB g + b) :: .int (Int32.ofInt sp) :: .ref (gB g + a) :: st.map (cv g) := by
      show _ :: _ :: cr g b :: _ :: cr g a :: _ = _
      rw [cr_nat, cr_nat]; rfl
    rw [e0]
    refine va_copyi (D := gD g) (A := Ag g) (tys := tysA g) (ty := .int) cx.1 cx.2.1 (by rw [cx.2.2.1]; exact hL.1.1.symm) cx.2.2.2.2.2.1 (cx.2.2.2.2.2.2.1 _ hw) (cx.2.2.2.2.2.2.1 _ w1) (cx.2.2.2.2.2.2.1 _ w2) (cx.2.2.2.2.2.2.1 _ w3) cx.2.2.2.2.2.2.2.1.1 hR.1.1 (wsO_D g σ) hS a b 0 0
      (by rw [wsO_at (kdn_lt (by omega)), celK_100 hsk]) (by rw [wsO_at hb, celK_100 hdk]) rfl rfl rfl (nlt32 in_sp hsp) (nlt32 in_dp hdp) (nlt32 in_n hn) (by rw [← ns, ← nn]; omega) (by rw [← nd, ← nn]; omega) (fun _ _ => rfl) (by show 1 ≤ d + 1; omega) hlo hd (fun H1 locs1 hP1 _ hS1 => fin H1 locs1 hP1 hS1)
  · obtain ⟨rfl, -, h25⟩ := kd_neg hsk ha (by decide)
    rw [h25] at hs1
    obtain ⟨⟨N, xs, hX, hN, -, hxs⟩, hlt⟩ := cx.2.2.2.2.2.2.2.1.2.2.2.2.1
    have hX2 : va_X (gU g) N xs s s.heap := by
      obtain ⟨cell, c1, c2⟩ := hX
      exact ⟨cell, by rw [cx.2.2.2.2.2.2.2.2.2 _ hlt]; exact c1, c2⟩
    have hsn : (Int32.ofInt sp).toNatClampNeg + (Int32.ofInt n).toNatClampNeg ≤ 25 := by rw [← ns, ← nn]; omega
    have hcp : va_cpy xs (fun j => Int32.ofInt (σ b j)) (Int32.ofInt sp).toNatClampNeg (Int32.ofInt dp).toNatClampNeg (Int32.ofInt n).toNatClampNeg = va_cpy (fun j => Int32.ofInt (σ (-2) j)) (fun j => Int32.ofInt (σ b j)) (Int32.ofInt sp).toNatClampNeg (Int32.ofInt dp).toNatClampNeg (Int32.ofInt n).toNatClampNeg := by
      funext k
      unfold va_cpy
      by_cases hk : (Int32.ofInt dp).toNatClampNeg ≤ k ∧ k < (Int32.ofInt dp).toNatClampNeg + (Int32.ofInt n).toNatClampNeg
      · rw [if_pos hk, if_pos hk, hxs _ (by omega), ← hR.1.2.2.2.1 _ (by omega)]
      · rw [if_neg hk, if_neg hk]
    have e0 : (List.map (cv g) (vI n :: vI dp :: vA b :: vI sp :: vA (-2) :: st)) = .int (Int32.ofInt n) :: .int (Int32.ofInt dp) :: .ref (gB g + b) :: .int (Int32.ofInt sp) :: .ref (gU g) :: st.map (cv g) := by
      show _ :: _ :: cr g b :: _ :: cr g (-2) :: _ = _
      rw [cr_nat, cr_units]; rfl
    rw [e0]
    refine va_copyx (D := gD g) (A := Ag g) (tys := tysA g) cx.1 cx.2.1 (by rw [cx.2.2.1]; exact hL.1.1.symm) cx.2.2.2.2.2.1 (cx.2.2.2.2.2.2.1 _ hw) (cx.2.2.2.2.2.2.1 _ w1) (cx.2.2.2.2.2.2.1 _ w2) (cx.2.2.2.2.2.2.1 _ w3) cx.2.2.2.2.2.2.2.1.1 hR.1.1 (wsO_D g σ) hS hX2 (Nat.lt_of_lt_of_le hlt cx.2.2.2.2.2.2.2.2.1) (Nat.not_le.mpr hlt) b 0
      (by rw [wsO_at hb, celK_100 hdk]) rfl (nlt32 in_sp hsp) (nlt32 in_dp hdp) (nlt32 in_n hn) (Nat.le_trans hsn hN) (by rw [← nd, ← nn]; omega) (by show 1 ≤ d + 1; omega) hlo hd (fun H1 locs1 hP1 _ hS1 => fin H1 locs1 (by rw [hcp] at hP1; exact hP1) hS1)
/-- arraycopy of long arrays of ours -/
theorem L_copyJ {idx : Nat} {n dp dst sp src : Int} (hw : Cond.methodLink M.1.cls idx arraycopyName ∈ Tbl) (hc : (st.map catv).sum ≤ 8) (hd : decode M.2.1 pc = .ok (.invokestatic idx, 3))
    (h : (0 ≤ dst ∧ 0 ≤ src ∧ (kd dst).1 = 101 ∧ (kd src).1 = 101 ∧ 0 ≤ sp ∧ 0 ≤ dp ∧ 0 ≤ n ∧ sp + n ≤ ((kd src).2 : Int) ∧ dp + n ≤ ((kd dst).2 : Int)) ∧ L (d + 1) M (pc + 3) ls st (cpy σ src sp dst dp n) Q) :
    L (d + 1) M pc ls (vI n :: vI dp :: vA dst :: vI sp :: vA src :: st) σ Q := by
  intro l g p e s m args below meth c H locs A cx hR hl hL hst
  obtain ⟨⟨hd0, hs0, hdk, hsk, hsp, hdp, hn, hs1, hd1⟩, h⟩ := h
  have in_n : inI n := ok_head hst
  have in_dp : inI dp := ok_head (ok_tail hst)
  have in_sp : inI sp := ok_head (ok_tail (ok_tail (ok_tail hst)))
  have hst' : ∀ v ∈ st, okv v := ok_tail (ok_tail (ok_tail (ok_tail (ok_tail hst))))
  obtain ⟨b, rfl⟩ := nat_of hd0
  obtain ⟨a, rfl⟩ := nat_of hs0
  rw [kd_nat] at hdk hd1 hsk hs1
  have hb : b < KF.length := kdn_lt (by omega)
  have hS := Rp_S hR hl cx.2.2.2.2.2.2.2.2.2
  obtain ⟨w1, w2, w3, -⟩ := ac_words
  have hlo : ((st.map (cv g)).map fun v => v.category).sum + (nativeFrameWords "java/lang/System" "arraycopy" 5 + 11) ≤ (rmd (d + 1)).locals := by
    rw [cat_sum]
    have := ac_room
    show _ ≤ 40 * (d + 1)
    omega
  have nn : n.toNat = (Int32.ofInt n).toNatClampNeg := (clamp32 in_n).symm
  have ns : sp.toNat = (Int32.ofInt sp).toNatClampNeg := (clamp32 in_sp).symm
  have nd : dp.toNat = (Int32.ofInt dp).toNatClampNeg := (clamp32 in_dp).symm
  have e0 : (List.map (cv g) (vI n :: vI dp :: vA b :: vI sp :: vA a :: st)) = .int (Int32.ofInt n) :: .int (Int32.ofInt dp) :: .ref (gB g + b) :: .int (Int32.ofInt sp) :: .ref (gB g + a) :: st.map (cv g) := by
    show _ :: _ :: cr g b :: _ :: cr g a :: _ = _
    rw [cr_nat, cr_nat]; rfl
  rw [e0]
  refine va_copyl (D := gD g) (A := Ag g) (tys := tysA g) (ty := .long) cx.1 cx.2.1 (by rw [cx.2.2.1]; exact hL.1.1.symm) cx.2.2.2.2.2.1 (cx.2.2.2.2.2.2.1 _ hw) (cx.2.2.2.2.2.2.1 _ w1) (cx.2.2.2.2.2.2.1 _ w2) (cx.2.2.2.2.2.2.1 _ w3) cx.2.2.2.2.2.2.2.1.1 hR.1.1 (wsO_D g σ) hS a b 1 1
    (by rw [wsO_at (kdn_lt (by omega)), celK_101 hsk]) (by rw [wsO_at hb, celK_101 hdk]) rfl rfl rfl (nlt32 in_sp hsp) (nlt32 in_dp hdp) (nlt32 in_n hn) (by rw [← ns, ← nn]; omega) (by rw [← nd, ← nn]; omega) (fun _ _ => rfl) (by show 1 ≤ d + 1; omega) hlo hd (fun H1 locs1 hP1 _ hS1 => ?_)
  have hcel : celK g (cpy σ a sp b dp n b) (kdn b) = .inl (gC g 1, (kdn b).2, .inr (.inl (va_cpy (fun j => Int64.ofInt (σ a j)) (fun j => Int64.ofInt (σ b j)) (Int32.ofInt sp).toNatClampNeg (Int32.ofInt dp).toNatClampNeg (Int32.ofInt n).toNatClampNeg))) := by
    rw [celK_101 hdk]
    congr 5
    funext k
    rw [← nn, ← ns, ← nd]
    simp only [cpy, va_cpy]
    by_cases hk : dp ≤ (k : Int) ∧ (k : Int) < dp + n
    · rw [if_pos ⟨trivial, hk⟩, if_pos (by omega)]
      congr 2
      omega
    · rw [if_neg (by omega), if_neg (by omega)]
  rw [← hcel] at hP1
  refine h l g p e s m args below meth c H1 locs1 A cx (Rp_ch hR hb (fun b' hb' => cpy_off hb') (by funext k; unfold cpy; rw [if_neg (by omega)]) cx.2.2.2.2.2.2.2.2.2 cx.2.2.2.2.2.2.2.2.1 hP1 hS1 ?_ (by rw [hdk]; exact fun _ => rfl) (by rw [hdk]; rfl)) hS1.2.2 hL hst'
  intro j
  rw [ktg_at hdk]
  show inJ (cpy σ a sp b dp n b j)
  unfold cpy
  by_cases hk : (b : Int) = b ∧ dp ≤ (j : Int) ∧ (j : Int) < dp + n
  · rw [if_pos hk]
    obtain ⟨q, hq⟩ := nat_of (show 0 ≤ sp + ((j : Int) - dp) by omega)
    rw [hq]
    have h5 := hR.1.2.2.1 a q
    rw [ktg_at hsk] at h5
    exact h5
  · rw [if_neg hk]
    have h5 := hR.1.2.2.1 b j
    rw [ktg_at hdk] at h5
    exact h5
theorem L_max {idx : Nat} {x y : Int} (hw : Cond.methodLink M.1.cls idx Lib.Math.max.name ∈ Tbl) (hc : (st.map catv).sum ≤ 8) (hd : decode M.2.1 pc = .ok (.invokestatic idx, 3)) (h : L (d + 1) M (pc + 3) ls (vI (max x y) :: st) σ Q) : L (d + 1) M pc ls (vI y :: vI x :: st) σ Q := by
  intro l g p e s m args below meth c H locs A cx hR hl hL hst
  obtain ⟨-, -, -, w4, w5, w6, w7, w8, -⟩ := ac_words
  have hx : inI x := ok_head (ok_tail hst)
  have hy : inI y := ok_head hst
  refine va_mmax cx.1 cx.2.1 (by rw [cx.2.2.1]; exact hL.1.1.symm) cx.2.2.2.2.2.1 (cx.2.2.2.2.2.2.1 _ hw) (cx.2.2.2.2.2.2.1 _ w4) (cx.2.2.2.2.2.2.1 _ w6) (cx.2.2.2.2.2.2.1 _ w7) (by show 1 ≤ d + 1; omega) (by rw [cat_sum]; show _ ≤ 40 * (d + 1); omega) (Nat.le_refl _) (Nat.le_refl _) hd (h.push (v := vI (max x y)) ?_ cx hR hl hL (ok_tail (ok_tail hst)) ?_)
  · show inI (max x y)
    unfold inI at *; omega
  · show Value.int _ = Value.int _
    congr 1
    show Int32.ofInt (max x y) = if Int32.ofInt x < Int32.ofInt y then Int32.ofInt y else Int32.ofInt x
    by_cases h1 : x < y
    · rw [if_pos ((lt32 hx hy).mpr h1), show max x y = y by omega]
    · rw [if_neg (fun z => h1 ((lt32 hx hy).mp z)), show max x y = x by omega]
theorem L_min {idx : Nat} {x y : Int} (hw : Cond.methodLink M.1.cls idx Lib.Math.min.name ∈ Tbl) (hc : (st.map catv).sum ≤ 8) (hd : decode M.2.1 pc = .ok (.invokestatic idx, 3)) (h : L (d + 1) M (pc + 3) ls (vI (min x y) :: st) σ Q) : L (d + 1) M pc ls (vI y :: vI x :: st) σ Q := by
  intro l g p e s m args below meth c H locs A cx hR hl hL hst
  obtain ⟨-, -, -, w4, w5, w6, w7, w8, -⟩ := ac_words
  have hx : inI x := ok_head (ok_tail hst)
  have hy : inI y := ok_head hst
  refine va_mmin cx.1 cx.2.1 (by rw [cx.2.2.1]; exact hL.1.1.symm) cx.2.2.2.2.2.1 (cx.2.2.2.2.2.2.1 _ hw) (cx.2.2.2.2.2.2.1 _ w5) (cx.2.2.2.2.2.2.1 _ w6) (cx.2.2.2.2.2.2.1 _ w8) (by show 1 ≤ d + 1; omega) (by rw [cat_sum]; show _ ≤ 40 * (d + 1); omega) (Nat.le_refl _) (Nat.le_refl _) hd (h.push (v := vI (min x y)) ?_ cx hR hl hL (ok_tail (ok_tail hst)) ?_)
  · show inI (min x y)
    unfold inI at *; omega
  · show Value.int _ = Value.int _
    congr 1
    first
    | (show Int32.ofInt (min x y) = if Int32.ofInt x < Int32.ofInt y then Int32.ofInt x else Int32.ofInt y
       by_cases h1 : x < y
       · rw [if_pos ((lt32 hx hy).mpr h1), show min x y = x by omega]
       · rw [if_neg (fun z => h1 ((lt32 hx hy).mp z)), show min x y = y by omega])
    | (show Int32.ofInt (min x y) = if Int32.ofInt y < Int32.ofInt x then Int32.ofInt y else Int32.ofInt x
       by_cases h1 : y < x
       · rw [if_pos ((lt32 hy hx).mpr h1), show min x y = y by omega]
       · rw [if_neg (fun z => h1 ((lt32 hy hx).mp z)), show min x y = x by omega])
theorem L_absJ {idx : Nat} {x : Int} (hw : Cond.methodLink M.1.cls idx Lib.MathLoose.abs_long.x ∈ Tbl) (hc : (st.map catv).sum ≤ 8) (hd : decode M.2.1 pc = .ok (.invokestatic idx, 3)) (h : L (d + 1) M (pc + 3) ls (vJ (if 0 < x then x else w64 (-x)) :: st) σ Q) : L (d + 1) M pc ls (vJ x :: st) σ Q := by
  intro l g p e s m args below meth c H locs A cx hR hl hL hst
  obtain ⟨-, -, -, -, -, w6, -, -, w9, w10⟩ := ac_words
  have hx : inJ x := ok_head hst
  refine va_mabs_long cx.1 cx.2.1 (by rw [cx.2.2.1]; exact hL.1.1.symm) cx.2.2.2.2.2.1 (cx.2.2.2.2.2.2.1 _ hw) (cx.2.2.2.2.2.2.1 _ w9) (cx.2.2.2.2.2.2.1 _ w6) (cx.2.2.2.2.2.2.1 _ w10) (by show 1 ≤ d + 1; omega) (by rw [cat_sum]; show _ ≤ 40 * (d + 1); omega) (Nat.le_refl _) (Nat.le_refl _) hd (h.push (v := vJ (if 0 < x then x else w64 (-x))) ?_ cx hR hl hL (ok_tail hst) ?_)
  · show inJ _
    split
    · exact hx
    · exact w64_in _
  · show Value.long _ = Value.long _
    congr 1
    show Int64.ofInt (if 0 < x then x else w64 (-x)) = if 0 < Int64.ofInt x then Int64.ofInt x else -Int64.ofInt x
    have e0 : (0 : Int64) = Int64.ofInt 0 := by decide
    by_cases h1 : 0 < x
    · rw [if_pos h1, if_pos (by rw [e0]; exact (lt64 inJ0 hx).mpr h1)]
    · rw [if_neg h1, if_neg (fun z => h1 ((lt64 inJ0 hx).mp (by rw [← e0]; exact z))), of_w64, Int64.ofInt_neg]
end LN
