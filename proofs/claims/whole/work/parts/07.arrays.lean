/-! ===== arrays ===== -/
theorem cr_nat (g : GG) (n : Nat) : cr g (n : Int) = .ref (gB g + n) := by
  unfold cr
  rw [if_pos (by omega)]
  simp
theorem cr_units (g : GG) : cr g (-2) = .ref (gU g) := by
  unfold cr
  rw [if_neg (by omega), if_neg (by omega), if_pos rfl]
theorem vq_in {i : Int} {n : Nat} (hi : inI i) (h0 : 0 ≤ i) (h1 : i < (n : Int)) : vp_in (Int32.ofInt i) n := by
  rintro (h | h)
  · rw [zero32, lt32 hi in0] at h
    omega
  · rw [clamp32 hi] at h
    omega
theorem kd_neg {a : Int} {t : Nat} (h : (kd a).1 = t) (ha : ¬ 0 ≤ a) (ht : t ≠ 999) : a = -2 ∧ t = 100 ∧ (kd a).2 = 25 := by
  unfold kd at *
  rw [if_neg ha] at h ⊢
  by_cases h2 : a = -2
  · rw [if_pos h2] at h ⊢
    exact ⟨h2, h.symm, rfl⟩
  · rw [if_neg h2] at h
    exact absurd h.symm ht
theorem celK_100 {g : GG} {f : Int → Int} {k : Nat × Nat} (h : k.1 = 100) : celK g f k = .inl (gC g 0, k.2, .inl (fun j => Int32.ofInt (f j))) := by
  obtain ⟨c, n⟩ := k; subst h; rfl
theorem celK_101 {g : GG} {f : Int → Int} {k : Nat × Nat} (h : k.1 = 101) : celK g f k = .inl (gC g 1, k.2, .inr (.inl (fun j => Int64.ofInt (f j)))) := by
  obtain ⟨c, n⟩ := k; subst h; rfl
theorem celK_102 {g : GG} {f : Int → Int} {k : Nat × Nat} (h : k.1 = 102) : celK g f k = .inl (gC g 2, k.2, .inl (fun j => Int32.ofInt (f j))) := by
  obtain ⟨c, n⟩ := k; subst h; rfl
theorem celK_103 {g : GG} {f : Int → Int} {k : Nat × Nat} (h : k.1 = 103) : celK g f k = .inl (gC g 3, k.2, .inl (fun j => Int32.ofInt (f j))) := by
  obtain ⟨c, n⟩ := k; subst h; rfl
theorem celK_ref {g : GG} {f : Int → Int} {k : Nat × Nat} (h1 : 104 ≤ k.1) (h2 : k.1 ≤ 106) : celK g f k = .inl (gC g (k.1 - 100), k.2, .inr (.inr (.inr (.inr (fun j => rfo g (f j)))))) := by
  obtain ⟨c, n⟩ := k
  simp only at h1 h2
  have : c = 104 ∨ c = 105 ∨ c = 106 := by omega
  rcases this with rfl | rfl | rfl <;> rfl
theorem ktg_at {k : Nat × Nat} {t : Nat} {j : Nat} (h : k.1 = t) : ktg k j = ktg (t, k.2) j := by
  obtain ⟨c, n⟩ := k; subst h; rfl
section LA
variable {d pc : Nat} {M : MR} {ls st : List AV} {σ : SG} {Q : Int → SG → Prop}
theorem L_iaload {a i : Int} (hd : decode M.2.1 pc = .ok (.iaload, 1)) (h : rdok 100 a i ∧ L d M (pc + 1) ls (vI (σ a i) :: st) σ Q) : L d M pc ls (vI i :: vA a :: st) σ Q := by
  intro l g p e s m args below meth c H locs A cx hR hl hL hst
  obtain ⟨⟨hk, hi0, hi1⟩, h⟩ := h
  have hi : inI i := ok_head hst
  by_cases ha : 0 ≤ a
  · obtain ⟨n, rfl⟩ := nat_of ha
    obtain ⟨j, rfl⟩ := nat_of hi0
    rw [kd_nat] at hk hi1
    have e0 : (List.map (cv g) (vI j :: vA n :: st)) = .int (Int32.ofInt j) :: .ref (gB g + n) :: st.map (cv g) := by
      show _ :: cr g n :: _ = _
      rw [cr_nat]; rfl
    rw [e0]
    refine va_iald (D := gD g) (tys := tysA g) cx.1 cx.2.1 cx.2.2.2.2.2.2.2.1.1 hR.1.1 n 0 (by rw [wsO_at (kdn_lt (by omega)), celK_100 hk]) rfl (vq_in hi hi0 hi1) hd ?_
    have h5 := hR.1.2.2.1 n j
    rw [ktg_at hk] at h5
    refine h.push h5 cx hR hl hL (ok_tail (ok_tail hst)) ?_
    show Value.int _ = Value.int _
    rw [clamp32 hi]
    simp
  · obtain ⟨rfl, -, h25⟩ := kd_neg hk ha (by decide)
    obtain ⟨j, rfl⟩ := nat_of hi0
    rw [h25] at hi1
    obtain ⟨⟨N, xs, ⟨cell, c1, c2, c3, c4, c6⟩, hN, -, hxs⟩, hlt⟩ := cx.2.2.2.2.2.2.2.1.2.2.2.2.1
    have e0 : (List.map (cv g) (vI j :: vA (-2) :: st)) = .int (Int32.ofInt j) :: .ref (gU g) :: st.map (cv g) := by
      show _ :: cr g (-2) :: _ = _
      rw [cr_units]; rfl
    rw [e0]
    have hcell : H[gU g]? = some cell := by rw [hR.1.2.1 _ hlt]; exact c1
    have hclamp : (Int32.ofInt (j : Int)).toNatClampNeg = j := by rw [clamp32 hi]; simp
    refine W.iald cx.1 cx.2.1 hcell c2 c3 ?_ (v := .int (Int32.ofInt (unitv j))) (by rw [hclamp, c6 j (by omega), hxs j (by omega)]) rfl rfl hd ?_
    · rintro (q | q)
      · rw [zero32, lt32 hi in0] at q; omega
      · rw [hclamp] at q; omega
    · have hu := hR.1.2.2.2.1 j (by omega)
      refine h.push (v := vI (σ (-2) j)) ?_ cx hR hl hL (ok_tail (ok_tail hst)) ?_
      · show inI (σ (-2) j)
        rw [hu]; unfold unitv inI; split <;> decide
      · show Value.int _ = _
        rw [hu]
theorem L_laload {a i : Int} (hd : decode M.2.1 pc = .ok (.laload, 1)) (h : rdok 101 a i ∧ L d M (pc + 1) ls (vJ (σ a i) :: st) σ Q) : L d M pc ls (vI i :: vA a :: st) σ Q := by
  intro l g p e s m args below meth c H locs A cx hR hl hL hst
  obtain ⟨⟨hk, hi0, hi1⟩, h⟩ := h
  have hi : inI i := ok_head hst
  have ha : 0 ≤ a := by
    by_cases ha : 0 ≤ a
    · exact ha
    · have := kd_neg hk ha (by decide); omega
  obtain ⟨n, rfl⟩ := nat_of ha
  obtain ⟨j, rfl⟩ := nat_of hi0
  rw [kd_nat] at hk hi1
  have e0 : (List.map (cv g) (vI j :: vA n :: st)) = .int (Int32.ofInt j) :: .ref (gB g + n) :: st.map (cv g) := by
    show _ :: cr g n :: _ = _
    rw [cr_nat]; rfl
  rw [e0]
  refine va_lald (D := gD g) (tys := tysA g) cx.1 cx.2.1 cx.2.2.2.2.2.2.2.1.1 hR.1.1 n 1 (by rw [wsO_at (kdn_lt (by omega)), celK_101 hk]) rfl (vq_in hi hi0 hi1) hd ?_
  have h5 := hR.1.2.2.1 n j
  rw [ktg_at hk] at h5
  refine h.push (v := vJ (σ n j)) h5 cx hR hl hL (ok_tail (ok_tail hst)) ?_
  show Value.long _ = Value.long _
  rw [clamp32 hi]
  simp
theorem L_baload {a i : Int} (hd : decode M.2.1 pc = .ok (.baload, 1)) (h : rdok 102 a i ∧ L d M (pc + 1) ls (vI (σ a i) :: st) σ Q) : L d M pc ls (vI i :: vA a :: st) σ Q := by
  intro l g p e s m args below meth c H locs A cx hR hl hL hst
  obtain ⟨⟨hk, hi0, hi1⟩, h⟩ := h
  have hi : inI i := ok_head hst
  have ha : 0 ≤ a := by
    by_cases ha : 0 ≤ a
    · exact ha
    · have := kd_neg hk ha (by decide); omega
  obtain ⟨n, rfl⟩ := nat_of ha
  obtain ⟨j, rfl⟩ := nat_of hi0
  rw [kd_nat] at hk hi1
  have e0 : (List.map (cv g) (vI j :: vA n :: st)) = .int (Int32.ofInt j) :: .ref (gB g + n) :: st.map (cv g) := by
    show _ :: cr g n :: _ = _
    rw [cr_nat]; rfl
  rw [e0]
  refine va_bald (D := gD g) (tys := tysA g) cx.1 cx.2.1 cx.2.2.2.2.2.2.2.1.1 hR.1.1 n 2 (by rw [wsO_at (kdn_lt (by omega)), celK_102 hk]) rfl (vq_in hi hi0 hi1) hd ?_
  have h5 := hR.1.2.2.1 n j
  rw [ktg_at hk] at h5
  refine h.push h5 cx hR hl hL (ok_tail (ok_tail hst)) ?_
  show Value.int _ = Value.int _
  rw [clamp32 hi]
  simp
theorem L_zaload {a i : Int} (hd : decode M.2.1 pc = .ok (.baload, 1)) (h : rdok 103 a i ∧ L d M (pc + 1) ls (vI (σ a i) :: st) σ Q) : L d M pc ls (vI i :: vA a :: st) σ Q := by
  intro l g p e s m args below meth c H locs A cx hR hl hL hst
  obtain ⟨⟨hk, hi0, hi1⟩, h⟩ := h
  have hi : inI i := ok_head hst
  have ha : 0 ≤ a := by
    by_cases ha : 0 ≤ a
    · exact ha
    · have := kd_neg hk ha (by decide); omega
  obtain ⟨n, rfl⟩ := nat_of ha
  obtain ⟨j, rfl⟩ := nat_of hi0
  rw [kd_nat] at hk hi1
  have e0 : (List.map (cv g) (vI j :: vA n :: st)) = .int (Int32.ofInt j) :: .ref (gB g + n) :: st.map (cv g) := by
    show _ :: cr g n :: _ = _
    rw [cr_nat]; rfl
  rw [e0]
  refine va_zald (D := gD g) (tys := tysA g) cx.1 cx.2.1 cx.2.2.2.2.2.2.2.1.1 hR.1.1 n 3 (by rw [wsO_at (kdn_lt (by omega)), celK_103 hk]) rfl (vq_in hi hi0 hi1) hd ?_
  have h5 := hR.1.2.2.1 n j
  rw [ktg_at hk] at h5
  refine h.push h5 cx hR hl hL (ok_tail (ok_tail hst)) ?_
  show Value.int _ = Value.int _
  rw [clamp32 hi]
  simp
/-- an array of our own objects: what stands at a place that is filled -/
theorem L_aaload {t : Nat} {a i : Int} (ht : 104 ≤ t ∧ t ≤ 106) (hd : decode M.2.1 pc = .ok (.aaload, 1)) (h : rdok t a i ∧ 0 ≤ σ a i ∧ L d M (pc + 1) ls (vA (σ a i) :: st) σ Q) : L d M pc ls (vI i :: vA a :: st) σ Q := by
  intro l g p e s m args below meth c H locs A cx hR hl hL hst
  obtain ⟨⟨hk, hi0, hi1⟩, hnn, h⟩ := h
  have hi : inI i := ok_head hst
  have ha : 0 ≤ a := by
    by_cases ha : 0 ≤ a
    · exact ha
    · have := kd_neg hk ha (by omega); omega
  obtain ⟨n, rfl⟩ := nat_of ha
  obtain ⟨j, rfl⟩ := nat_of hi0
  rw [kd_nat] at hk hi1
  have e0 : (List.map (cv g) (vI j :: vA n :: st)) = .int (Int32.ofInt j) :: .ref (gB g + n) :: st.map (cv g) := by
    show _ :: cr g n :: _ = _
    rw [cr_nat]; rfl
  rw [e0]
  have hty : ∃ C : String, (tysA g)[t - 100]? = some (gC g (t - 100), .object C) := by
    have : t = 104 ∨ t = 105 ∨ t = 106 := by omega
    rcases this with rfl | rfl | rfl <;> exact ⟨_, rfl⟩
  obtain ⟨C, hty⟩ := hty
  refine va_aldq (D := gD g) (tys := tysA g) cx.1 cx.2.1 cx.2.2.2.2.2.2.2.1.1 hR.1.1 n (t - 100) (by rw [wsO_at (kdn_lt (by omega)), celK_ref (by omega) (by omega), hk]) hty (vq_in hi hi0 hi1) hd ?_
  refine h.push (v := vA (σ n j)) trivial cx hR hl hL (ok_tail (ok_tail hst)) ?_
  show cr g _ = _
  obtain ⟨z, hz⟩ := nat_of hnn
  rw [clamp32 hi]
  simp only [Int.toNat_natCast]
  rw [hz, cr_nat]
  unfold rfo
  rw [if_pos (by omega)]
  simp [va_rf]
theorem L_alen {a : Int} (hd : decode M.2.1 pc = .ok (.arraylength, 1)) (h : (0 ≤ a ∧ (kd a).1 = 100) ∧ L d M (pc + 1) ls (vI ((kd a).2 : Int) :: st) σ Q) : L d M pc ls (vA a :: st) σ Q := by
  intro l g p e s m args below meth c H locs A cx hR hl hL hst
  obtain ⟨⟨ha, hk⟩, h⟩ := h
  obtain ⟨n, rfl⟩ := nat_of ha
  rw [kd_nat] at hk h
  have e0 : (List.map (cv g) (vA n :: st)) = .ref (gB g + n) :: st.map (cv g) := by
    show cr g n :: _ = _
    rw [cr_nat]
  rw [e0]
  have hn : n < KF.length := kdn_lt (by omega)
  have hle : (kdn n).2 ≤ 3440 := by
    have h9 : ∀ a, a < 197 → (kdn a).2 ≤ 3440 := by decide +kernel
    exact h9 n (by rw [← kf_len]; exact hn)
  refine va_alen (D := gD g) (tys := tysA g) cx.1 cx.2.1 cx.2.2.2.2.2.2.2.1.1 hR.1.1 n 0 (by rw [wsO_at hn, celK_100 hk]) rfl rfl hd ?_
  refine h.push (v := vI ((kdn n).2 : Int)) ?_ cx hR hl hL (ok_tail hst) ?_
  · show inI ((kdn n).2 : Int)
    unfold inI; omega
  · show Value.int _ = Value.int _
    rw [Int32.ofInt_eq_ofNat]
theorem L_iastore {a i x : Int} (hd : decode M.2.1 pc = .ok (.iastore, 1)) (h : wrok 100 a i ∧ L d M (pc + 1) ls st (up σ a i x) Q) : L d M pc ls (vI x :: vI i :: vA a :: st) σ Q := by
  intro l g p e s m args below meth c H locs A cx hR hl hL hst
  obtain ⟨⟨ha, hk, hi0, hi1⟩, h⟩ := h
  have hi : inI i := ok_head (ok_tail hst)
  obtain ⟨n, rfl⟩ := nat_of ha
  obtain ⟨j, rfl⟩ := nat_of hi0
  rw [kd_nat] at hk hi1
  have e0 : (List.map (cv g) (vI x :: vI j :: vA n :: st)) = .int (Int32.ofInt x) :: .int (Int32.ofInt j) :: .ref (gB g + n) :: st.map (cv g) := by
    show _ :: _ :: cr g n :: _ = _
    rw [cr_nat]; rfl
  rw [e0]
  have hn : n < KF.length := kdn_lt (by omega)
  have hS := Rp_S hR hl cx.2.2.2.2.2.2.2.2.2
  refine va_iast (D := gD g) (tys := tysA g) cx.1 cx.2.1 cx.2.2.2.2.2.2.2.1.1 hR.1.1 (wsO_D g σ) hS n 0 (by rw [wsO_at hn, celK_100 hk]) rfl (vq_in hi hi0 hi1) hd (fun H1 locs1 hP1 hD1 hS1 => ?_)
  have hcel : celK g (up σ n j x n) (kdn n) = .inl (gC g 0, (kdn n).2, .inl (upd (fun k => Int32.ofInt (σ n k)) (Int32.ofInt (j : Int)).toNatClampNeg (Int32.ofInt x))) := by
    rw [celK_100 hk]
    congr 4
    funext k
    rw [clamp32 hi]
    simp only [up, upd, Int.toNat_natCast]
    by_cases hkj : k = j
    · subst hkj; simp
    · rw [if_neg (by omega), if_neg hkj]
  rw [← hcel] at hP1
  exact h l g p e s m args below meth c H1 locs1 A cx (Rp_put hR hn cx.2.2.2.2.2.2.2.2.2 cx.2.2.2.2.2.2.2.2.1 hP1 hS1 (by rw [ktg_at hk]; exact ok_head hst) (by rw [hk]; rfl) (by rw [hk]; rfl)) hS1.2.2 hL (ok_tail (ok_tail (ok_tail hst)))
theorem L_lastore {a i x : Int} (hd : decode M.2.1 pc = .ok (.lastore, 1)) (h : wrok 101 a i ∧ L d M (pc + 1) ls st (up σ a i x) Q) : L d M pc ls (vJ x :: vI i :: vA a :: st) σ Q := by
  intro l g p e s m args below meth c H locs A cx hR hl hL hst
  obtain ⟨⟨ha, hk, hi0, hi1⟩, h⟩ := h
  have hi : inI i := ok_head (ok_tail hst)
  obtain ⟨n, rfl⟩ := nat_of ha
  obtain ⟨j, rfl⟩ := nat_of hi0
  rw [kd_nat] at hk hi1
  have e0 : (List.map (cv g) (vJ x :: vI j :: vA n :: st)) = .long (Int64.ofInt x) :: .int (Int32.ofInt j) :: .ref (gB g + n) :: st.map (cv g) := by
    show _ :: _ :: cr g n :: _ = _
    rw [cr_nat]; rfl
  rw [e0]
  have hn : n < KF.length := kdn_lt (by omega)
  have hS := Rp_S hR hl cx.2.2.2.2.2.2.2.2.2
  refine va_last (D := gD g) (tys := tysA g) cx.1 cx.2.1 cx.2.2.2.2.2.2.2.1.1 hR.1.1 (wsO_D g σ) hS n 1 (by rw [wsO_at hn, celK_101 hk]) rfl (vq_in hi hi0 hi1) hd (fun H1 locs1 hP1 hD1 hS1 => ?_)
  have hcel : celK g (up σ n j x n) (kdn n) = .inl (gC g 1, (kdn n).2, .inr (.inl (vp_updL (fun k => Int64.ofInt (σ n k)) (Int32.ofInt (j : Int)).toNatClampNeg (Int64.ofInt x)))) := by
    rw [celK_101 hk]
    congr 5
    funext k
    rw [clamp32 hi]
    simp only [up, vp_updL, Int.toNat_natCast]
    by_cases hkj : k = j
    · subst hkj; simp
    · rw [if_neg (by omega), if_neg hkj]
  rw [← hcel] at hP1
  exact h l g p e s m args below meth c H1 locs1 A cx (Rp_put hR hn cx.2.2.2.2.2.2.2.2.2 cx.2.2.2.2.2.2.2.2.1 hP1 hS1 (by rw [ktg_at hk]; exact ok_head hst) (by rw [hk]; rfl) (by rw [hk]; rfl)) hS1.2.2 hL (ok_tail (ok_tail (ok_tail hst)))
theorem L_bastore {a i x : Int} (hd : decode M.2.1 pc = .ok (.bastore, 1)) (h : wrok 102 a i ∧ L d M (pc + 1) ls st (up σ a i (i2b x)) Q) : L d M pc ls (vI x :: vI i :: vA a :: st) σ Q := by
  intro l g p e s m args below meth c H locs A cx hR hl hL hst
  obtain ⟨⟨ha, hk, hi0, hi1⟩, h⟩ := h
  have hi : inI i := ok_head (ok_tail hst)
  obtain ⟨n, rfl⟩ := nat_of ha
  obtain ⟨j, rfl⟩ := nat_of hi0
  rw [kd_nat] at hk hi1
  have e0 : (List.map (cv g) (vI x :: vI j :: vA n :: st)) = .int (Int32.ofInt x) :: .int (Int32.ofInt j) :: .ref (gB g + n) :: st.map (cv g) := by
    show _ :: _ :: cr g n :: _ = _
    rw [cr_nat]; rfl
  rw [e0]
  have hn : n < KF.length := kdn_lt (by omega)
  have hS := Rp_S hR hl cx.2.2.2.2.2.2.2.2.2
  refine va_bast (D := gD g) (tys := tysA g) cx.1 cx.2.1 cx.2.2.2.2.2.2.2.1.1 hR.1.1 (wsO_D g σ) hS n 2 (by rw [wsO_at hn, celK_102 hk]) rfl (vq_in hi hi0 hi1) hd (fun H1 locs1 hP1 hD1 hS1 => ?_)
  have hcel : celK g (up σ n j (i2b x) n) (kdn n) = .inl (gC g 2, (kdn n).2, .inl (upd (fun k => Int32.ofInt (σ n k)) (Int32.ofInt (j : Int)).toNatClampNeg (vp_nar .byte (Int32.ofInt x)))) := by
    rw [celK_102 hk]
    congr 4
    funext k
    rw [clamp32 hi]
    simp only [up, upd, Int.toNat_natCast]
    by_cases hkj : k = j
    · subst hkj
      simp only [and_self, if_true]
      rw [i2b, Int32.ofInt_toInt]; rfl
    · rw [if_neg (by omega), if_neg hkj]
  rw [← hcel] at hP1
  exact h l g p e s m args below meth c H1 locs1 A cx (Rp_put hR hn cx.2.2.2.2.2.2.2.2.2 cx.2.2.2.2.2.2.2.2.1 hP1 hS1 (by rw [ktg_at hk]; exact int_in _) (by rw [hk]; rfl) (by rw [hk]; rfl)) hS1.2.2 hL (ok_tail (ok_tail (ok_tail hst)))
theorem nar_bool {x : Int} (h : x = 0 ∨ x = 1) : vp_nar .boolean (Int32.ofInt x) = Int32.ofInt x := by rcases h with rfl | rfl <;> rfl
theorem L_zastore {a i x : Int} (hd : decode M.2.1 pc = .ok (.bastore, 1)) (h : (wrok 103 a i ∧ (x = 0 ∨ x = 1)) ∧ L d M (pc + 1) ls st (up σ a i x) Q) : L d M pc ls (vI x :: vI i :: vA a :: st) σ Q := by
  intro l g p e s m args below meth c H locs A cx hR hl hL hst
  obtain ⟨⟨⟨ha, hk, hi0, hi1⟩, hx⟩, h⟩ := h
  have hi : inI i := ok_head (ok_tail hst)
  obtain ⟨n, rfl⟩ := nat_of ha
  obtain ⟨j, rfl⟩ := nat_of hi0
  rw [kd_nat] at hk hi1
  have e0 : (List.map (cv g) (vI x :: vI j :: vA n :: st)) = .int (Int32.ofInt x) :: .int (Int32.ofInt j) :: .ref (gB g + n) :: st.map (cv g) := by
    show _ :: _ :: cr g n :: _ = _
    rw [cr_nat]; rfl
  rw [e0]
  have hn : n < KF.length := kdn_lt (by omega)
  have hS := Rp_S hR hl cx.2.2.2.2.2.2.2.2.2
  refine va_zast (D := gD g) (tys := tysA g) cx.1 cx.2.1 cx.2.2.2.2.2.2.2.1.1 hR.1.1 (wsO_D g σ) hS n 3 (by rw [wsO_at hn, celK_103 hk]) rfl (vq_in hi hi0 hi1) hd (fun H1 locs1 hP1 hD1 hS1 => ?_)
  have hcel : celK g (up σ n j x n) (kdn n) = .inl (gC g 3, (kdn n).2, .inl (upd (fun k => Int32.ofInt (σ n k)) (Int32.ofInt (j : Int)).toNatClampNeg (vp_nar .boolean (Int32.ofInt x)))) := by
    rw [celK_103 hk, nar_bool hx]
    congr 4
    funext k
    rw [clamp32 hi]
    simp only [up, upd, Int.toNat_natCast]
    by_cases hkj : k = j
    · subst hkj; simp
    · rw [if_neg (by omega), if_neg hkj]
  rw [← hcel] at hP1
  exact h l g p e s m args below meth c H1 locs1 A cx (Rp_put hR hn cx.2.2.2.2.2.2.2.2.2 cx.2.2.2.2.2.2.2.2.1 hP1 hS1 (by rw [ktg_at hk]; exact ok_head hst) (by rw [hk]; rfl) (by rw [hk]; rfl)) hS1.2.2 hL (ok_tail (ok_tail (ok_tail hst)))
/-- an array of our own objects: their places are known -/
theorem L_aaF {t : Nat} {a i b : Int} {o : Int × Int} (ht : 104 ≤ t ∧ t ≤ 106) (ho : ao t = some o) (hb : a + o.1 + o.2 * i = b) (hp : 0 ≤ o.1 ∧ 0 ≤ o.2) (hd : decode M.2.1 pc = .ok (.aaload, 1)) (h : rdok t a i ∧ L d M (pc + 1) ls (vA b :: st) σ Q) : L d M pc ls (vI i :: vA a :: st) σ Q := by
  intro l g p e s m args below meth c H locs A cx hR hl hL hst
  obtain ⟨⟨hk, hi0, hi1⟩, h⟩ := h
  have ha : 0 ≤ a := by
    by_cases ha : 0 ≤ a
    · exact ha
    · have := kd_neg hk ha (by omega); omega
  obtain ⟨n, rfl⟩ := nat_of ha
  obtain ⟨j, rfl⟩ := nat_of hi0
  have hk2 : (kdn n).1 = t := by rw [← kd_nat]; exact hk
  have h3 : σ n j = b := by
    rw [(hR.1.2.2.2.2 n j).2 o (by rw [hk2]; exact ho) (by rw [kd_nat] at hi1; omega)]
    exact hb
  have hb0 : 0 ≤ b := by
    have h5 : 0 ≤ o.2 * (j : Int) := Int.mul_nonneg hp.2 (by omega)
    omega
  exact L_aaload ht hd ⟨⟨hk, hi0, hi1⟩, by rw [h3]; exact hb0, by rw [h3]; exact h⟩ l g p e s m args below meth c H locs A cx hR hl hL hst
/-- the static table UNITS, read by a nest mate -/
theorem L_units {idx : Nat} (hw : (M.1.cls, idx) ∈ nestF) (hd : decode M.2.1 pc = .ok (.getstatic idx, 3)) (h : L d M (pc + 3) ls (vA (-2) :: st) σ Q) : L d M pc ls st σ Q := by
  intro l g p e s m args below meth c H locs A cx hR hl hL hst
  have hS := Rp_S hR hl cx.2.2.2.2.2.2.2.2.2
  obtain ⟨hK1, hK2, hK3, hZ, hK5⟩ := cx.2.2.2.2.2.2.2.1
  have hZ2 : va_Z "BracketRoom" "UNITS" "[I" (.ref (gU g)) (Ag g) s s.heap := hZ.kept (fun a _ hn => cx.2.2.2.2.2.2.2.2.2 a (Nat.not_le.mp hn))
  exact va_getsN cx.1 cx.2.1 hZ2 hS cx.2.2.2.2.2.1 (va_Nw.use rfl (hK3 _ hw)) (fun _ x => x) hd (h.push (v := vA (-2)) trivial cx hR hl hL hst (cr_units g))
/-! the same, of an array that is known -/
theorem L_ialoadL {a i : Int} {n : Nat} (hk : kd a = (100, n)) (hd : decode M.2.1 pc = .ok (.iaload, 1)) (h : (0 ≤ i ∧ i < (n : Int)) ∧ L d M (pc + 1) ls (vI (σ a i) :: st) σ Q) : L d M pc ls (vI i :: vA a :: st) σ Q := L_iaload hd ⟨⟨by rw [hk], h.1.1, by rw [hk]; exact h.1.2⟩, h.2⟩
theorem L_laloadL {a i : Int} {n : Nat} (hk : kd a = (101, n)) (hd : decode M.2.1 pc = .ok (.laload, 1)) (h : (0 ≤ i ∧ i < (n : Int)) ∧ L d M (pc + 1) ls (vJ (σ a i) :: st) σ Q) : L d M pc ls (vI i :: vA a :: st) σ Q := L_laload hd ⟨⟨by rw [hk], h.1.1, by rw [hk]; exact h.1.2⟩, h.2⟩
theorem L_baloadL {a i : Int} {n : Nat} (hk : kd a = (102, n)) (hd : decode M.2.1 pc = .ok (.baload, 1)) (h : (0 ≤ i ∧ i < (n : Int)) ∧ L d M (pc + 1) ls (vI (σ a i) :: st) σ Q) : L d M pc ls (vI i :: vA a :: st) σ Q := L_baload hd ⟨⟨by rw [hk], h.1.1, by rw [hk]; exact h.1.2⟩, h.2⟩
theorem L_zaloadL {a i : Int} {n : Nat} (hk : kd a = (103, n)) (hd : decode M.2.1 pc = .ok (.baload, 1)) (h : (0 ≤ i ∧ i < (n : Int)) ∧ L d M (pc + 1) ls (vI (σ a i) :: st) σ Q) : L d M pc ls (vI i :: vA a :: st) σ Q := L_zaload hd ⟨⟨by rw [hk], h.1.1, by rw [hk]; exact h.1.2⟩, h.2⟩
theorem L_iastoreL {a i x : Int} {n : Nat} (ha : 0 ≤ a) (hk : kd a = (100, n)) (hd : decode M.2.1 pc = .ok (.iastore, 1)) (h : (0 ≤ i ∧ i < (n : Int)) ∧ ∀ σ', σ' = up σ a i x → L d M (pc + 1) ls st σ' Q) : L d M pc ls (vI x :: vI i :: vA a :: st) σ Q := L_iastore hd ⟨⟨ha, by rw [hk], h.1.1, by rw [hk]; exact h.1.2⟩, h.2 _ rfl⟩
theorem L_lastoreL {a i x : Int} {n : Nat} (ha : 0 ≤ a) (hk : kd a = (101, n)) (hd : decode M.2.1 pc = .ok (.lastore, 1)) (h : (0 ≤ i ∧ i < (n : Int)) ∧ ∀ σ', σ' = up σ a i x → L d M (pc + 1) ls st σ' Q) : L d M pc ls (vJ x :: vI i :: vA a :: st) σ Q := L_lastore hd ⟨⟨ha, by rw [hk], h.1.1, by rw [hk]; exact h.1.2⟩, h.2 _ rfl⟩
theorem L_bastoreL {a i x : Int} {n : Nat} (ha : 0 ≤ a) (hk : kd a = (102, n)) (hd : decode M.2.1 pc = .ok (.bastore, 1)) (h : (0 ≤ i ∧ i < (n : Int)) ∧ ∀ σ', σ' = up σ a i (i2b x) → L d M (pc + 1) ls st σ' Q) : L d M pc ls (vI x :: vI i :: vA a :: st) σ Q := L_bastore hd ⟨⟨ha, by rw [hk], h.1.1, by rw [hk]; exact h.1.2⟩, h.2 _ rfl⟩
theorem L_zastoreL {a i x : Int} {n : Nat} (ha : 0 ≤ a) (hk : kd a = (103, n)) (hd : decode M.2.1 pc = .ok (.bastore, 1)) (h : ((0 ≤ i ∧ i < (n : Int)) ∧ (x = 0 ∨ x = 1)) ∧ ∀ σ', σ' = up σ a i x → L d M (pc + 1) ls st σ' Q) : L d M pc ls (vI x :: vI i :: vA a :: st) σ Q := L_zastore hd ⟨⟨⟨ha, by rw [hk], h.1.1.1, by rw [hk]; exact h.1.1.2⟩, h.1.2⟩, h.2 _ rfl⟩
theorem L_iastoreN {a i x : Int} (hd : decode M.2.1 pc = .ok (.iastore, 1)) (h : wrok 100 a i ∧ ∀ σ', σ' = up σ a i x → L d M (pc + 1) ls st σ' Q) : L d M pc ls (vI x :: vI i :: vA a :: st) σ Q := L_iastore hd ⟨h.1, h.2 _ rfl⟩
theorem L_lastoreN {a i x : Int} (hd : decode M.2.1 pc = .ok (.lastore, 1)) (h : wrok 101 a i ∧ ∀ σ', σ' = up σ a i x → L d M (pc + 1) ls st σ' Q) : L d M pc ls (vJ x :: vI i :: vA a :: st) σ Q := L_lastore hd ⟨h.1, h.2 _ rfl⟩
theorem L_alenL {a : Int} {n : Nat} (ha : 0 ≤ a) (hk : kd a = (100, n)) (hd : decode M.2.1 pc = .ok (.arraylength, 1)) (h : L d M (pc + 1) ls (vI (n : Int) :: st) σ Q) : L d M pc ls (vA a :: st) σ Q := L_alen hd ⟨⟨ha, by rw [hk]⟩, by rw [hk]; exact h⟩
theorem L_putfN {idx ci k t : Nat} {a x : Int} (hf : FP M.1.cls idx ci k) (hfo : fo ci k = none) (ht : ftg ci k = t) (hfit : ∀ g : GG, narrow (cty ci k) (cv g (t, x)) = cv g (t, x) ∧ fits (cty ci k) (cv g (t, x)) = true) (hd : decode M.2.1 pc = .ok (.putfield idx, 3)) (h : obok ci a ∧ ∀ σ', σ' = up σ a k x → L d M (pc + 3) ls st σ' Q) : L d M pc ls ((t, x) :: vA a :: st) σ Q := L_putf hf hfo ht hfit hd ⟨h.1, h.2 _ rfl⟩
def msk : List Bool → List AV → List AV
  | [], ls => ls
  | _, [] => []
  | true :: m, v :: t => v :: msk m t
  | false :: m, _ :: t => vU :: msk m t
theorem msk_get : ∀ (m : List Bool) (ls : List AV) (k : Nat) (w : AV), (msk m ls)[k]? = some w → w.1 ≠ 9 → ls[k]? = some w
  | [], ls, k, w, h, _ => by rw [show msk [] ls = ls by cases ls <;> rfl] at h; exact h
  | b :: m, [], k, w, h, _ => by rw [show msk (b :: m) [] = [] by cases b <;> rfl] at h; exact h
  | true :: m, v :: t, 0, w, h, _ => h
  | true :: m, v :: t, k + 1, w, h, h9 => msk_get m t k w h h9
  | false :: m, v :: t, 0, w, h, h9 => by
    have e : vU = w := Option.some.inj h
    rw [← e] at h9
    exact absurd rfl h9
  | false :: m, v :: t, k + 1, w, h, h9 => msk_get m t k w h h9
theorem msk_ok {m : List Bool} {ls : List AV} (h : ∀ v ∈ ls, okv v) : ∀ v ∈ msk m ls, okv v := by
  intro w hw
  obtain ⟨k, hk⟩ := List.getElem?_of_mem hw
  by_cases h9 : w.1 = 9
  · unfold okv; rw [h9]; trivial
  · exact h w (List.mem_of_getElem? (msk_get m ls k w hk h9))
/-- what isn't asked of the locals may be forgotten -/
theorem L_weak (m : List Bool) (h : L d M pc (msk m ls) st σ Q) : L d M pc ls st σ Q := by
  intro l g p e s mm args below meth c H locs A cx hR hl hL hst
  refine h l g p e s mm args below meth c H locs A cx hR hl ⟨⟨hL.1.1, hL.1.2.1, fun q hq => hL.1.2.2 q ?_⟩, msk_ok hL.2⟩ hst
  obtain ⟨k, w, h1, h2, h3⟩ := kn_mem.mp hq
  exact kn_mem.mpr ⟨k, w, msk_get m ls k w h1 h2, h2, h3⟩
end LA
