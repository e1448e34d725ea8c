/-! ===== what stands in the cells when both are made ===== -/
def c1 (c : Nat) (b j : Int) : Int := if c = 10 then (if j = 1 then 2 else if j = 2 then 1 else 0) else if c = 2 then (if j = 0 then (if (kd (b + 1)).2 = 625 then 25 else 5) else if j = 3 then 2 else 0) else if c = 8 then (if j = 2 then -1 else if j = 3 then -1 else 0) else if c = 11 then (if j = 2 then 1 else if j = 3 then -1 else 0) else if c = 12 then (if j = 3 then 1 else if j = 10 then -1 else if j = 11 then -1 else if j = 44 then -1 else 0) else if c = 7 then (if j = 3 then 2 else 0) else 0
def s1 (k : Nat × Nat) (b j : Int) : Int := match fo k.1 j.toNat with
  | some o => b + o
  | none => match ao k.1 with
    | some o => b + o.1 + o.2 * j
    | none => if ktg k j.toNat = 2 then -1 else c1 k.1 b j
def s0 (b j : Int) : Int := if b = -2 then unitv j else if b = 3 ∨ b = 163 then -1 else if b = 166 then (if j = 0 then 2 else if j = 1 then 1 else 0) else s1 (kd b) b j
def pat (σ : SG) (lo hi : Nat) : SG := fun b j => if (lo : Int) ≤ b ∧ b < (hi : Int) then s0 b j else σ b j
theorem pat_in {σ : SG} {lo hi : Nat} {b j : Int} (h : (lo : Int) ≤ b ∧ b < (hi : Int)) : pat σ lo hi b j = s0 b j := by unfold pat; rw [if_pos h]
theorem pat_out {σ : SG} {lo hi : Nat} {b j : Int} (h : ¬ ((lo : Int) ≤ b ∧ b < (hi : Int))) : pat σ lo hi b j = σ b j := by unfold pat; rw [if_neg h]
theorem up_at {σ : SG} {a k v b j : Int} (h1 : b = a) (h2 : j = k) : up σ a k v b j = v := by subst h1; subst h2; exact up_same
theorem s0_k {b : Nat} {j : Int} {c N : Nat} (hk : kdn b = (c, N)) (h : c ≠ 100 ∨ (N ≠ 4 ∧ N ≠ 3440)) : s0 b j = s1 (c, N) b j := by
  have h3 : b ≠ 3 := by
    rintro rfl
    rw [show kdn 3 = (100, 4) by decide +kernel] at hk
    injection hk with q1 q2
    omega
  have h4 : b ≠ 163 := by
    rintro rfl
    rw [show kdn 163 = (100, 4) by decide +kernel] at hk
    injection hk with q1 q2
    omega
  have h5 : b ≠ 166 := by
    rintro rfl
    rw [show kdn 166 = (100, 3440) by decide +kernel] at hk
    injection hk with q1 q2
    omega
  unfold s0
  rw [if_neg (by omega), if_neg (by omega), if_neg (by omega), kd_nat, hk]
theorem s1_fo {c N j : Nat} {b o : Int} (hf : fo c j = some o) : s1 (c, N) b j = b + o := by
  unfold s1
  simp only [Int.toNat_natCast, hf]
theorem s1_c {c N j : Nat} {b : Int} (hf : fo c j = none) (ha : ao c = none) : s1 (c, N) b j = if ktg (c, N) j = 2 then -1 else c1 c b j := by
  unfold s1
  simp only [Int.toNat_natCast, hf, ha]
theorem s1_ao {t N j : Nat} {b o1 o2 : Int} (hf : fo t j = none) (ha : ao t = some (o1, o2)) : s1 (t, N) b j = b + o1 + o2 * j := by
  unfold s1
  simp only [Int.toNat_natCast, hf, ha]
theorem s0_fo {b j c N : Nat} {o v : Int} (hk : kdn b = (c, N)) (hc : c < 13) (hf : fo c j = some o) (hv : v = b + o) : v = s0 b j := by
  rw [s0_k hk (Or.inl (by omega)), s1_fo hf]
  exact hv
theorem s0_c {b j c N : Nat} {v : Int} (hk : kdn b = (c, N)) (hc : c < 13) (hf : fo c j = none) (ht : ftg c j ≠ 2) (hv : v = c1 c b j) : v = s0 b j := by
  rw [s0_k hk (Or.inl (by omega)), s1_c hf (ao_obj hc), if_neg (by rw [ktg_obj hc]; exact ht)]
  exact hv
theorem s0_bl {σ : SG} {b j c N : Nat} (hk : kdn b = (c, N)) (hc : c < 13) (hf : fo c j = none) (hz : ftg c j = 2 ∨ c1 c b j = 0) : bl σ b b j = s0 b j := by
  rw [s0_k hk (Or.inl (by omega)), s1_c hf (ao_obj hc)]
  unfold bl
  rw [if_pos rfl, hk]
  simp only [Int.toNat_natCast]
  have e : ktg (c, N) j = ftg c j := ktg_obj hc
  rcases hz with h | h
  · rw [if_pos (e.trans h), if_pos (e.trans h)]
  · rw [h]
theorem s0_ao {b j t N : Nat} {o1 o2 v : Int} (hk : kdn b = (t, N)) (ht : t ≠ 100) (hf : fo t j = none) (ha : ao t = some (o1, o2)) (hv : v = b + o1 + o2 * j) : v = s0 b j := by
  rw [s0_k hk (Or.inl ht), s1_ao hf ha]
  exact hv
theorem s0_m1 {b j : Int} (h : b = 3 ∨ b = 163) : -1 = s0 b j := by
  unfold s0
  rw [if_neg (by omega), if_pos h]
theorem s0_166 {b j v : Int} (h : b = 166) (hv : (j = 0 ∧ v = 2) ∨ (j = 1 ∧ v = 1) ∨ (2 ≤ j ∧ v = 0)) : v = s0 b j := by
  unfold s0
  rw [if_neg (by omega), if_neg (by omega), if_pos h]
  rcases hv with q | q | q
  · rw [if_pos q.1]; exact q.2
  · rw [if_neg (by omega), if_pos q.1]; exact q.2
  · rw [if_neg (by omega), if_neg (by omega)]; exact q.2
theorem arr_s1 {t N : Nat} {b j : Int} (ht : 100 ≤ t ∧ t ≤ 103) : s1 (t, N) b j = 0 := by
  have hf : fo t j.toNat = none := by
    unfold fo
    split <;> first | omega | rfl
  have ha : ao t = none := by
    unfold ao
    split <;> first | omega | rfl
  have hk : ktg (t, N) j.toNat ≠ 2 := by
    have h2 : t = 100 ∨ t = 101 ∨ t = 102 ∨ t = 103 := by omega
    rcases h2 with rfl | rfl | rfl | rfl
    · show (0 : Nat) ≠ 2; decide
    · show (1 : Nat) ≠ 2; decide
    · show (0 : Nat) ≠ 2; decide
    · show (0 : Nat) ≠ 2; decide
  unfold s1
  simp only [hf, ha]
  rw [if_neg hk]
  unfold c1
  rw [if_neg (by omega), if_neg (by omega), if_neg (by omega), if_neg (by omega), if_neg (by omega), if_neg (by omega)]
theorem s0_arr {b : Nat} {j : Int} {t N : Nat} (hk : kdn b = (t, N)) (ht : 100 ≤ t ∧ t ≤ 103) (hs : b ≠ 3 ∧ b ≠ 163 ∧ b ≠ 166) : s0 b j = 0 := by
  unfold s0
  rw [if_neg (by omega), if_neg (by omega), if_neg (by omega), kd_nat, hk]
  exact arr_s1 ht
theorem arr_sp {b t N : Nat} (hk : kdn b = (t, N)) (h : t ≠ 100 ∨ (N ≠ 4 ∧ N ≠ 3440)) : b ≠ 3 ∧ b ≠ 163 ∧ b ≠ 166 := by
  refine ⟨?_, ?_, ?_⟩
  · rintro rfl
    rw [show kdn 3 = (100, 4) by decide +kernel] at hk
    injection hk with q1 q2
    omega
  · rintro rfl
    rw [show kdn 163 = (100, 4) by decide +kernel] at hk
    injection hk with q1 q2
    omega
  · rintro rfl
    rw [show kdn 166 = (100, 3440) by decide +kernel] at hk
    injection hk with q1 q2
    omega
theorem bl_s0 {σ : SG} {b : Nat} {j : Int} {t N : Nat} (hk : kdn b = (t, N)) (ht : 100 ≤ t ∧ t ≤ 103) (hs : b ≠ 3 ∧ b ≠ 163 ∧ b ≠ 166) : bl σ b b j = s0 b j := by
  rw [s0_arr hk ht hs, bl_arr hk ht]
theorem c1_5 {a : Nat} (h : kdn (a + 1) = (100, 25)) : (5 : Int) = c1 2 a ((0 : Nat) : Int) := by
  have e : kd ((a : Int) + 1) = (100, 25) := by
    rw [show ((a : Int) + 1) = ((a + 1 : Nat) : Int) by omega, kd_nat, h]
  unfold c1
  rw [if_neg (by decide), if_pos rfl, if_pos (show ((0 : Nat) : Int) = 0 from rfl), e]
  rfl
theorem c1_25 {a : Nat} (h : kdn (a + 1) = (100, 625)) : (25 : Int) = c1 2 a ((0 : Nat) : Int) := by
  have e : kd ((a : Int) + 1) = (100, 625) := by
    rw [show ((a : Int) + 1) = ((a + 1 : Nat) : Int) by omega, kd_nat, h]
  unfold c1
  rw [if_neg (by decide), if_pos rfl, if_pos (show ((0 : Nat) : Int) = 0 from rfl), e]
  rfl
/-- which kinds stand from a on -/
def kds (a : Nat) (ks : List (Nat × Nat)) : Prop := ∀ (i : Nat) (q : Nat × Nat), ks[i]? = some q → kdn (a + i) = q
theorem kds.at {a : Nat} {ks : List (Nat × Nat)} (h : kds a ks) (i : Nat) {q : Nat × Nat} (hi : ks[i]? = some q) : kdn (a + i) = q := h i q hi
theorem kds.at0 {a : Nat} {ks : List (Nat × Nat)} (h : kds a ks) {q : Nat × Nat} (hi : ks[0]? = some q) : kdn a = q := h 0 q hi
theorem kds.sub {a : Nat} {ks ks' : List (Nat × Nat)} (h : kds a ks) (i m : Nat) (hi : (ks.drop i).take m = ks') : kds (a + i) ks' := by
  intro k q hk
  subst hi
  have h1 : k < m := by
    have := (List.getElem?_eq_some_iff.mp hk).1
    rw [List.length_take] at this
    omega
  rw [List.getElem?_take, if_pos h1, List.getElem?_drop] at hk
  rw [Nat.add_assoc]
  exact h (i + k) q hk
theorem kds.lt {a : Nat} {ks : List (Nat × Nat)} (h : kds a ks) (i : Nat) {c N : Nat} (hi : ks[i]? = some (c, N)) (hc : c ≠ 999) : a + i < 197 := kdn_at (h i _ hi) hc
theorem ob_k {b c N : Nat} (h : kdn b = (c, N)) : obok c b := ⟨Int.natCast_nonneg b, by rw [kd_nat, h]⟩
theorem wr_k {b t N : Nat} {i : Int} (h : kdn b = (t, N)) (hi : 0 ≤ i ∧ i < (N : Int)) : wrok t b i := ⟨Int.natCast_nonneg b, by rw [kd_nat, h], hi.1, by rw [kd_nat, h]; exact hi.2⟩
theorem fit_ro {C : String} {b : Nat} : ∀ g : GG, narrow (.object C) (cv g (2, (b : Int))) = cv g (2, (b : Int)) ∧ fits (.object C) (cv g (2, (b : Int))) = true := by
  intro g
  show narrow (.object C) (cr g b) = cr g b ∧ fits (.object C) (cr g b) = true
  rw [cr_nat]
  exact ⟨rfl, rfl⟩
theorem fit_ra {t : FieldType} {b : Nat} : ∀ g : GG, narrow (.array t) (cv g (2, (b : Int))) = cv g (2, (b : Int)) ∧ fits (.array t) (cv g (2, (b : Int))) = true := by
  intro g
  show narrow (.array t) (cr g b) = cr g b ∧ fits (.array t) (cr g b) = true
  rw [cr_nat]
  exact ⟨rfl, rfl⟩
section LNE
variable {d n0 n1 n pc : Nat} {M : MR} {ls st : List AV} {σ : SG} {Q : SG → Prop}
theorem LN_eqI {x y : Int} (h : x = y) (hl : LN d n0 n1 M pc ls (vI y :: st) n σ Q) : LN d n0 n1 M pc ls (vI x :: st) n σ Q := by subst h; exact hl
theorem LN_iincC {i : Nat} {k x x' : Int} (hd : decode M.2.1 pc = .ok (.iinc i k, 3)) (hg : ls[i]? = some (vI x)) (hi : i < M.2.2.1) (hx : w32 (x + k) = x') (h : LN d n0 n1 M (pc + 3) (lst i (vI x') ls) st n σ Q) : LN d n0 n1 M pc ls st n σ Q := by
  subst hx
  exact LN_iinc hd hg hi h
theorem n_fill4 {x0 v : Int} (hk : kd x0 = (100, 4)) (h0 : 0 ≤ x0) (hlt : x0 < n) (hn : n ≤ 197) (h : Q (up (up (up (up σ x0 0 v) x0 1 v) x0 2 v) x0 3 v)) : TN (d + 1) n n M_JA_fill___II_V [vA x0, vI v] σ Q := by
  have hw : ∀ i : Int, 0 ≤ i ∧ i < 4 → wrok 100 x0 i := fun i hi => ⟨h0, by rw [hk], hi.1, by rw [hk]; exact hi.2⟩
  refine TN_intro (ls := [vA x0, vI v, vU, vU]) rfl (Nat.le_of_ble_eq_true rfl) rfl ?_
  refine LN_iconst dJA_fill___II_V_0 in_0 (LN_istore_n dJA_fill___II_V_1 (by decide) (LN_aload_n dJA_fill___II_V_2 rfl (by omega) (LN_alen (x := 4) ⟨h0, by rw [hk]⟩ (by rw [hk]; rfl) hlt dJA_fill___II_V_3 (LN_istore_n dJA_fill___II_V_4 (by decide) ?_))))
  have turn : ∀ (i i' : Int) (τ : SG), 0 ≤ i ∧ i < 4 → w32 (i + 1) = i' → LN (d + 1) n n M_JA_fill___II_V 5 [vA x0, vI v, vI i', vI 4] [] n (up τ x0 i v) Q → LN (d + 1) n n M_JA_fill___II_V 5 [vA x0, vI v, vI i, vI 4] [] n τ Q := fun i i' τ hi hii hgo =>
    LN_iload_n dJA_fill___II_V_5 rfl (LN_iload_n dJA_fill___II_V_6 rfl (LN_icmp_ge (tgt := 20) dJA_fill___II_V_7 (by decide) ⟨fun q => by omega, fun _ => LN_aload_n dJA_fill___II_V_10 rfl (by omega) (LN_iload_n dJA_fill___II_V_11 rfl (LN_iload_n dJA_fill___II_V_12 rfl (LN_iastore (hw i hi) hlt dJA_fill___II_V_13 (LN_iincC (x' := i') dJA_fill___II_V_14 rfl (by decide) hii (LN_goto (tgt := 5) dJA_fill___II_V_17 (by decide) hgo)))))⟩))
  refine turn 0 1 _ (by decide) (by decide) (turn 1 2 _ (by decide) (by decide) (turn 2 3 _ (by decide) (by decide) (turn 3 4 _ (by decide) (by decide) ?_)))
  exact LN_iload_n dJA_fill___II_V_5 rfl (LN_iload_n dJA_fill___II_V_6 rfl (LN_icmp_ge (tgt := 20) dJA_fill___II_V_7 (by decide) ⟨fun _ => LN_return (σ' := up (up (up (up σ x0 0 v) x0 1 v) x0 2 v) x0 3 v) hn rfl dJA_fill___II_V_20 (fun _ _ _ _ => rfl) h, fun q => absurd q (by decide)⟩))
end LNE
