/-! ===== brackets and SPANS ===== -/
def bs (n : Int) (T x y : Int → Int) (k : Int) : Int := sR (fun i => sR (fun j => x i * y j * T (25 * i + 5 * j + k)) 0 n) 0 n
theorem br_mg {p n : Int} {T x y : Int → Int} : Mg p n (br p n T x y) (bs n T x y) := by
  intro c _ _
  obtain ⟨q, hq⟩ := emod_ex (bs n T x y c) p
  exact ⟨q, by show bs n T x y c % p - _ = _; rw [hq]; omega⟩
theorem bs_mg {p n : Int} {T x x' y y' : Int → Int} (hx : Mg p n x x') (hy : Mg p n y y') : Mg p n (bs n T x y) (bs n T x' y') := by
  intro c _ _
  unfold bs
  rw [← sR_sub]
  apply sR_dvd
  intro i i0 i1
  rw [← sR_sub]
  apply sR_dvd
  intro j j0 j1
  obtain ⟨a, ha⟩ := hx i i0 i1
  obtain ⟨b, hb⟩ := hy j j0 j1
  exact ⟨(a * y j + x' i * b) * T (25 * i + 5 * j + c), by grind⟩
theorem br_mgc {p n : Int} {T x x' y y' : Int → Int} (hx : Mg p n x x') (hy : Mg p n y y') : Mg p n (br p n T x y) (br p n T x' y') := (br_mg.trans (bs_mg hx hy)).trans br_mg.symm
/-- the same numbers, not only by p -/
theorem br_eqc {p n : Int} {T x x' y y' : Int → Int} (hx : Mg p n x x') (hy : Mg p n y y') {c : Int} (h0 : 0 ≤ c) (h1 : c < n) : br p n T x y c = br p n T x' y' c := by
  obtain ⟨q, hq⟩ := bs_mg (T := T) hx hy c h0 h1
  show bs n T x y c % p = bs n T x' y' c % p
  exact emod_cg (q := q) (by omega)
theorem bs_cmb {n w : Int} {T y : Int → Int} {E : ES} {a : Int → Int} {c : Int} : bs n T (cmb E w a) y c = sR (fun l => if E.1 l = true then a l * bs n T (E.2 l) y c else 0) 0 w := by
  unfold bs cmb
  have e1 : ∀ i, sR (fun j => sR (fun l => if E.1 l = true then a l * E.2 l i else 0) 0 w * y j * T (25 * i + 5 * j + c)) 0 n = sR (fun l => if E.1 l = true then a l * sR (fun j => E.2 l i * y j * T (25 * i + 5 * j + c)) 0 n else 0) 0 w := by
    intro i
    have e2 : ∀ j, sR (fun l => if E.1 l = true then a l * E.2 l i else 0) 0 w * y j * T (25 * i + 5 * j + c) = sR (fun l => if E.1 l = true then a l * (E.2 l i * y j * T (25 * i + 5 * j + c)) else 0) 0 w := by
      intro j
      rw [Int.mul_assoc, Int.mul_comm, ← sR_mul]
      apply sR_congr; intro l _ _; split <;> grind
    rw [sR_congr (fun j _ _ => e2 j), sR_swap]
    apply sR_congr; intro l _ _
    by_cases hl : E.1 l = true
    · simp only [if_pos hl]; rw [sR_mul]
    · simp only [if_neg hl]; exact sR_zero
  rw [sR_congr (fun i _ _ => e1 i), sR_swap]
  apply sR_congr; intro l _ _
  by_cases hl : E.1 l = true
  · simp only [if_pos hl]; rw [sR_mul]
  · simp only [if_neg hl]; exact sR_zero
/-- BRACKETS of what is held, by those of the rows -/
theorem br_in_l {p n : Int} {T u v : Int → Int} {E F : ES} (h : ∀ l, 0 ≤ l → l < n → E.1 l = true → In p n F (br p n T (E.2 l) v)) (hu : In p n E u) : In p n F (br p n T u v) := by
  refine In.cg (v := fun c => sR (fun l => (fun l c => if E.1 l = true then u l * bs n T (E.2 l) v c else 0) l c) 0 n) (In.sum (fun l l0 l1 => ?_)) ?_
  · by_cases hl : E.1 l = true
    · refine (((h l l0 l1 hl).cg br_mg).scl (u l)).cg (fun c _ _ => ?_)
      rw [if_pos hl, Int.sub_self]; exact Int.dvd_zero p
    · exact In_zero (fun c _ _ => by rw [if_neg hl]; exact Int.dvd_zero p)
  · refine Mg.trans (v' := bs n T (cmb E n u) v) (fun c _ _ => by rw [bs_cmb, Int.sub_self]; exact Int.dvd_zero p) ?_
    exact (bs_mg (Mg.symm hu.back) Mg.rfl').trans br_mg.symm
theorem bs_anti {p n : Int} {T x y : Int → Int} (hT : TW p n T) : Mg p n (bs n T x y) (fun c => -bs n T y x c) := by
  obtain ⟨hpn, _, h3, _, _⟩ := hT
  obtain ⟨_, _, _, b4⟩ := hpn.b
  intro c c0 c1
  have e : bs n T y x c = sR (fun i => sR (fun j => x i * y j * T (25 * j + 5 * i + c)) 0 n) 0 n := by
    unfold bs
    rw [sR_swap]
    apply sR_congr; intro i _ _; apply sR_congr; intro j _ _
    grind
  show p ∣ bs n T x y c - -bs n T y x c
  rw [e, Int.sub_neg]
  unfold bs
  rw [← sR_add]
  apply sR_dvd; intro i i0 i1
  rw [← sR_add]
  apply sR_dvd; intro j j0 j1
  rw [h3 i j c i0 (by omega) j0 (by omega) c0 (by omega)]
  obtain ⟨q, hq⟩ := emod_ex (-(T (25 * i + 5 * j + c))) p
  rw [hq]
  exact ⟨x i * y j * q, by grind⟩
theorem br_anti {p n : Int} {T x y : Int → Int} (hT : TW p n T) : Mg p n (br p n T x y) (fun c => -br p n T y x c) := by
  refine (br_mg.trans (bs_anti hT)).trans (fun c h0 h1 => ?_)
  obtain ⟨q, hq⟩ := br_mg (p := p) (T := T) (x := y) (y := x) c h0 h1
  exact ⟨q, by grind⟩
theorem In.neg {p w : Int} {E : ES} {v : Int → Int} (h : In p w E v) : In p w E (fun c => -v c) := (h.scl (-1)).cg (fun c _ _ => by rw [show -1 * v c - -v c = 0 by omega]; exact Int.dvd_zero p)
theorem br_swap_in {p n : Int} {T x y : Int → Int} {F : ES} (hT : TW p n T) (h : In p n F (br p n T x y)) : In p n F (br p n T y x) := h.neg.cg (br_anti hT).symm
theorem br_in_r {p n : Int} {T u v : Int → Int} {E F : ES} (hT : TW p n T) (h : ∀ l, 0 ≤ l → l < n → E.1 l = true → In p n F (br p n T u (E.2 l))) (hv : In p n E v) : In p n F (br p n T u v) :=
  br_swap_in hT (br_in_l (fun l l0 l1 hl => br_swap_in hT (h l l0 l1 hl)) hv)
theorem br_self {p n : Int} {T x : Int → Int} {F : ES} (hT : TW p n T) : In p n F (br p n T x x) := by
  refine In_zero (fun c c0 c1 => ?_)
  rw [← br_tri hT ⟨c0, c1⟩]
  have e : sR (fun i => sR (fun j => (x i * x j - x j * x i) * T (25 * i + 5 * j + c)) (i + 1) n) 0 n = 0 := by
    apply sR_zero'; intro i _ _; apply sR_zero'; intro j _ _
    rw [Int.mul_comm (x i), Int.sub_self, Int.zero_mul]
  rw [e]; exact ⟨0, by simp⟩
/-! the kinds of SPANS -/
def ClI (p n : Int) (T : Int → Int) (E : ES) : Prop := ∀ u v, In p n E u → In p n E (br p n T u v)
def ClP (p n : Int) (T : Int → Int) (E F : ES) : Prop := ∀ u v, In p n E u → In p n E v → In p n F (br p n T u v)
theorem ClI_of {p n : Int} {T : Int → Int} {E : ES} (hT : TW p n T) (h : ∀ l i, 0 ≤ l → l < n → E.1 l = true → 0 ≤ i → i < n → In p n E (br p n T (E.2 l) (EU.2 i))) : ClI p n T E := by
  intro u v hu
  exact br_in_l (fun l l0 l1 hl => br_in_r hT (E := EU) (fun i i0 i1 _ => h l i l0 l1 hl i0 i1) In_EU) hu
theorem ClP_of {p n : Int} {T : Int → Int} {E F : ES} (hT : TW p n T) (h : ∀ l m, 0 ≤ l → l < m → m < n → E.1 l = true → E.1 m = true → In p n F (br p n T (E.2 l) (E.2 m))) : ClP p n T E F := by
  intro u v hu hv
  refine br_in_l (fun l l0 l1 hl => br_in_r hT (E := E) (fun m m0 m1 hm => ?_) hv) hu
  rcases Int.lt_trichotomy l m with g | g | g
  · exact h l m l0 g m1 hl hm
  · rw [g]; exact br_self hT
  · exact br_swap_in hT (h m l m0 g l1 hm hl)
theorem ClI.p {p n : Int} {T : Int → Int} {E : ES} (h : ClI p n T E) : ClP p n T E E := fun u v hu _ => h u v hu
theorem ESm.inn {p n : Int} {E E' : ES} {u : Int → Int} (h : ESm n E E') (hu : In p n E u) : In p n E' u := by
  rw [In_rd] at hu ⊢
  intro c h0 h1
  rw [← h.rdv (fun _ _ _ => rfl) h0 h1]; exact hu c h0 h1
/-- what the BRACKETS of two SPANS span -/
theorem In_brk_sub {p n : Int} {T : Int → Int} {A B F : ES} (hp : PR p) (hn : 0 ≤ n) (h : ∀ l m, 0 ≤ l → l < n → 0 ≤ m → m < n → A.1 l = true → B.1 m = true → In p n F (br p n T (A.2 l) (B.2 m))) : ∀ u, In p n (brk p n T A B) u → In p n F u := by
  unfold brk
  have key : EW p n (brk p n T A B) ∧ ∀ u, In p n (brk p n T A B) u → In p n F u := by
    unfold brk
    refine lp_ind (P := fun _ E => EW p n E ∧ ∀ u, In p n E u → In p n F u) ⟨EW0, fun u hu => In_zero (In_E0.mp hu)⟩ (fun l E l0 l1 hE => ?_) hn
    refine lp_ind (P := fun _ E => EW p n E ∧ ∀ u, In p n E u → In p n F u) hE (fun m E m0 m1 hE => ?_) hn
    by_cases g : A.1 l = true ∧ B.1 m = true
    · rw [if_pos g]
      refine ⟨EW_ins hp hn hE.1, fun u hu => ?_⟩
      obtain ⟨t, ht⟩ := (In_ins hp hn hE.1).mp hu
      exact ((hE.2 _ ht).lin (h l m l0 l1 m0 m1 g.1 g.2) 1 t).cg (fun c _ _ => by rw [show ∀ a b : Int, 1 * (a - b) + b - a = 0 by intro a b; omega]; exact Int.dvd_zero p)
    · rw [if_neg g]; exact hE
  exact key.2
theorem lp_keep {S : Type} {f : Int → S → S} {lo hi k : Int} {s : S} {I P : S → Prop} (hI : I s) (hIs : ∀ k t, lo ≤ k → k < hi → I t → I (f k t)) (h0 : lo ≤ k) (h1 : k < hi) (hk : ∀ t, I t → P (f k t)) (hs : ∀ j t, lo ≤ j → j < hi → I t → P t → P (f j t)) : P (lp f lo hi s) := by
  have key := lp_ind (f := f) (lo := lo) (s := s) (P := fun m t => I t ∧ (k < m → P t)) (hi := hi) ⟨hI, fun q => by omega⟩ (fun j t j0 j1 ht => ⟨hIs j t j0 j1 ht.1, fun q => by
    by_cases e : j = k
    · subst e; exact hk t ht.1
    · exact hs j t j0 j1 ht.1 (ht.2 (by omega))⟩) (by omega)
  exact key.2 h1
theorem In_brk_row {p n : Int} {T : Int → Int} {A B : ES} (hp : PR p) (hn : 0 ≤ n) {l m : Int} (l0 : 0 ≤ l) (l1 : l < n) (m0 : 0 ≤ m) (m1 : m < n) (hl : A.1 l = true) (hm : B.1 m = true) : In p n (brk p n T A B) (br p n T (A.2 l) (B.2 m)) := by
  unfold brk
  have hin : ∀ l m E, EW p n E → EW p n (if A.1 l = true ∧ B.1 m = true then ins p n E (br p n T (A.2 l) (B.2 m)) else E) := fun l m E hE => by
    split
    · exact EW_ins hp hn hE
    · exact hE
  have hin2 : ∀ l E, EW p n E → EW p n (lp (fun m E => if A.1 l = true ∧ B.1 m = true then ins p n E (br p n T (A.2 l) (B.2 m)) else E) 0 n E) := fun l E hE => lp_ind (P := fun _ E => EW p n E) hE (fun m E _ _ hE => hin l m E hE) hn
  have hks : ∀ l' m' E, EW p n E → In p n E (br p n T (A.2 l) (B.2 m)) → In p n (if A.1 l' = true ∧ B.1 m' = true then ins p n E (br p n T (A.2 l') (B.2 m')) else E) (br p n T (A.2 l) (B.2 m)) := fun l' m' E hE h => by
    split
    · exact In_ins_of hp hn hE h
    · exact h
  refine lp_keep (I := fun E => EW p n E) (P := fun E => In p n E (br p n T (A.2 l) (B.2 m))) EW0 (fun l E _ _ hE => hin2 l E hE) l0 l1 (fun E hE => ?_) (fun l' E _ _ hE h => ?_)
  · refine lp_keep (I := fun E => EW p n E) (P := fun E => In p n E (br p n T (A.2 l) (B.2 m))) hE (fun m E _ _ hE => hin l m E hE) m0 m1 (fun E hE => ?_) (fun m' E _ _ hE h => hks l m' E hE h)
    rw [if_pos ⟨hl, hm⟩]
    exact In_ins_v hp hn hE
  · exact (lp_ind (P := fun _ E => EW p n E ∧ In p n E (br p n T (A.2 l) (B.2 m))) ⟨hE, h⟩ (fun m' E _ _ hE => ⟨hin l' m' E hE.1, hks l' m' E hE.1 hE.2⟩) hn).2
theorem In_brk {p n : Int} {T u v : Int → Int} {A B : ES} (hT : TW p n T) (hu : In p n A u) (hv : In p n B v) : In p n (brk p n T A B) (br p n T u v) := by
  obtain ⟨_, _, b3, _⟩ := hT.1.b
  exact br_in_l (fun l l0 l1 hl => br_in_r hT (E := B) (fun m m0 m1 hm => In_brk_row hT.1.pr (by omega) l0 l1 m0 m1 hl hm) hv) hu
theorem brk_mono {p n : Int} {T : Int → Int} {A B A' B' : ES} (hT : TW p n T) (hEA : EW p n A) (hEB : EW p n B) (hA : ∀ u, In p n A u → In p n A' u) (hB : ∀ u, In p n B u → In p n B' u) : ∀ u, In p n (brk p n T A B) u → In p n (brk p n T A' B') u := by
  obtain ⟨_, _, b3, _⟩ := hT.1.b
  exact In_brk_sub hT.1.pr (by omega) (fun l m l0 l1 m0 m1 hl hm => In_brk hT (hA _ (In_row hEA l0 l1 hl)) (hB _ (In_row hEB m0 m1 hm)))
/-- the series of a PART go down -/
theorem ser_down {p n : Int} {T : Int → Int} {lower : Prop} [Decidable lower] {O : ES} (hT : TW p n T) (hO : EW p n O) (hP : ClP p n T O O) : ∀ k u, In p n (ser p n T lower O (k + 1)) u → In p n (ser p n T lower O k) u := by
  obtain ⟨_, _, b3, _⟩ := hT.1.b
  have hPR := hT.1.pr
  intro k
  induction k with
  | zero =>
    show ∀ u, In p n (brk p n T O (if lower then O else O)) u → In p n O u
    rw [ite_self]
    exact In_brk_sub hPR (by omega) (fun l m l0 l1 m0 m1 hl hm => hP _ _ (In_row hO l0 l1 hl) (In_row hO m0 m1 hm))
  | succ k ih =>
    refine brk_mono hT (EW_ser hPR (by omega) hO (k + 1)) ?_ ih ?_
    · split
      · exact hO
      · exact EW_ser hPR (by omega) hO (k + 1)
    · split
      · exact fun u hu => hu
      · exact ih
theorem ser_stb {p n : Int} {T : Int → Int} {lower : Prop} [Decidable lower] {O : ES} (hT : TW p n T) (hO : EW p n O) (hP : ClP p n T O O) : Stb p n T lower O := by
  obtain ⟨b1, _, b3, _⟩ := hT.1.b
  have hPR := hT.1.pr
  intro k hk
  exact ES_full (by omega) (EW_ser hPR (by omega) hO (k + 1)) (EW_ser hPR (by omega) hO k) (ser_down hT hO hP k) (by omega)
theorem ClU {p n : Int} {T : Int → Int} : ClP p n T EU EU := fun _ _ _ _ => In_EU
/-- behind as many steps as there are rows nothing changes -/
theorem ser_end {p n : Int} {T : Int → Int} {lower : Prop} [Decidable lower] {O : ES} (hT : TW p n T) (hO : EW p n O) (hP : ClP p n T O O) {k m : Nat} (hk : cd O.1 n ≤ k) (hm : k ≤ m) : ESm n (ser p n T lower O m) (ser p n T lower O k) := by
  obtain ⟨b1, _, b3, _⟩ := hT.1.b
  have hPR := hT.1.pr
  have hS := ser_stb (lower := lower) hT hO hP
  -- somewhere before k it stops
  have key : ∀ j : Nat, (∃ i, i < j ∧ cd (ser p n T lower O (i + 1)).1 n = cd (ser p n T lower O i).1 n) ∨ cd (ser p n T lower O j).1 n + j ≤ cd O.1 n := by
    intro j
    induction j with
    | zero => right; show cd O.1 n + ((0 : Nat) : Int) ≤ _; omega
    | succ j ih =>
      rcases ih with ⟨i, i1, i2⟩ | ih
      · exact Or.inl ⟨i, by omega, i2⟩
      · by_cases e : cd (ser p n T lower O (j + 1)).1 n = cd (ser p n T lower O j).1 n
        · exact Or.inl ⟨j, by omega, e⟩
        · right
          have := cd_le (ℓ := (ser p n T lower O (j + 1)).1) (ℓ' := (ser p n T lower O j).1) (w := n) (fun l l0 l1 hl => In_leads (by omega) (EW_ser (T := T) (lower := lower) hPR (by omega) hO (j + 1)) (EW_ser (T := T) (lower := lower) hPR (by omega) hO j) (ser_down hT hO hP j) l0 l1 hl)
          omega
  have fin : ∃ i, i ≤ k ∧ ∀ m, ESm n (ser p n T lower O (i + m)) (ser p n T lower O i) := by
    rcases key k with ⟨i, i1, i2⟩ | h
    · exact ⟨i, by omega, ser_stop (by omega) hS i2⟩
    · have z : cd (ser p n T lower O k).1 n = 0 := by have := (cd_b (ℓ := (ser p n T lower O k).1) (w := n) (by omega)).1; omega
      exact ⟨k, Nat.le_refl _, ser_stop (by omega) hS (by rw [z]; exact ser_none (by omega) z 1)⟩
  obtain ⟨i, i1, i2⟩ := fin
  have a1 := i2 (m - i)
  have a2 := i2 (k - i)
  rw [show i + (m - i) = m by omega] at a1
  rw [show i + (k - i) = k by omega] at a2
  exact a1.trans a2.symm
