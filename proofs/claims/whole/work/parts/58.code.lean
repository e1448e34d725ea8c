/-! ===== numbers by digits; every SPAN has its set and code ===== -/
def pk (p : Int) (f : Int → Int) (k : Int) : Int := sR (fun j => f j * p ^ j.toNat) 0 k
theorem pk_b {p : Int} {f : Int → Int} (hp : 2 ≤ p) (hf : ∀ j, 0 ≤ f j ∧ f j < p) : ∀ k, 0 ≤ k → 0 ≤ pk p f k ∧ pk p f k < p ^ k.toNat := by
  refine up_ind (P := fun k => 0 ≤ pk p f k ∧ pk p f k < p ^ k.toNat) ?_ ?_
  · unfold pk; rw [sR_nil (by omega)]; simp
  · intro k hk ih
    unfold pk at ih ⊢
    rw [sR_succ hk, show (k + 1).toNat = k.toNat + 1 by omega, Int.pow_succ]
    have hq := ppos hp k.toNat
    generalize p ^ k.toNat = q at *
    have h1 := mul_small (a := f k) (b := q) (A := p - 1) (B := q) (hf k).1 (by have := (hf k).2; omega) (by omega) (Int.le_refl _)
    have h2 : (p - 1) * q = q * p - q := by rw [Int.sub_mul, Int.one_mul, Int.mul_comm]
    omega
theorem pk_dg {p : Int} {f : Int → Int} (hp : 2 ≤ p) (hf : ∀ j, 0 ≤ f j ∧ f j < p) : ∀ k, 0 ≤ k → ∀ j, 0 ≤ j → j < k → dg p (pk p f k) j = f j := by
  refine up_ind (P := fun k => ∀ j, 0 ≤ j → j < k → dg p (pk p f k) j = f j) (fun j _ _ => by omega) ?_
  intro k hk ih j j0 j1
  have hb := pk_b hp hf k hk
  have e : pk p f (k + 1) = pk p f k + f k * p ^ k.toNat := by unfold pk; rw [sR_succ hk]
  rw [e]
  by_cases hj : j = k
  · subst hj
    unfold dg
    have hq := ppos hp j.toNat
    rw [Int.add_mul_ediv_right _ _ (by omega), Int.ediv_eq_zero_of_lt hb.1 hb.2, Int.zero_add]
    exact Int.emod_eq_of_lt (hf j).1 (hf j).2
  · rw [← ih j j0 (by omega)]
    unfold dg
    have hq := ppos hp j.toNat
    have e1 : p ^ k.toNat = p ^ (k.toNat - j.toNat - 1) * p * p ^ j.toNat := by
      rw [← Int.pow_succ, ← pow_add']; congr 1; omega
    rw [e1, ← Int.mul_assoc, Int.add_mul_ediv_right _ _ (by omega), ← Int.mul_assoc, Int.add_mul_emod_self_right]
theorem dg_ext {p : Int} (hp : 2 ≤ p) : ∀ (k : Nat) (x y : Int), 0 ≤ x → x < p ^ k → 0 ≤ y → y < p ^ k → (∀ j, 0 ≤ j → j < (k : Int) → dg p x j = dg p y j) → x = y
  | 0, x, y, x0, x1, y0, y1, _ => by rw [Int.pow_zero] at x1 y1; omega
  | k + 1, x, y, x0, x1, y0, y1, h => by
    have hx := Int.emod_add_mul_ediv x p
    have hy := Int.emod_add_mul_ediv y p
    have h0 := h 0 (by omega) (by omega)
    rw [dg_zero, dg_zero] at h0
    rw [Int.pow_succ] at x1 y1
    have := dg_ext hp k (x / p) (y / p) (Int.ediv_nonneg x0 (by omega)) (Int.ediv_lt_of_lt_mul (by omega) x1) (Int.ediv_nonneg y0 (by omega)) (Int.ediv_lt_of_lt_mul (by omega) y1) (fun j j0 j1 => by
      rw [← dg_succ j0 (by omega), ← dg_succ j0 (by omega)]
      exact h (j + 1) (by omega) (by omega))
    rw [h0, this] at hx
    omega
theorem pk_of {p x k : Int} (hp : 2 ≤ p) (hk : 0 ≤ k) (x0 : 0 ≤ x) (x1 : x < p ^ k.toNat) : pk p (dg p x) k = x := by
  have hb := pk_b hp (f := dg p x) (fun j => dg_in hp) k hk
  exact dg_ext hp k.toNat _ _ hb.1 hb.2 x0 x1 (fun j j0 j1 => pk_dg hp (fun j => dg_in hp) k hk j j0 (by omega))
theorem mask_of (ℓ : Int → Bool) : ∀ n : Nat, n ≤ 5 → ∃ m : Int, 0 ≤ m ∧ m < 2 ^ n ∧ ∀ l, 0 ≤ l → l < (n : Int) → tb m l = ℓ l
  | 0, _ => ⟨0, by omega, by simp, fun l _ _ => by omega⟩
  | n + 1, h => by
    obtain ⟨m, m0, m1, m2⟩ := mask_of ℓ n (by omega)
    have hlt : (2 : Int) ^ n < 2 ^ (n + 1) := by rw [Int.pow_succ]; have := ppos (p := 2) (by omega) n; omega
    cases hb : ℓ (n : Int) with
    | false =>
      refine ⟨m, m0, by omega, fun l l0 l1 => ?_⟩
      by_cases hl : l = (n : Int)
      · subst hl
        rw [hb]
        obtain ⟨a, rfl⟩ := nat_of m0
        unfold tb
        simp only [Int.toNat_natCast]
        apply Nat.testBit_lt_two_pow
        have : ((a : Nat) : Int) < ((2 ^ n : Nat) : Int) := by rw [Int.natCast_pow]; exact m1
        omega
      · exact m2 l l0 (by omega)
    | true =>
      obtain ⟨o0, o1, o2⟩ := or_bit (m := m) (l := (n : Int)) (w := n + 1) (by omega) m0 (by omega) (by omega) (by omega)
      refine ⟨_, o0, o1, fun l l0 l1 => ?_⟩
      rw [o2 l l0]
      by_cases hl : l = (n : Int)
      · subst hl; simp [hb]
      · simp [hl]; exact m2 l l0 (by omega)
theorem spn_of {p n : Int} {E : ES} (hp : 2 ≤ p) (hn0 : 0 ≤ n) (hn : n ≤ 5) (hE : EW p n E) : ∃ m y, 0 ≤ m ∧ m < 2 ^ n.toNat ∧ 0 ≤ y ∧ y < cds p n m ∧ bt m = cd E.1 n ∧ ESm n E (spn p n (tb m) y) := by
  obtain ⟨m, m0, m1, m2⟩ := mask_of E.1 n.toNat (by omega)
  have hl : ∀ l, 0 ≤ l → l < n → tb m l = E.1 l := fun l l0 l1 => m2 l l0 (by omega)
  have hch : ∀ i : Int, ∃ v : Int, (0 ≤ v ∧ v < p) ∧ ∀ l c, Fp n (tb m) l c → fi n (tb m) l c = i → v = E.2 l c := fun i => by
    by_cases hx : ∃ l c, Fp n (tb m) l c ∧ fi n (tb m) l c = i
    · obtain ⟨l, c, hf, he⟩ := hx
      obtain ⟨q1, q2, q3, q4, q5⟩ := id hf
      refine ⟨E.2 l c, (hE l q1 (by omega) (by rw [← hl l q1 (by omega)]; exact q4)).1 c (by omega) q3, fun l' c' hf' he' => ?_⟩
      obtain ⟨g1, g2⟩ := fi_inj hf hf' (by omega)
      rw [g1, g2]
    · exact ⟨0, by omega, fun l c hf he => absurd ⟨l, c, hf, he⟩ hx⟩
  obtain ⟨f, hf⟩ := Classical.axiomOfChoice hch
  have nb := nf25 (n := n) (ℓ := tb m) (m := n) hn hn0 (Int.le_refl _)
  have hb := pk_b hp (fun j => (hf j).1) (nf n (tb m) n) nb.1
  refine ⟨m, pk p f (nf n (tb m) n), m0, m1, hb.1, hb.2, ?_, fun l l0 l1 => (hl l l0 l1).symm, fun l c l0 l1 hl1 c0 c1 => ?_⟩
  · rw [← bt_n m0 hn0 hn m1]; exact cd_cg hl
  · obtain ⟨e1, e2, e3, e4⟩ := hE l l0 l1 hl1
    show E.2 l c = (if l = c then (1 : Int) else if l < c ∧ tb m c = false then dg p _ (fi n (tb m) l c) else 0)
    by_cases g : l = c
    · rw [if_pos g, ← g]; exact e2
    · rw [if_neg g]
      by_cases g2 : l < c ∧ tb m c = false
      · have hfp : Fp n (tb m) l c := ⟨l0, g2.1, c1, by rw [hl l l0 l1]; exact hl1, g2.2⟩
        have hfl := fi_lt hfp
        have h1 := nf_mono (ℓ := tb m) (n := n) (a := l + 1) (b := n) (by omega) (by omega) (by omega)
        have h2 := (nf25 (n := n) (ℓ := tb m) (m := l) hn l0 (by omega)).1
        rw [if_pos g2, pk_dg hp (fun j => (hf j).1) _ nb.1 _ (by omega) (by omega), (hf _).2 l c hfp rfl]
      · rw [if_neg g2]
        by_cases g3 : c < l
        · exact e3 c c0 g3
        · refine e4 c c0 c1 ?_ (fun e => g e.symm)
          rw [← hl c c0 c1]
          cases hb : tb m c with
          | true => rfl
          | false => exact absurd ⟨by omega, hb⟩ g2
theorem spn_inj {p n m y m' y' : Int} (hp : 2 ≤ p) (hn0 : 0 ≤ n) (hn : n ≤ 5) (m0 : 0 ≤ m) (m1 : m < 2 ^ n.toNat) (y0 : 0 ≤ y) (y1 : y < cds p n m) (m0' : 0 ≤ m') (m1' : m' < 2 ^ n.toNat) (y0' : 0 ≤ y') (y1' : y' < cds p n m') (h : ESm n (spn p n (tb m) y) (spn p n (tb m') y')) : m = m' ∧ y = y' := by
  have hm : m = m' := tb_ext m0 m1 m0' m1' (fun l l0 l1 => h.1 l l0 (by omega))
  subst hm
  refine ⟨rfl, dg_ext hp _ y y' y0 y1 y0' y1' (fun j j0 j1 => ?_)⟩
  have nb := nf25 (n := n) (ℓ := tb m) (m := n) hn hn0 (Int.le_refl _)
  obtain ⟨l, c, hf, he⟩ := fi_sur (n := n) (ℓ := tb m) hn0 j0 (by omega)
  obtain ⟨q1, q2, q3, q4, q5⟩ := id hf
  have h2 : (if l = c then (1 : Int) else if l < c ∧ tb m c = false then dg p y (fi n (tb m) l c) else 0) = (if l = c then (1 : Int) else if l < c ∧ tb m c = false then dg p y' (fi n (tb m) l c) else 0) := h.2 l c q1 (by omega) q4 (by omega) q3
  rw [if_neg (show ¬ l = c by omega), if_neg (show ¬ l = c by omega), if_pos ⟨q2, q5⟩, if_pos ⟨q2, q5⟩, he] at h2
  exact h2
/-! ranks of rows and of columns -/
theorem lpins_in {p n : Int} {v : Int → Int → Int} {lo hi k : Int} (hp : PR p) (hn : 0 ≤ n) (h0 : lo ≤ k) (h1 : k < hi) : In p n (lp (fun k E => ins p n E (v k)) lo hi E0) (v k) :=
  lp_keep (I := fun E => EW p n E) (P := fun E => In p n E (v k)) EW0 (fun _ _ _ _ hE => EW_ins hp hn hE) h0 h1 (fun _ hE => In_ins_v hp hn hE) (fun _ _ _ _ hE hi => In_ins_of hp hn hE hi)
theorem lpins_sub {p n : Int} {v : Int → Int → Int} {lo hi : Int} {F : ES} (hp : PR p) (hn : 0 ≤ n) (hlh : lo ≤ hi) (h : ∀ k, lo ≤ k → k < hi → In p n F (v k)) : ∀ u, In p n (lp (fun k E => ins p n E (v k)) lo hi E0) u → In p n F u :=
  (lp_ind (P := fun _ E => EW p n E ∧ ∀ u, In p n E u → In p n F u) ⟨EW0, fun u hu => In_zero (In_E0.mp hu)⟩ (fun k E k0 k1 hE => ⟨EW_ins hp hn hE.1, ins_sub hp hn hE.1 hE.2 (h k k0 k1)⟩) hlh).2
theorem cd_sub {p n : Int} {E F : ES} (hp : 2 ≤ p) (hE : EW p n E) (hF : EW p n F) (h : ∀ u, In p n E u → In p n F u) : cd E.1 n ≤ cd F.1 n := cd_le (fun l l0 l1 hl => In_leads hp hE hF h l0 l1 hl)
theorem rank_le {p n : Int} {M : Int → Int → Int} (hp : PR p) (hn : 0 ≤ n) : cd (lp (fun k E => ins p n E (fun i => M i k)) 0 n E0).1 n ≤ cd (lp (fun i E => ins p n E (M i)) 0 n E0).1 n := by
  have hp2 : 2 ≤ p := by unfold PR at hp; omega
  generalize hR : lp (fun i E => ins p n E (M i)) 0 n E0 = R
  have hREW : EW p n R := by rw [← hR]; exact EW_lpins hp hn hn
  have hRin : ∀ i, 0 ≤ i → i < n → In p n R (M i) := fun i i0 i1 => by rw [← hR]; exact lpins_in hp hn i0 i1
  have key : EW p n (lp (fun l E => if R.1 l = true then ins p n E (fun i => M i l) else E) 0 n E0) ∧ cd (lp (fun l E => if R.1 l = true then ins p n E (fun i => M i l) else E) 0 n E0).1 n ≤ cd R.1 n := by
    refine lp_ind (P := fun k E => EW p n E ∧ cd E.1 n ≤ cd R.1 k) ⟨EW0, by rw [cd0]; unfold cd; rw [sR_nil (by omega)]; omega⟩ (fun k E k0 k1 hE => ?_) hn
    rw [cd_succ k0]
    by_cases g : R.1 k = true
    · rw [if_pos g, if_pos g]
      refine ⟨EW_ins hp hn hE.1, ?_⟩
      rw [cd_ins hn hE.1]
      have := hE.2
      split <;> omega
    · rw [if_neg g, if_neg g]; exact ⟨hE.1, by have := hE.2; omega⟩
  have hF : ∀ l, 0 ≤ l → l < n → R.1 l = true → In p n (lp (fun l E => if R.1 l = true then ins p n E (fun i => M i l) else E) 0 n E0) (fun i => M i l) := fun l l0 l1 hl =>
    lp_keep (I := fun E => EW p n E) (P := fun E => In p n E (fun i => M i l)) EW0 (fun k E _ _ hE => by
      show EW p n (if _ then _ else _)
      split
      · exact EW_ins hp hn hE
      · exact hE) l0 l1 (fun E hE => by
      show In p n (if R.1 l = true then _ else _) _
      rw [if_pos hl]; exact In_ins_v hp hn hE) (fun k E _ _ hE hi => by
      show In p n (if _ then _ else _) _
      split
      · exact In_ins_of hp hn hE hi
      · exact hi)
  generalize lp (fun l E => if R.1 l = true then ins p n E (fun i => M i l) else E) 0 n E0 = F at key hF
  refine Int.le_trans (cd_sub hp2 (EW_lpins (v := fun k i => M i k) hp hn hn) key.1 (lpins_sub (v := fun k i => M i k) hp hn hn (fun k k0 k1 => ?_))) key.2
  have hs : In p n F (fun i => sR (fun l => if R.1 l = true then R.2 l k * M i l else 0) 0 n) := In.sum (f := fun l i => if R.1 l = true then R.2 l k * M i l else 0) (fun l l0 l1 => by
    by_cases g : R.1 l = true
    · exact ((hF l l0 l1 g).scl (R.2 l k)).eqv (fun c _ _ => by rw [if_pos g])
    · exact In_zero (fun c _ _ => by rw [if_neg g]; exact Int.dvd_zero p))
  refine hs.cg (fun i i0 i1 => ?_)
  have h3 := hRin i i0 i1 k k0 k1
  rw [sR_congr (g := fun l => if R.1 l = true then R.2 l k * M i l else 0) (fun l _ _ => by split <;> grind)] at h3
  obtain ⟨q, hq⟩ := h3
  exact ⟨-q, by show sR _ 0 n - M i k = _; grind⟩
theorem rank_eq {p n : Int} {M : Int → Int → Int} (hp : PR p) (hn : 0 ≤ n) : cd (lp (fun k E => ins p n E (fun i => M i k)) 0 n E0).1 n = cd (lp (fun i E => ins p n E (M i)) 0 n E0).1 n := by
  have a := rank_le (M := M) hp hn
  have b := rank_le (M := fun i k => M k i) hp hn
  exact Int.le_antisymm a b
