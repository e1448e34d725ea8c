/-! ===== frames, loops ===== -/
theorem up_same {σ : SG} {a k v : Int} : up σ a k v a k = v := by unfold up; rw [if_pos ⟨rfl, rfl⟩]
theorem up_ne {σ : SG} {a k v b j : Int} (h : b ≠ a ∨ j ≠ k) : up σ a k v b j = σ b j := by
  unfold up
  rw [if_neg (by omega)]
theorem up_cell {σ : SG} {a k v b : Int} (h : b ≠ a) : up σ a k v b = σ b := by
  funext j
  exact up_ne (Or.inl h)
/-- all cells but those of S, all fields but those of F, stay -/
def Fr (S : List Int) (F : List (Int × Int)) (σ σ' : SG) : Prop := ∀ a k, a ∉ S → (a, k) ∉ F → σ' a k = σ a k
theorem Fr_rfl {S : List Int} {F : List (Int × Int)} {σ : SG} : Fr S F σ σ := fun _ _ _ _ => rfl
theorem Fr.trans {S : List Int} {F : List (Int × Int)} {σ σ1 σ2 : SG} (h1 : Fr S F σ σ1) (h2 : Fr S F σ1 σ2) : Fr S F σ σ2 := fun a k ha hk => (h2 a k ha hk).trans (h1 a k ha hk)
theorem Fr.mono {S S' : List Int} {F F' : List (Int × Int)} {σ σ1 : SG} (h : Fr S F σ σ1) (hS : ∀ a ∈ S, a ∈ S') (hF : ∀ q ∈ F, q ∈ F' ∨ q.1 ∈ S') : Fr S' F' σ σ1 := fun a k ha hk => h a k (fun z => ha (hS a z)) (fun z => (hF _ z).elim hk ha)
theorem Fr_up {S : List Int} {F : List (Int × Int)} {σ σ1 : SG} {a k v : Int} (h : Fr S F σ σ1) (ha : a ∈ S) : Fr S F σ (up σ1 a k v) := fun b j hb hj => by
  rw [up_ne (Or.inl (fun e => hb (by rw [e]; exact ha)))]
  exact h b j hb hj
theorem Fr_upF {S : List Int} {F : List (Int × Int)} {σ σ1 : SG} {a k v : Int} (h : Fr S F σ σ1) (ha : (a, k) ∈ F) : Fr S F σ (up σ1 a k v) := fun b j hb hj => by
  have h1 : ¬ (b = a ∧ j = k) := fun e => hj (by rw [e.1, e.2]; exact ha)
  rw [up_ne (by omega)]
  exact h b j hb hj
theorem Fr.cell {S : List Int} {F : List (Int × Int)} {σ σ1 : SG} (h : Fr S F σ σ1) {a : Int} (ha : a ∉ S) (hF : ∀ q ∈ F, q.1 ≠ a) : σ1 a = σ a := by
  funext k
  exact h a k ha (fun z => hF _ z rfl)
theorem Fr_cpy {S : List Int} {F : List (Int × Int)} {σ σ1 : SG} {src sp dst dp n : Int} (h : Fr S F σ σ1) (ha : dst ∈ S) : Fr S F σ (cpy σ1 src sp dst dp n) := fun b j hb hj => by
  have h1 : ¬ (b = dst ∧ dp ≤ j ∧ j < dp + n) := fun e => hb (by rw [e.1]; exact ha)
  show (if b = dst ∧ dp ≤ j ∧ j < dp + n then _ else _) = _
  rw [if_neg h1]
  exact h b j hb hj
/-- a loop that counts up: what holds at its head, its step, its end -/
theorem loop_up {S : Type} {P : Int → S → Prop} (I : Int → S → Prop) (hi : Int) (fin : ∀ s, I hi s → P hi s) (step : ∀ k s, k < hi → I k s → (∀ s', I (k + 1) s' → P (k + 1) s') → P k s) :
    ∀ (lo : Int), lo ≤ hi → ∀ s, I lo s → P lo s := by
  have key : ∀ (n : Nat) (lo : Int), lo ≤ hi → hi ≤ lo + n → ∀ s, I lo s → P lo s := by
    intro n
    induction n with
    | zero =>
      intro lo h1 h2 s hs
      have : lo = hi := by omega
      subst this
      exact fin s hs
    | succ n ih =>
      intro lo h1 h2 s hs
      by_cases h3 : lo = hi
      · subst h3; exact fin s hs
      · exact step lo s (by omega) hs (fun s' hs' => ih (lo + 1) (by omega) (by omega) s' hs')
  intro lo h s hs
  exact key (hi - lo).toNat lo h (by omega) s hs
/-- a loop by a measure that falls -/
theorem loop_wf {S : Type} {P : S → Prop} (I : S → Prop) (m : S → Nat) (step : ∀ s, I s → (∀ s', I s' → m s' < m s → P s') → P s) : ∀ s, I s → P s := by
  have key : ∀ (n : Nat) (s : S), m s < n → I s → P s := by
    intro n
    induction n with
    | zero => intro s h; omega
    | succ n ih => intro s h hs; exact step s hs (fun s' hs' hm => ih s' (by omega) hs')
  intro s hs
  exact key (m s + 1) s (by omega) hs
theorem cmp3_lt {x y : Int} : cmp3 x y < 0 ↔ x < y := by unfold cmp3; split <;> (try split) <;> constructor <;> intro h <;> omega
theorem cmp3_le {x y : Int} : cmp3 x y ≤ 0 ↔ x ≤ y := by unfold cmp3; split <;> (try split) <;> constructor <;> intro h <;> omega
theorem cmp3_gt {x y : Int} : 0 < cmp3 x y ↔ y < x := by unfold cmp3; split <;> (try split) <;> constructor <;> intro h <;> omega
theorem cmp3_ge {x y : Int} : 0 ≤ cmp3 x y ↔ y ≤ x := by unfold cmp3; split <;> (try split) <;> constructor <;> intro h <;> omega
theorem cmp3_eq {x y : Int} : cmp3 x y = 0 ↔ x = y := by unfold cmp3; split <;> (try split) <;> constructor <;> intro h <;> omega
/-! leaves of both -/
theorem R_isIn_s {d : Nat} {x lo hi : Int} {σ : SG} {Q : Int → SG → Prop} (h1 : lo ≤ x → x ≤ hi → Q 1 σ) (h0 : (x < lo ∨ hi < x) → Q 0 σ) : Tri (d + 1) M_R_isIn [vJ x, vJ lo, vJ hi] σ Q := by
  refine t_R_isIn (fun _ _ _ => ⟨fun h => h0 (Or.inl (cmp3_lt.mp h)), fun h => ⟨fun g => h0 (Or.inr (cmp3_gt.mp g)), fun g => h1 (cmp3_ge.mp h) (cmp3_le.mp g)⟩⟩)
theorem R_cell_s {d : Nat} {i j k : Int} {σ : SG} {Q : Int → SG → Prop} (hi : 0 ≤ i ∧ i < 5) (hj : 0 ≤ j ∧ j < 5) (hk : 0 ≤ k ∧ k < 5) (h : Q (2 + 25 * i + 5 * j + k) σ) : Tri (d + 1) M_R_cell [vI i, vI j, vI k] σ Q := by
  refine t_R_cell (fun _ _ _ => ?_)
  simp (disch := omega) only [w32_id]
  exact h
theorem X_mod_s {d : Nat} {x p : Int} {σ : SG} {Q : Int → SG → Prop} (hp : 2 ≤ p) (h : Q (x % p) σ) : Tri (d + 1) M_X_mod [vI x, vI p] σ Q := by
  refine t_X_mod (fun hx hpi => ⟨fun _ => ⟨by omega, fun h0 => ?_, fun h0 => ?_⟩, fun h2 => by omega⟩)
  · have e : x.tmod p = x % p := by
      rcases Int.le_total 0 x with h1 | h1
      · exact Int.tmod_eq_emod_of_nonneg h1
      · have h5 : (-x).tmod p = -(x.tmod p) := Int.neg_tmod _ _
        have h6 := Int.tmod_nonneg p (show 0 ≤ -x by omega)
        have h7 : x.tmod p = 0 := by omega
        have h8 : p ∣ x := Int.dvd_of_tmod_eq_zero h7
        rw [h7, Int.emod_eq_zero_of_dvd h8]
    rw [e]; exact h
  · have h5 : x < 0 := by
      rcases Int.le_total 0 x with h1 | h1
      · have := Int.tmod_nonneg p h1; omega
      · rcases Int.lt_or_eq_of_le h1 with h2 | h2
        · exact h2
        · rw [h2] at h0; simp at h0
    have e : x.tmod p + p = x % p := by
      rw [Int.tmod_eq_emod]
      split
      · rename_i hc
        rw [Int.tmod_eq_emod, if_pos hc] at h0
        have := Int.emod_nonneg x (show p ≠ 0 by omega)
        omega
      · omega
    have h9 := Int.emod_lt_of_pos x (show 0 < p by omega)
    have h10 := Int.emod_nonneg x (show p ≠ 0 by omega)
    unfold inI at hpi
    rw [e, w32_id (by omega) (by omega)]
    exact h
