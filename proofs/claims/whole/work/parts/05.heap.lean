/-! ===== the heap's rules: fields, arrays, calls, ends ===== -/
def up (σ : SG) (a k v : Int) : SG := fun a' k' => if a' = a ∧ k' = k then v else σ a' k'
theorem wsO_at {g : GG} {σ : SG} {a : Nat} (h : a < KF.length) : (wsO g σ)[a]? = some (gB g + a, celK g (σ a) (kdn a)) := by
  unfold wsO
  rw [List.getElem?_map, List.getElem?_range h]
  rfl
theorem wsO_of {g : GG} {σ : SG} {i : Nat} {q : Nat × va_E} (h : (wsO g σ)[i]? = some q) : i < KF.length ∧ q.1 = gB g + i := by
  unfold wsO at h
  rw [List.getElem?_map] at h
  cases hr : (List.range KF.length)[i]? with
  | none => rw [hr] at h; cases h
  | some j =>
    rw [hr] at h
    obtain ⟨h1, h2⟩ := List.getElem?_eq_some_iff.mp hr
    rw [List.length_range] at h1
    rw [List.getElem_range] at h2
    subst h2
    cases h
    exact ⟨h1, rfl⟩
theorem wsO_D (g : GG) (σ : SG) : va_D (Ag g) (wsO g σ) := by
  refine ⟨fun i j x y hi hj hxy => ?_, fun k q hk => ?_⟩
  · have h1 := (wsO_of hi).2
    have h2 := (wsO_of hj).2
    omega
  · have h1 := (wsO_of hk).2
    show gB g ≤ q.1
    omega
theorem kd_nat (a : Nat) : kd a = kdn a := by
  unfold kd
  rw [if_pos (by omega)]
  simp
theorem kdn_lt {a : Nat} (h : (kdn a).1 ≠ 999) : a < KF.length := by
  rcases Nat.lt_or_ge a KF.length with h1 | h1
  · exact h1
  · exfalso
    apply h
    unfold kdn
    rw [List.getD_eq_getElem?_getD, List.getElem?_eq_none h1]
    rfl
theorem nat_of {a : Int} (h : 0 ≤ a) : ∃ n : Nat, a = n := ⟨a.toNat, by omega⟩
/-- the world behind a change of one place -/
theorem wsO_up {g : GG} {σ : SG} {a : Nat} {k v : Int} (h : a < KF.length) : (wsO g σ).set a (gB g + a, celK g (up σ a k v a) (kdn a)) = wsO g (up σ a k v) := by
  apply List.ext_getElem?
  intro i
  by_cases hi : i = a
  · subst hi
    rw [List.getElem?_set_self (by unfold wsO; simpa using h), wsO_at h]
  · rw [List.getElem?_set_ne (Ne.symm hi)]
    by_cases h2 : i < KF.length
    · rw [wsO_at h2, wsO_at h2]
      have e : up σ a k v (i : Int) = σ (i : Int) := by
        funext j
        unfold up
        rw [if_neg (by omega)]
      rw [e]
    · rw [List.getElem?_eq_none (by unfold wsO; simpa using h2), List.getElem?_eq_none (by unfold wsO; simpa using h2)]
theorem Rng_up {σ : SG} {a : Nat} {k : Nat} {v : Int} (h : Rng σ) (hv : okv (ktg (kdn a) k, v)) : Rng (up σ a k v) := by
  intro b j
  simp only [up]
  by_cases hb : (b : Int) = (a : Int) ∧ (j : Int) = (k : Int)
  · rw [if_pos hb]
    have e1 : b = a := by omega
    have e2 : j = k := by omega
    subst e1; subst e2
    exact hv
  · rw [if_neg hb]
    exact h b j
