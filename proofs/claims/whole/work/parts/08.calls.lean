/-! ===== ends, entries, calls ===== -/
section LE
variable {d pc : Nat} {M : MR} {ls st : List AV} {σ : SG} {Q : Int → SG → Prop}
theorem L_ireturn {x : Int} (hr : M.2.2.2 = some .int) (hd : decode M.2.1 pc = .ok (.ireturn, 1)) (h : Q x σ) : L d M pc ls [vI x] σ Q := by
  intro l g p e s m args below meth c H locs A cx hR hl hL hst
  have hlocks : meth.locks = false := cx.2.2.2.2.1
  refine W.iret cx.1 cx.2.1 (by rw [cx.2.2.2.1, hr]) (fun t ht _ => ⟨x, σ, ?_, ?_, by rw [ht]; exact hR, h⟩) hl hd hlocks
  · rw [hr]; rfl
  · rw [hr]; exact ok_head hst
theorem L_zreturn {x : Int} (hr : M.2.2.2 = some .boolean) (hd : decode M.2.1 pc = .ok (.ireturn, 1)) (h : (x = 0 ∨ x = 1) ∧ Q x σ) : L d M pc ls [vI x] σ Q := by
  intro l g p e s m args below meth c H locs A cx hR hl hL hst
  have hlocks : meth.locks = false := cx.2.2.2.2.1
  refine W.zret (ty := .boolean) (v := Int32.ofInt x) cx.1 cx.2.1 (by rw [cx.2.2.2.1, hr]) ?_ (fun t ht _ => ⟨x, σ, ?_, ?_, by rw [ht]; exact hR, h.2⟩) hl hd hlocks
  · rcases h.1 with rfl | rfl <;> rfl
  · rw [hr]; rfl
  · rw [hr]; exact ok_head hst
theorem L_zreturn0 (hr : M.2.2.2 = some .boolean) (hd : decode M.2.1 pc = .ok (.ireturn, 1)) (h : Q 0 σ) : L d M pc ls [vI 0] σ Q := L_zreturn hr hd ⟨Or.inl rfl, h⟩
theorem L_zreturn1 (hr : M.2.2.2 = some .boolean) (hd : decode M.2.1 pc = .ok (.ireturn, 1)) (h : Q 1 σ) : L d M pc ls [vI 1] σ Q := L_zreturn hr hd ⟨Or.inr rfl, h⟩
theorem L_lreturn {x : Int} (hr : M.2.2.2 = some .long) (hd : decode M.2.1 pc = .ok (.lreturn, 1)) (h : Q x σ) : L d M pc ls [vJ x] σ Q := by
  intro l g p e s m args below meth c H locs A cx hR hl hL hst
  have hlocks : meth.locks = false := cx.2.2.2.2.1
  refine W.lret (v := Int64.ofInt x) cx.1 cx.2.1 (by rw [cx.2.2.2.1, hr]) (fun t ht _ => ⟨x, σ, ?_, ?_, by rw [ht]; exact hR, h⟩) hl hd hlocks
  · rw [hr]; rfl
  · rw [hr]; exact ok_head hst
theorem L_return (hr : M.2.2.2 = none) (hd : decode M.2.1 pc = .ok (.return_, 1)) (h : Q 0 σ) : L d M pc ls [] σ Q := by
  intro l g p e s m args below meth c H locs A cx hR hl hL hst
  have hlocks : meth.locks = false := cx.2.2.2.2.1
  refine W.vret cx.1 cx.2.1 (by rw [cx.2.2.2.1, hr]) (fun t ht _ => ⟨0, σ, ?_, ?_, by rw [ht]; exact hR, h⟩) hl hd hlocks
  · rw [hr]; rfl
  · rw [hr]; trivial
end LE
def ent : List AV → List AV
  | [] => []
  | v :: t => match v.1 with
    | 1 => v :: vU :: ent t
    | _ => v :: ent t
theorem kn_cons (g : GG) (i : Nat) (v : AV) (t : List AV) : kn g i (v :: t) = if v.1 = 9 then kn g (i + 1) t else (i, cv g v) :: kn g (i + 1) t := rfl
theorem ent_one {v : AV} {t : List AV} (h : v.1 = 1) : ent (v :: t) = v :: vU :: ent t := by
  obtain ⟨a, b⟩ := v
  simp only at h
  subst h
  rfl
theorem ent_oth {v : AV} {t : List AV} (h : v.1 ≠ 1) : ent (v :: t) = v :: ent t := by
  show (match v.1 with
    | 1 => v :: vU :: ent t
    | _ => v :: ent t) = _
  split
  · rename_i z; exact absurd z h
  · rfl
theorem kn_unset (g : GG) : ∀ (k i : Nat), kn g i (List.replicate k vU) = []
  | 0, _ => rfl
  | k + 1, i => by
    show kn g i (vU :: List.replicate k vU) = []
    unfold kn
    rw [if_pos rfl]
    exact kn_unset g k (i + 1)
theorem ent_kn (g : GG) (k : Nat) : ∀ (args : List AV) (i : Nat), ∀ q ∈ kn g i (ent args ++ List.replicate k vU), q ∈ lv_args i (args.map (cv g))
  | [], i, q, h => by
    rw [show ent [] ++ List.replicate k vU = List.replicate k vU from rfl, kn_unset] at h
    cases h
  | v :: t, i, q, h => by
    show q ∈ (i, cv g v) :: lv_args (if (cv g v).category = 2 then i + 2 else i + 1) (t.map (cv g))
    by_cases h1 : v.1 = 1
    · rw [if_pos (cv_cat.mpr h1)]
      rw [ent_one h1] at h
      have h2 : q ∈ (i, cv g v) :: kn g (i + 2) (ent t ++ List.replicate k vU) := by
        have h3 : kn g i ((v :: vU :: ent t) ++ List.replicate k vU) = (i, cv g v) :: kn g (i + 2) (ent t ++ List.replicate k vU) := by
          show kn g i (v :: vU :: (ent t ++ List.replicate k vU)) = _
          rw [kn_cons, if_neg (by omega), kn_cons, if_pos rfl]
        rw [h3] at h
        exact h
      rcases List.mem_cons.mp h2 with h4 | h4
      · exact List.mem_cons.mpr (Or.inl h4)
      · exact List.mem_cons.mpr (Or.inr (ent_kn g k t (i + 2) q h4))
    · rw [if_neg (fun z => h1 (cv_cat.mp z))]
      rw [ent_oth h1] at h
      have h3 : q ∈ kn g i (v :: (ent t ++ List.replicate k vU)) := h
      rw [kn_cons] at h3
      by_cases h9 : v.1 = 9
      · rw [if_pos h9] at h3
        exact List.mem_cons.mpr (Or.inr (ent_kn g k t (i + 1) q h3))
      · rw [if_neg h9] at h3
        rcases List.mem_cons.mp h3 with h4 | h4
        · exact List.mem_cons.mpr (Or.inl h4)
        · exact List.mem_cons.mpr (Or.inr (ent_kn g k t (i + 1) q h4))
theorem ent_len (g : GG) : ∀ args : List AV, (lg_sl (args.map (cv g))).length = (ent args).length
  | [] => rfl
  | v :: t => by
    have ih := ent_len g t
    unfold lg_sl at ih ⊢
    simp only [List.map_cons, List.flatMap_cons, List.length_append, ih]
    by_cases h1 : v.1 = 1
    · rw [if_pos (cv_cat.mpr h1), ent_one h1]
      simp; omega
    · rw [if_neg (fun z => h1 (cv_cat.mp z)), ent_oth h1]
      simp; omega
theorem ent_ok {args : List AV} (k : Nat) (h : ∀ v ∈ args, okv v) : ∀ v ∈ ent args ++ List.replicate k vU, okv v := by
  intro v hv
  rcases List.mem_append.mp hv with h1 | h1
  · clear hv
    induction args with
    | nil => cases h1
    | cons w t ih =>
      by_cases hw : w.1 = 1
      · rw [ent_one hw] at h1
        rcases List.mem_cons.mp h1 with rfl | h2
        · exact h _ List.mem_cons_self
        · rcases List.mem_cons.mp h2 with rfl | h3
          · exact okv_vU
          · exact ih (fun a ha => h a (List.mem_cons_of_mem _ ha)) h3
      · rw [ent_oth hw] at h1
        rcases List.mem_cons.mp h1 with rfl | h2
        · exact h _ List.mem_cons_self
        · exact ih (fun a ha => h a (List.mem_cons_of_mem _ ha)) h2
  · rw [(List.mem_replicate.mp h1).2]; exact okv_vU
/-- a method's contract out of the walk of its body -/
theorem Tri_intro {d : Nat} {M : MR} {args : List AV} {σ : SG} {Q : Int → SG → Prop} (hp : plainName M.1.cls = true) (hlen : (ent args).length ≤ M.2.2.1) {ls : List AV} (hls : ent args ++ List.replicate (M.2.2.1 - (ent args).length) vU = ls) (h : (∀ a ∈ args, okv a) → L d M 0 ls [] σ Q) : Tri d M args σ Q := by
  intro l g
  refine Met.ofW (cc := M.2.1) (maxL := M.2.2.1) (ret := M.2.2.2) hp rfl ?_
  intro p e s m as below meth c s₁ B hml hv
  obtain ⟨rfl, hok, hR, hK⟩ := hv
  have hts := atoms_spec (ws := wsM M) B.pre
  have hl := lv_entry (args.map (cv g)) (n := M.2.2.1) (by rw [ent_len]; exact hlen)
  rw [lg_entry_eq]
  refine h hok l g p e s m _ below meth c s.heap [] _ ⟨B.exec, B.bytes, hml, B.returns, B.notSynchronized, findClass_of_methodNamed B.named, fun w hw => hts w (List.mem_cons_of_mem _ hw), hK, wsO_lt hR.1, hR.2.1⟩ ⟨hR, Nat.le_refl _⟩ (fun q hq => by cases hq) ⟨⟨hl.1, hl.2.1, fun q hq => hl.2.2 q ?_⟩, ?_⟩ (fun v hv => by cases hv)
  · rw [← hls] at hq
    exact ent_kn g _ args 0 q hq
  · rw [← hls]
    exact ent_ok _ hok
theorem Tri.mono {d : Nat} {M : MR} {args : List AV} {σ : SG} {Q Q' : Int → SG → Prop} (h : Tri d M args σ Q) (hq : ∀ r σ', Q r σ' → Q' r σ') : Tri d M args σ Q' := by
  intro l g p e a1 a2 a3 s m args below a4 a5 a6 a7
  obtain ⟨k, o, h1, h2, h3, hQ⟩ := h l g p e a1 a2 a3 s m args below a4 a5 a6 a7
  obtain ⟨⟨r, σ', q1, q2, q3, q4⟩, q5⟩ := hQ
  exact ⟨k, o, h1, h2, h3, ⟨r, σ', q1, q2, q3, hq _ _ q4⟩, q5⟩
