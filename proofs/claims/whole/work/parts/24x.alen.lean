section LAU
variable {d pc : Nat} {M : MR} {ls st : List AV} {σ : SG} {Q : Int → SG → Prop}
/-- the length of an int array of ours, or of UNITS -/
theorem L_alenU {a : Int} (hd : decode M.2.1 pc = .ok (.arraylength, 1)) (h : (kd a).1 = 100 ∧ L d M (pc + 1) ls (vI ((kd a).2 : Int) :: st) σ Q) : L d M pc ls (vA a :: st) σ Q := by
  by_cases ha : 0 ≤ a
  · exact L_alen hd ⟨⟨ha, h.1⟩, h.2⟩
  · obtain ⟨rfl, -, h25⟩ := kd_neg h.1 ha (by decide)
    intro l g p e s m args below meth c H locs A cx hR hl hL hst
    obtain ⟨⟨N, xs, ⟨cell, c1, c2, c3, c4, c6⟩, -, hN, -⟩, hlt⟩ := cx.2.2.2.2.2.2.2.1.2.2.2.2.1
    have e0 : (List.map (cv g) (vA (-2) :: st)) = .ref (gU g) :: st.map (cv g) := by
      show cr g (-2) :: _ = _
      rw [cr_units]
    rw [e0]
    have hcell : H[gU g]? = some cell := by rw [hR.1.2.1 _ hlt]; exact c1
    refine W.alen (n := Int32.ofInt 25) cx.1 cx.2.1 hcell c2 (by rw [c4]; exact hN) rfl rfl hd ?_
    have h2 := h.2
    rw [h25] at h2
    exact h2.push (v := vI 25) (show inI 25 from ⟨by decide, by decide⟩) cx hR hl hL (ok_tail hst) rfl
end LAU
