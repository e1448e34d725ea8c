section LAS
variable {d pc : Nat} {M : MR} {ls st : List AV} {σ : SG} {Q : Int → SG → Prop}
theorem L_astoreA {i : Nat} {x : Int} (hd : decode M.2.1 pc = .ok (.astore i, 2)) (hi : i < M.2.2.1) (h : L d M (pc + 2) (lst i (vA x) ls) st σ Q) : L d M pc ls (vA x :: st) σ Q := by
  by_cases hx : x = -1
  · intro l g p e s m args below meth c H locs A cx hR hl hL hst
    have hq : cr g x = .null := by rw [hx]; rfl
    have e0 : (List.map (cv g) (vA x :: st)) = .null :: st.map (cv g) := by rw [← hq]; rfl
    rw [e0]
    refine lv_astoreN cx.1 cx.2.1 hd hL.1 hi rfl (fun A' hA' => ?_)
    rw [← hq] at hA'
    exact h l g p e s m args below meth c H locs A' cx hR hl (Lo.set (v := vA x) rfl hL.2 trivial hA') (ok_tail hst)
  · exact L_astore hd hi hx h
theorem L_astore_nA {k : Fin 4} {x : Int} (hd : decode M.2.1 pc = .ok (.astore_n k, 1)) (hi : (k : Nat) < M.2.2.1) (h : L d M (pc + 1) (lst k (vA x) ls) st σ Q) : L d M pc ls (vA x :: st) σ Q := by
  by_cases hx : x = -1
  · intro l g p e s m args below meth c H locs A cx hR hl hL hst
    have hq : cr g x = .null := by rw [hx]; rfl
    have e0 : (List.map (cv g) (vA x :: st)) = .null :: st.map (cv g) := by rw [← hq]; rfl
    rw [e0]
    refine lv_astore_nN cx.1 cx.2.1 hd rfl hL.1 hi rfl (fun A' hA' => ?_)
    rw [← hq] at hA'
    exact h l g p e s m args below meth c H locs A' cx hR hl (Lo.set (v := vA x) rfl hL.2 trivial hA') (ok_tail hst)
  · exact L_astore_n hd hi hx h
end LAS
