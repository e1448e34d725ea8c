/-! ===== calls: span, rest, takeOut ===== -/
section CSP
variable {d : Nat} {σ : SG} {Q : Int → SG → Prop} {c : Int → Int}
theorem Lst.cgE {p n : Int} {T : Int → Int} {a : Prop} {E F E' : ES} (h : Lst p n T a E E') (hE : ESm n E F) : Lst p n T a F E' := ⟨h.1, fun u hu => h.2.1 u (hE.symm.inn hu), h.2.2.1, h.2.2.2.1, fun G g1 g2 g3 g4 => h.2.2.2.2 G g1 (fun u hu => g2 u (hE.inn hu)) g3 g4⟩
def VSp (σ : SG) (x m p n : Int) : ES := lp (fun k E => ins p n E (dg p (σ 1 (60 * x + k)))) 0 m E0
theorem VSp_n {x m p n : Int} : VSp (nrm σ) x m p n = VSp σ x m p n := by
  have e : nrm σ 1 = σ 1 := funext (fun j => n1)
  unfold VSp; rw [e]
def DGa (b j : Int) : Prop := b = 5 ∨ (b = 39 ∧ 3 ≤ j ∧ j ≤ 6) ∨ b = 40 ∨ b = 41
theorem X_gather_s {x m p n : Int} {T : Int → Int} (hW : WD σ 7 p n T) (hS : ST σ) (x0 : 0 ≤ x) (x1 : x < 4) (m0 : 0 ≤ m) (m1 : m ≤ 20) (h4 : σ 3 x < m → Q 4 σ) (h5 : m ≤ σ 3 x → ¬ gAll σ x m 0 (p ^ n.toNat - 1) → ∀ t, Off DGa σ t → Q 5 t) (h0 : m ≤ σ 3 x → gAll σ x m 0 (p ^ n.toNat - 1) → ∀ E t, EC t 39 p n E → ESm n E (VSp σ x m p n) → Off DGa σ t → Q 0 t) : Tri (d + 4) M_X_gather [vA 0, vI x, vI m] σ Q := by
  obtain ⟨b1, b2, b3, b4⟩ := hW.pn.b
  have hpw := hW.pn.pow
  have s39 : stl 39 = 5 := rfl
  refine t_X_gather (fun _ _ => ⟨⟨x0, x1⟩, fun z => ?_, h4⟩)
  rw [hW.2.1, hW.2.2.1]
  refine Ec_begin_s ob_39 (hS 39 ob_39) hW.pn.pr (by omega) (by omega) (fun t1 hE1 hO1 => ?_)
  refine loop_up (P := fun k s => L (d + 4) M_X_gather 38 [vA 0, vI x, vI m, vA 7, vI k, vU, vU] [] s Q) (fun k s => 0 ≤ k ∧ (∀ j, 0 ≤ j → j < k → 0 ≤ σ 1 (60 * x + j) ∧ σ 1 (60 * x + j) ≤ p ^ n.toNat - 1) ∧ (∃ E, EC s 39 p n E ∧ ESm n E (VSp σ x k p n)) ∧ Off DGa σ s) m ?_ ?_ 0 m0 t1 ⟨Int.le_refl _, fun j j0 j1 => by omega, ⟨E0, hE1, by unfold VSp; rw [lp_nil (Int.le_refl _)]; exact ESm.rfl'⟩, Off_mono hO1 (fun b j q => by unfold DGa; omega)⟩
  · rintro s ⟨k0, a1, ⟨E, hE, hm⟩, hO⟩
    exact s_X_gather_38 ⟨fun _ => h0 z (fun k k0 k1 => a1 k k0 k1) E s hE hm hO, fun y => by omega⟩
  · rintro k s hk ⟨k0, a1, ⟨E, hE, hm⟩, hO⟩ next
    have hWs : WD s 7 p n T := hW.cg (fun k => hO 7 k (by unfold DGa; omega)) (fun k => hO (7 + 1) k (by unfold DGa; omega))
    refine s_X_gather_38 ⟨fun y => by omega, fun _ => ?_⟩
    rw [w32_id (x := x * 60) (by omega) (by omega), w32_id (x := x * 60 + k) (by omega) (by omega), w32_id (x := k + 1) (by omega) (by omega), hO 1 _ (by unfold DGa; omega), show x * 60 + k = 60 * x + k by omega]
    refine ⟨⟨by omega, by omega⟩, X_isVector_s hWs (fun v0 v1 => ⟨fun _ => ⟨ob_7, ?_⟩, fun y => by omega⟩) (fun v => ⟨fun y => absurd rfl y, fun _ => h5 z (fun w => ?_) s hO⟩)⟩
    · rw [w32_id (x := σ 1 (60 * x + k)) (by omega) (by omega)]
      refine Wd_unpack_s ob_7 (by rw [hWs.2.1, hWs.2.2.1]; exact hWs.pn) (by omega) kd_5 (by omega) (by omega) (by rw [hWs.2.2.1]; omega) (by omega) v0 (fun s2 hu hO2 => ?_)
      rw [hWs.2.1, hWs.2.2.1] at hu
      have hE2 : EC s2 39 p n E := hE.cg (fun k => hO2 39 k (by omega)) (fun k => hO2 (39 + 1) k (by omega))
      refine Ec_add_s hE2 kd_5 (by omega) (by omega) (by omega) (by omega) (fun c c0 c1 => by rw [hu c c0 c1]; exact dgIn (by omega)) (fun r s3 hE3 _ hO3 => next s3 ⟨by omega, fun j j0 j1 => ?_, ⟨_, hE3, ?_⟩, Off_trans hO (Off_trans (Off_mono hO2 (fun b j q => by unfold DGa; omega)) (Off_mono hO3 (fun b j q => by unfold DGa; omega)))⟩)
      · by_cases q : j = k
        · rw [q]; exact ⟨v0, by omega⟩
        · exact a1 j j0 (by omega)
      · unfold VSp; rw [lp_succ k0]; exact hm.insv (by omega) (fun c c0 c1 => hu c c0 c1)
    · have := w k k0 hk; omega
theorem R_wrongVectors_s {x m p n : Int} {T : Int → Int} {t : SG} (hR : RW t p n T) (ht : trys σ t) (x0 : 0 ≤ x) (x1 : x < 4) (m0 : 0 ≤ m) (m1 : m ≤ 20) (h4 : σ 3 x < m → Q 4 t) (h5 : m ≤ σ 3 x → ¬ gAll σ x m 0 (p ^ n.toNat - 1) → Q 5 t) (h0 : m ≤ σ 3 x → gAll σ x m 0 (p ^ n.toNat - 1) → Q 0 t) : Tri (d + 4) M_R_wrongVectors [vA 161, vI x, vI m] t Q := by
  refine t_R_wrongVectors (fun _ _ => ⟨⟨x0, x1⟩, ?_⟩)
  rw [ht.1 x x0 x1]
  refine ⟨fun z => ?_, h4⟩
  refine loop_up (S := Unit) (P := fun k _ => L (d + 4) M_R_wrongVectors 14 [vA 161, vI x, vI m, vI k] [] t Q) (fun k _ => 0 ≤ k ∧ ∀ j, 0 ≤ j → j < k → 0 ≤ σ 1 (60 * x + j) ∧ σ 1 (60 * x + j) ≤ p ^ n.toNat - 1) m ?_ ?_ 0 m0 () ⟨Int.le_refl _, fun j j0 j1 => by omega⟩
  · rintro _ ⟨k0, a1⟩
    exact s_R_wrongVectors_14 ⟨fun _ => h0 z (fun k k0 k1 => a1 k k0 k1), fun y => by omega⟩
  · rintro k _ hk ⟨k0, a1⟩ next
    refine s_R_wrongVectors_14 ⟨fun y => by omega, fun _ => R_numberOf_s ⟨x0, x1⟩ ⟨k0, by omega⟩ ?_⟩
    rw [ht.2 _ (by omega) (by omega), w32_id (x := k + 1) (by omega) (by omega)]
    refine R_isVector_s hR (fun v0 v1 => ⟨fun _ => next () ⟨by omega, fun j j0 j1 => ?_⟩, fun y => by omega⟩) (fun v => ⟨fun y => absurd rfl y, fun _ => h5 z (fun w => ?_)⟩)
    · by_cases q : j = k
      · rw [q]; exact ⟨v0, by omega⟩
      · exact a1 j j0 (by omega)
    · have := w k k0 hk; omega
/-- a refusal's word of given VECTORS -/
def vCod (σ : SG) (x m P : Int) (G : Prop) (s : Int) : Prop := (s = 1 ∧ ¬ (0 ≤ x ∧ x < 4)) ∨ (s = 3 ∧ (0 ≤ x ∧ x < 4) ∧ σ 3 x < 0) ∨ (s = 5 ∧ (0 ≤ x ∧ x < 4) ∧ 0 ≤ σ 3 x ∧ ¬ G) ∨ (s = 4 ∧ (0 ≤ x ∧ x < 4) ∧ 0 ≤ σ 3 x ∧ G ∧ σ 3 x < m) ∨ (s = 5 ∧ (0 ≤ x ∧ x < 4) ∧ 0 ≤ σ 3 x ∧ G ∧ m ≤ σ 3 x ∧ ¬ gAll σ x m 0 (P - 1))
theorem vCod_0 {x m P s : Int} {G : Prop} (h : vCod σ x m P G s) : s ≠ 0 := by
  rcases h with h | h | h | h | h <;> omega
theorem vCod_p {x m P s : Int} {G : Prop} (h : vCod σ x m P G s) : 0 < s := by
  rcases h with h | h | h | h | h <;> omega
theorem vCod_u {x m P s s' : Int} {G : Prop} (h : vCod σ x m P G s) (g : vCod σ x m P G s') : s = s' := by
  rcases h with h | h | h | h | h <;> rcases g with g | g | g | g | g <;> first | omega | exact absurd g.2.2.2.1 h.2.2.2 | exact absurd h.2.2.2.1 g.2.2.2
theorem vCod_no {x m P s : Int} {G : Prop} (h : vCod σ x m P G s) (x0 : 0 ≤ x) (x1 : x < 4) (z : 0 ≤ σ 3 x) (hG : G) (z2 : m ≤ σ 3 x) (ha : gAll σ x m 0 (P - 1)) : False := by
  rcases h with h | h | h | h | h
  · omega
  · omega
  · exact h.2.2.2 hG
  · omega
  · exact h.2.2.2.2.2 ha
theorem vCod_n {x m P s : Int} {G : Prop} (h : vCod (nrm σ) x m P G s) : vCod σ x m P G s := by
  have e3 : nrm σ 3 = σ 3 := funext (fun j => n3)
  have e1 : nrm σ 1 = σ 1 := funext (fun j => n1)
  unfold vCod gAll at *
  rw [e3, e1] at h
  exact h
theorem X_givenTrouble_s {x m p n : Int} {T : Int → Int} (hW : WD σ 7 p n T) (hS : ST σ) (hb : ∀ s, vCod σ x m (p ^ n.toNat) (1 ≤ m ∧ m ≤ 20) s → ∀ t, Off DGa σ t → Q s t) (hg : 0 ≤ x → x < 4 → 0 ≤ σ 3 x → (1 ≤ m ∧ m ≤ 20) → m ≤ σ 3 x → gAll σ x m 0 (p ^ n.toNat - 1) → ∀ E t, EC t 39 p n E → ESm n E (VSp σ x m p n) → Off DGa σ t → Q 0 t) : Tri (d + 5) M_X_givenTrouble [vA 0, vI x, vI m] σ Q := by
  refine t_X_givenTrouble (fun _ _ => X_trayTrouble_s (fun z => ⟨fun _ => ⟨fun _ => hb 1 (Or.inl ⟨rfl, z⟩) σ Off_rfl, fun y => by omega⟩, fun y => by omega⟩) (fun x0 x1 z => ⟨fun _ => ⟨fun _ => hb 3 (Or.inr (Or.inl ⟨rfl, ⟨x0, x1⟩, z⟩)) σ Off_rfl, fun y => by omega⟩, fun y => by omega⟩) (fun x0 x1 z => ⟨fun y => absurd rfl y, fun _ => ⟨fun y => ⟨fun _ => hb 5 (Or.inr (Or.inr (Or.inl ⟨rfl, ⟨x0, x1⟩, z, fun w => by omega⟩))) σ Off_rfl, fun y2 => by omega⟩, fun m0 => ⟨fun m1 => ⟨fun y => absurd rfl y, fun _ => ?_⟩, fun y => ⟨fun _ => hb 5 (Or.inr (Or.inr (Or.inl ⟨rfl, ⟨x0, x1⟩, z, fun w => by omega⟩))) σ Off_rfl, fun y2 => by omega⟩⟩⟩⟩))
  exact X_gather_s hW hS x0 x1 (by omega) m1 (fun q => hb 4 (Or.inr (Or.inr (Or.inr (Or.inl ⟨rfl, ⟨x0, x1⟩, z, ⟨m0, m1⟩, q⟩)))) σ Off_rfl) (fun q q2 t hO => hb 5 (Or.inr (Or.inr (Or.inr (Or.inr ⟨rfl, ⟨x0, x1⟩, z, ⟨m0, m1⟩, q, q2⟩)))) t hO) (fun q q2 E t hE hm hO => hg x0 x1 z ⟨m0, m1⟩ q q2 E t hE hm hO)
theorem R_wrongMade_s {x m p n : Int} {T : Int → Int} {t : SG} (hR : RW t p n T) (ht : trys σ t) (hb : ∀ s, vCod σ x m (p ^ n.toNat) (1 ≤ m ∧ m ≤ 20) s → Q s t) (hg : 0 ≤ x → x < 4 → 0 ≤ σ 3 x → (1 ≤ m ∧ m ≤ 20) → m ≤ σ 3 x → gAll σ x m 0 (p ^ n.toNat - 1) → Q 0 t) : Tri (d + 5) M_R_wrongMade [vA 161, vI x, vI m] t Q := by
  refine t_R_wrongMade (fun _ _ => R_isTray_s (fun x0 x1 => ⟨fun _ => ⟨⟨x0, x1⟩, ?_⟩, fun y => by omega⟩) (fun hn => ⟨fun y => absurd rfl y, fun _ => hb 1 (Or.inl ⟨rfl, hn⟩)⟩))
  rw [ht.1 x x0 x1]
  exact ⟨fun z => R_isIn_s (fun m0 m1 => ⟨fun _ => R_wrongVectors_s hR ht x0 x1 (by omega) m1 (fun q => hb 4 (Or.inr (Or.inr (Or.inr (Or.inl ⟨rfl, ⟨x0, x1⟩, z, ⟨m0, m1⟩, q⟩))))) (fun q q2 => hb 5 (Or.inr (Or.inr (Or.inr (Or.inr ⟨rfl, ⟨x0, x1⟩, z, ⟨m0, m1⟩, q, q2⟩))))) (fun q q2 => hg x0 x1 z ⟨m0, m1⟩ q q2), fun y => by omega⟩) (fun y => ⟨fun q => absurd rfl q, fun _ => hb 5 (Or.inr (Or.inr (Or.inl ⟨rfl, ⟨x0, x1⟩, z, fun w => by omega⟩)))⟩), fun z => hb 3 (Or.inr (Or.inl ⟨rfl, ⟨x0, x1⟩, z⟩))⟩
/-- the model's span of the same VECTORS -/
theorem R_made2 {x m what p n : Int} {T : Int → Int} {t : SG} (hR : RW t p n T) (ht : trys σ t) (x0 : 0 ≤ x) (x1 : x < 4) (m0 : 0 ≤ m) (m1 : m ≤ 20) (ha : gAll σ x m 0 (p ^ n.toNat - 1)) (h : ∀ r F t6, SP t6 172 r p n F → MAD p n T what (VSp σ x m p n) F → RW t6 p n T → Off DM t t6 → Q r t6) : Tri (d + 4) M_R_made [vA 161, vI x, vI m, vI what] t Q := by
  refine R_made_s hR ⟨x0, x1⟩ ⟨m0, m1⟩ (fun k k0 k1 => ?_) (fun r F t6 hSP hM hO => h r F t6 hSP ?_ (hR.dm hO) hO)
  · rw [ht.2 _ (by omega) (by omega)]
    have := ha k k0 k1; omega
  · have e : lp (fun k E => ins p n E (dg p (t 164 (60 * x + k)))) 0 m E0 = VSp σ x m p n := by
      unfold VSp
      exact lp_rel (R := fun a b => a = b) rfl (fun k a b k0 k1 e => by rw [e, ht.2 _ (by omega) (by omega)])
    rw [e] at hM; exact hM
theorem trys_t {t : SG} {D : Int → Int → Prop} (hI : IVT σ) (hO : OffN D σ t) (hD : ∀ j, ¬ D 163 j ∧ ¬ D 164 j) : trys σ t := ⟨fun i i0 i1 => by rw [hO 163 i (hD i).1 (by omega)]; exact (hI.2.1.2.2.2.1 i i0 i1).2.1.symm, fun j j0 j1 => by rw [hO 164 j (hD j).2 (by omega)]; exact (hI.2.1.2.2.2.2.1 j j0 j1).symm⟩
theorem c_rest {x m : Int} (hI : IVT σ) : CAL d M_X_rest M_R_rest [vI x, vI m] σ := by
  obtain ⟨c, hK, hM, hD, hS⟩ := hI.2.2.1
  have hW := WD7 hK hD
  have hT := hW.2.2.2.2
  obtain ⟨b1, b2, b3, b4⟩ := hW.pn.b
  have hS0 := ST_n hI.2.2.2
  have hK' := KC_n hK rfl
  refine Tri_n (t_X_rest (fun _ _ => X_givenTrouble_s hW hS0 (fun s hs t1 hO1 => ⟨fun y => absurd y (vCod_0 hs), fun _ => t_X_fail (fun _ t e => ?_)⟩) (fun x0 x1 z hG z2 ha E t1 hE hm hO1 => ⟨fun _ => ?_, fun y => absurd rfl y⟩)))
  · have hs' := vCod_n hs
    have hx : QX σ t s := QXn (hS0.off hO1 (fun y hy => by have := ech_list hy; unfold DGa; omega)) hO1 (fun b j q => by unfold DGa at q; unfold DX; omega) e
    refine t_R_rest (fun _ _ t3 e3 t4 e4 => R_now e3 e4 (KM_qx hM hx) hD (fun t5 hR hO h0 hM5 => ?_))
    have ht5 := trys_o (trys_x hI hx) hO (fun j => by unfold DR; omega)
    refine R_wrongMade_s hR ht5 (fun s2 hs2 => ⟨fun y => by have := vCod_p hs2; omega, fun _ => R_ref (fun t6 h6 hO6 => ⟨rfl, IVT_q hI hx (Off_trans hO hO6) (by rw [h6]; exact vCod_u hs2 hs')⟩)⟩) (fun x0 x1 z hG z2 ha => absurd (vCod_no hs' x0 x1 z hG z2 ha) id)
  · rw [n3] at z z2
    have ha' := gAll_n ha
    rw [VSp_n] at hm
    have hW1 : WD t1 7 (c 0) (c 1) (TBc c 0) := hW.cg (fun k => hO1 7 k (by unfold DGa; omega)) (fun k => hO1 (7 + 1) k (by unfold DGa; omega))
    refine An_closeUp_s hW1 (by omega) hE (by omega) (fun E' t2 hE' hL hO2 => ?_)
    have hL' : Lst (c 0) (c 1) (TBc c 0) True (VSp σ x m (c 0) (c 1)) E' := (hL.cgp ⟨fun _ => trivial, fun _ => by omega⟩).cgE hm
    have hO02 : Off (fun b j => DGa b j ∨ b = 66) (nrm σ) t2 := Off_trans (Off_mono hO1 (fun b j q => Or.inl q)) (Off_mono hO2 (fun b j q => by unfold DE at q; unfold DGa; omega))
    have hW2 : WD t2 7 (c 0) (c 1) (TBc c 0) := hW.cg (fun k => hO02 7 k (by unfold DGa; omega)) (fun k => hO02 (7 + 1) k (by unfold DGa; omega))
    have hS2 : ST t2 := hS0.off hO02 (fun y hy => by have := ech_list hy; unfold DGa; omega)
    have hK2 : KC t2 6 c := hK'.off (OffN_of hO02) (fun b j q1 q2 => by unfold DGa; omega)
    have e5 : t2 39 5 = cd E'.1 (c 1) := hE'.2.2.2.2.1
    rw [e5, hW2.2.2.1]
    refine ⟨fun lt => Wo_leaveRest_s hW2 (by omega) hE' rfl lt (fun t3 hWN hO3 => t_X_answer (fun _ t e => ?_)), fun ge => t_X_fail (fun _ t e => ?_)⟩
    · have hO03 : Off (fun b j => (b = 0 ∧ j = 0) ∨ b = 5 ∨ (7 ≤ b ∧ b ≤ 8) ∨ (b = 39 ∧ 3 ≤ j) ∨ b = 40 ∨ b = 41 ∨ b = 66 ∨ (b = 105 ∧ 1 ≤ j) ∨ b = 106 ∨ b = 112 ∨ b = 113) (nrm σ) t := Off_trans (Off_mono hO02 (fun b j q => by unfold DGa at q; omega)) (Off_trans (Off_mono hO3 (fun b j q => by omega)) (by rw [e]; exact Off_up (Or.inl ⟨rfl, rfl⟩)))
      have hOa : OffN (fun b j => (b = 0 ∧ j = 0) ∨ b = 4 ∨ b = 5 ∨ (7 ≤ b ∧ b ≤ 8) ∨ (13 ≤ b ∧ b ≤ 20) ∨ (39 ≤ b ∧ b ≤ 113)) σ t := OffN_n (Off_mono hO03 (fun b j q => by omega))
      have hSt : ST t := hS0.off hO03 (fun y hy => by have := ech_list hy; omega)
      have e2 : t3 7 2 = cd (nt E'.1) (c 1) := hWN.2.1
      rw [e2]
      refine t_R_rest (fun _ _ u3 f3 u4 f4 => R_now f3 f4 (KM_nx hM hOa (fun j => by omega)) hD (fun t5 hR hO h0 hM5 => ?_))
      have ht5 := trys_o (trys_t hI hOa (fun j => by omega)) hO (fun j => by unfold DR; omega)
      refine R_wrongMade_s hR ht5 (fun s2 hs2 => absurd (vCod_no hs2 x0 x1 z hG z2 ha') id) (fun _ _ _ _ _ _ => ⟨fun _ => R_made2 hR ht5 x0 x1 (by omega) hG.2 ha' (fun r F t6 hSP hMD hR6 hO6 => ?_), fun y => by omega⟩)
      have hEF : ESm (c 1) E' F := Lst_uniq (by omega) hL' (hMD.2.2.2 (by omega))
      have er : r = cd E'.1 (c 1) := hSP.1.trans hEF.symm.cdw
      rw [hR6.2.2.1]
      refine ⟨fun _ => R_rest_l hR6 hSP (by omega) (fun t7 hWt hO7 => ?_), fun y => by omega⟩
      have en : cd (nt E'.1) (c 1) = cd (nt F.1) (c 1) := by rw [cd_nt (by omega), cd_nt (by omega), hEF.cdw]
      have hM6 : KM t6 0 c := hM5.fr (fun j => hO6 166 j (by unfold DM; omega))
      have hK3 : KC t 6 (ptW c 0 (c 0) (cd (nt F.1) (c 1)) (MK (c 0) (cd (nt F.1) (c 1)) (RST (c 0) (c 1) (TBc c 0) F))) := by
        have h1 : KC t3 6 (ptW c 0 (c 0) (cd (nt F.1) (c 1)) (MK (c 0) (cd (nt F.1) (c 1)) (RST (c 0) (c 1) (TBc c 0) F))) := KC_w0 hK2 hWN.1 (e2.trans en) (fun q q0 q1 => by
          rw [hWN.2.2 q q0 q1, ← en]
          exact MK_cg (fun i j k i0 ij jm k0 km => RST_cg (by omega) hEF k0 km) q0 q1) (OffN_of (Off_mono hO3 (fun b j q => by omega)))
        exact h1.off (D := fun b j => b = 0) (OffN_of (by rw [e]; exact Off_up rfl)) (fun b j q1 q2 => by omega)
      refine ⟨en, ?_⟩
      exact IVT_2 hI hOa (Off_trans (Off_mono hO (fun b j q => Or.inl q)) (Off_trans (Off_mono (Off_dm hO6) (fun b j q => Or.inl q)) (Off_mono hO7 (fun b j q => by unfold DR; omega)))) hK3 (KM_pt0 hM6 hWt (fun j jj => hO7 166 j (by omega))) (DC_pt hD hWt.2.2.2 (by omega) (by omega)) hSt (by rw [e, up_same]) ((hO7 161 0 (by omega)).trans ((hO6 161 0 (by unfold DM; omega)).trans h0))
    · have hx : QX σ t 9 := QXn hS2 hO02 (fun b j q => by unfold DGa at q; unfold DX; omega) e
      refine t_R_rest (fun _ _ u3 f3 u4 f4 => R_now f3 f4 (KM_qx hM hx) hD (fun t5 hR hO h0 hM5 => ?_))
      have ht5 := trys_o (trys_x hI hx) hO (fun j => by unfold DR; omega)
      refine R_wrongMade_s hR ht5 (fun s2 hs2 => absurd (vCod_no hs2 x0 x1 z hG z2 ha') id) (fun _ _ _ _ _ _ => ⟨fun _ => R_made2 hR ht5 x0 x1 (by omega) hG.2 ha' (fun r F t6 hSP hMD hR6 hO6 => ?_), fun y => by omega⟩)
      have hEF : ESm (c 1) E' F := Lst_uniq (by omega) hL' (hMD.2.2.2 (by omega))
      have er : r = cd E'.1 (c 1) := hSP.1.trans hEF.symm.cdw
      have cb := (cd_b (ℓ := E'.1) (w := c 1) (by omega)).2
      rw [hR6.2.2.1]
      exact ⟨fun y => absurd (show r = c 1 by omega) y, fun _ => R_ref (fun t7 h7 hO7 => ⟨rfl, IVT_q hI hx (Off_trans hO (Off_trans (Off_dm hO6) hO7)) h7⟩)⟩
/-- a span of nothing is closed -/
theorem Lst_nil {p n : Int} {T : Int → Int} {E E' : ES} (hT : TW p n T) (hE : EW p n E) (h : cd E.1 n = 0) (hL : Lst p n T False E E') : cd E'.1 n = 0 := by
  obtain ⟨b1, b2, b3, b4⟩ := hT.1.b
  have hz : ESm n E0 E := ⟨fun l l0 l1 => (no_leads h l l0 l1).symm, fun l c _ _ hl => Bool.noConfusion hl⟩
  have hc : ClP p n T E E := fun u v hu hv => hz.inn (((cd_E0_iff hT hE).mp (by rw [brk_none h (by omega), cd0])) u v hu hv)
  exact cd_zero_of b1 (by omega) hL.1 (fun u hu => hz.symm.inn (hL.2.2.2.2 E hE (fun w hw => hw) (fun y => absurd y id) (fun _ => hc) u hu))
theorem c_takeOut {x m : Int} (hI : IVT σ) : CAL d M_X_takeOut M_R_takeOut [vI x, vI m] σ := by
  obtain ⟨c, hK, hM, hD, hS⟩ := hI.2.2.1
  have hW := WD7 hK hD
  have hT := hW.2.2.2.2
  obtain ⟨b1, b2, b3, b4⟩ := hW.pn.b
  have hS0 := ST_n hI.2.2.2
  have hK' := KC_n hK rfl
  refine Tri_n (t_X_takeOut (fun _ _ => X_givenTrouble_s hW hS0 (fun s hs t1 hO1 => ⟨fun y => absurd y (vCod_0 hs), fun _ => t_X_fail (fun _ t e => ?_)⟩) (fun x0 x1 z hG z2 ha E t1 hE hm hO1 => ⟨fun _ => ?_, fun y => absurd rfl y⟩)))
  · have hs' := vCod_n hs
    have hx : QX σ t s := QXn (hS0.off hO1 (fun y hy => by have := ech_list hy; unfold DGa; omega)) hO1 (fun b j q => by unfold DGa at q; unfold DX; omega) e
    refine t_R_takeOut (fun _ _ t3 e3 t4 e4 => R_now e3 e4 (KM_qx hM hx) hD (fun t5 hR hO h0 hM5 => ?_))
    have ht5 := trys_o (trys_x hI hx) hO (fun j => by unfold DR; omega)
    refine R_wrongMade_s hR ht5 (fun s2 hs2 => ⟨fun y => by have := vCod_p hs2; omega, fun _ => R_ref (fun t6 h6 hO6 => ⟨rfl, IVT_q hI hx (Off_trans hO hO6) (by rw [h6]; exact vCod_u hs2 hs')⟩)⟩) (fun x0 x1 z hG z2 ha => absurd (vCod_no hs' x0 x1 z hG z2 ha) id)
  · rw [n3] at z z2
    have ha' := gAll_n ha
    rw [VSp_n] at hm
    have hW1 : WD t1 7 (c 0) (c 1) (TBc c 0) := hW.cg (fun k => hO1 7 k (by unfold DGa; omega)) (fun k => hO1 (7 + 1) k (by unfold DGa; omega))
    have hS1 : ST t1 := hS0.off hO1 (fun y hy => by have := ech_list hy; unfold DGa; omega)
    have e5 : t1 39 5 = cd E.1 (c 1) := hE.2.2.2.2.1
    have hEW : EW (c 0) (c 1) E := hE.2.2.2.2.2.2.2.2.2.1
    rw [e5]
    refine ⟨fun ne => An_closeUp_s hW1 (by omega) hE (by omega) (fun E' t2 hE' hL hO2 => ?_), fun eq => t_X_fail (fun _ t e => ?_)⟩
    · have hL1 : Lst (c 0) (c 1) (TBc c 0) False E E' := hL.cgp ⟨fun y => y rfl, fun y => absurd y id⟩
      have hL' : Lst (c 0) (c 1) (TBc c 0) False (VSp σ x m (c 0) (c 1)) E' := hL1.cgE hm
      have c1 := cd_sub b1 hEW hL1.1 hL1.2.1
      have c0 := (cd_b (ℓ := E.1) (w := c 1) (by omega)).1
      have hO02 : Off (fun b j => DGa b j ∨ b = 66) (nrm σ) t2 := Off_trans (Off_mono hO1 (fun b j q => Or.inl q)) (Off_mono hO2 (fun b j q => by unfold DE at q; unfold DGa; omega))
      have hW2 : WD t2 7 (c 0) (c 1) (TBc c 0) := hW.cg (fun k => hO02 7 k (by unfold DGa; omega)) (fun k => hO02 (7 + 1) k (by unfold DGa; omega))
      have hK2 : KC t2 6 c := hK'.off (OffN_of hO02) (fun b j q1 q2 => by unfold DGa; omega)
      refine Wo_leavePart_s hW2 (by omega) hE' rfl (by omega) (fun t3 hWN hO3 => t_X_answer (fun _ t e => ?_))
      have hO03 : Off (fun b j => (b = 0 ∧ j = 0) ∨ b = 5 ∨ (7 ≤ b ∧ b ≤ 8) ∨ (b = 39 ∧ 3 ≤ j) ∨ b = 40 ∨ b = 41 ∨ b = 66 ∨ (b = 105 ∧ 1 ≤ j) ∨ b = 106 ∨ b = 112 ∨ b = 113) (nrm σ) t := Off_trans (Off_mono hO02 (fun b j q => by unfold DGa at q; omega)) (Off_trans (Off_mono hO3 (fun b j q => by omega)) (by rw [e]; exact Off_up (Or.inl ⟨rfl, rfl⟩)))
      have hOa : OffN (fun b j => (b = 0 ∧ j = 0) ∨ b = 4 ∨ b = 5 ∨ (7 ≤ b ∧ b ≤ 8) ∨ (13 ≤ b ∧ b ≤ 20) ∨ (39 ≤ b ∧ b ≤ 113)) σ t := OffN_n (Off_mono hO03 (fun b j q => by omega))
      have hSt : ST t := hS0.off hO03 (fun y hy => by have := ech_list hy; omega)
      have e2 : t3 7 2 = cd E'.1 (c 1) := hWN.2.1
      rw [e2]
      refine t_R_takeOut (fun _ _ u3 f3 u4 f4 => R_now f3 f4 (KM_nx hM hOa (fun j => by omega)) hD (fun t5 hR hO h0 hM5 => ?_))
      have ht5 := trys_o (trys_t hI hOa (fun j => by omega)) hO (fun j => by unfold DR; omega)
      refine R_wrongMade_s hR ht5 (fun s2 hs2 => absurd (vCod_no hs2 x0 x1 z hG z2 ha') id) (fun _ _ _ _ _ _ => ⟨fun _ => R_made2 hR ht5 x0 x1 (by omega) hG.2 ha' (fun r F t6 hSP hMD hR6 hO6 => ?_), fun y => by omega⟩)
      have hEF : ESm (c 1) E' F := Lst_uniq (by omega) hL' (hMD.2.2.1 rfl)
      have en : cd E'.1 (c 1) = cd F.1 (c 1) := hEF.cdw
      have er : r = cd E'.1 (c 1) := hSP.1.trans en.symm
      have hM6 : KM t6 0 c := hM5.fr (fun j => hO6 166 j (by unfold DM; omega))
      rw [hR6.2.1]
      refine ⟨fun _ => R_clear_s (by omega) kd_168 (by omega) (by omega) (by omega) (fun t7 y0 y1 y2 hO7 => ?_), fun y => by omega⟩
      have hR7 : RW t7 (c 0) (c 1) (TBc c 0) := hR6.fr (fun k _ _ => hO7 161 k (by omega)) (fun k => hO7 166 k (by omega)) (fun k => hO7 196 k (by omega))
      have hSP7 : SP t7 172 r (c 0) (c 1) F := hSP.cp (by omega) (fun k _ _ => hO7 172 k (by omega))
      have hM7 : KM t7 0 c := hM6.fr (fun j => hO7 166 j (by omega))
      refine R_takeOut_l hR7 hSP7 (by omega) y0 y1 y2 (fun t8 hWt hO8 => ⟨er.symm, ?_⟩)
      have hK3 : KC t 6 (ptW c 0 (c 0) (cd F.1 (c 1)) (MK (c 0) (cd F.1 (c 1)) (PRT (c 0) (c 1) (TBc c 0) F))) := by
        have h1 : KC t3 6 (ptW c 0 (c 0) (cd F.1 (c 1)) (MK (c 0) (cd F.1 (c 1)) (PRT (c 0) (c 1) (TBc c 0) F))) := KC_w0 hK2 hWN.1 (e2.trans en) (fun q q0 q1 => by
          rw [hWN.2.2 q q0 q1, ← en]
          exact MK_cg (fun i j k i0 ij jm k0 km => PRT_cg (by omega) hEF i0 (by omega) (by omega) jm) q0 q1) (OffN_of (Off_mono hO3 (fun b j q => by omega)))
        exact h1.off (D := fun b j => b = 0) (OffN_of (by rw [e]; exact Off_up rfl)) (fun b j q1 q2 => by omega)
      exact IVT_2 hI hOa (Off_trans (Off_mono hO (fun b j q => Or.inl q)) (Off_trans (Off_mono (Off_dm hO6) (fun b j q => Or.inl q)) (Off_trans (Off_mono hO7 (fun b j q => by unfold DR; omega)) (Off_mono hO8 (fun b j q => by unfold DR; omega))))) hK3 (KM_pt0 hM7 hWt (fun j jj => hO8 166 j (by omega))) (DC_pt hD hWt.2.2.2 (by omega) (by omega)) hSt (by rw [e, up_same]) ((hO8 161 0 (by omega)).trans ((hO7 161 0 (by omega)).trans ((hO6 161 0 (by unfold DM; omega)).trans h0)))
    · have hx : QX σ t 9 := QXn hS1 hO1 (fun b j q => by unfold DGa at q; unfold DX; omega) e
      refine t_R_takeOut (fun _ _ u3 f3 u4 f4 => R_now f3 f4 (KM_qx hM hx) hD (fun t5 hR hO h0 hM5 => ?_))
      have ht5 := trys_o (trys_x hI hx) hO (fun j => by unfold DR; omega)
      refine R_wrongMade_s hR ht5 (fun s2 hs2 => absurd (vCod_no hs2 x0 x1 z hG z2 ha') id) (fun _ _ _ _ _ _ => ⟨fun _ => R_made2 hR ht5 x0 x1 (by omega) hG.2 ha' (fun r F t6 hSP hMD hR6 hO6 => ?_), fun y => by omega⟩)
      have er : r = 0 := hSP.1.trans (Lst_nil hT hEW eq ((hMD.2.2.1 rfl).cgE hm.symm))
      exact ⟨fun y => absurd er y, fun _ => R_ref (fun t7 h7 hO7 => ⟨rfl, IVT_q hI hx (Off_trans hO (Off_trans (Off_dm hO6) hO7)) h7⟩)⟩
theorem c_span {x m w : Int} (hI : IVT σ) : CAL d M_X_span M_R_span [vI x, vI m, vI w] σ := by
  obtain ⟨c, hK, hM, hD, hS⟩ := hI.2.2.1
  have hW := WD7 hK hD
  obtain ⟨b1, b2, b3, b4⟩ := hW.pn.b
  have hS0 := ST_n hI.2.2.2
  -- the model
  have mod : ∀ (v : Int) t, KM t 0 c → trys σ t → (∀ t5, RW t5 (c 0) (c 1) (TBc c 0) → Off DR t t5 → t5 161 0 = 0 → trys σ t5 → (∀ s, vCod σ x m (c 0 ^ (c 1).toNat) ((0 ≤ m ∧ m ≤ 20) ∧ (0 ≤ w ∧ w ≤ 2)) s → Tri (d + 29) M_R_refuse [vA 161, vI s] t5 (fun r σ2 => v = r ∧ IVT σ2)) ∧ (0 ≤ x → x < 4 → 0 ≤ σ 3 x → ((0 ≤ m ∧ m ≤ 20) ∧ (0 ≤ w ∧ w ≤ 2)) → m ≤ σ 3 x → gAll σ x m 0 (c 0 ^ (c 1).toNat - 1) → Tri (d + 29) M_R_made [vA 161, vI x, vI m, vI w] t5 (fun r σ2 => v = r ∧ IVT σ2))) → Tri (d + 30) M_R_span [vA 161, vI x, vI m, vI w] t (fun r2 u2 => v = r2 ∧ IVT u2) := fun v t hMt htr h => by
    refine t_R_span (fun _ _ _ t3 e3 t4 e4 => R_now e3 e4 hMt hD (fun t5 hR hO h0 hM5 => ?_))
    have ht5 := trys_o htr hO (fun j => by unfold DR; omega)
    obtain ⟨bad, good⟩ := h t5 hR hO h0 ht5
    refine R_isTray_s (fun x0 x1 => ⟨fun _ => ⟨⟨x0, x1⟩, ?_⟩, fun y => by omega⟩) (fun hn => ⟨fun y => absurd rfl y, fun _ => bad 1 (Or.inl ⟨rfl, hn⟩)⟩)
    rw [ht5.1 x x0 x1]
    refine ⟨fun z => R_isIn_s (fun m0 m1 => ⟨fun y => by omega, fun _ => R_isIn_s (fun w0 w1 => ⟨fun _ => ?_, fun y => by omega⟩) (fun y => ⟨fun q => absurd rfl q, fun _ => bad 5 (Or.inr (Or.inr (Or.inl ⟨rfl, ⟨x0, x1⟩, z, fun g => by omega⟩)))⟩)⟩) (fun y => ⟨fun _ => bad 5 (Or.inr (Or.inr (Or.inl ⟨rfl, ⟨x0, x1⟩, z, fun g => by omega⟩))), fun q => absurd rfl q⟩), fun z => bad 3 (Or.inr (Or.inl ⟨rfl, ⟨x0, x1⟩, z⟩))⟩
    exact R_wrongVectors_s hR ht5 x0 x1 m0 m1 (fun q => ⟨fun y => by omega, fun _ => bad 4 (Or.inr (Or.inr (Or.inr (Or.inl ⟨rfl, ⟨x0, x1⟩, z, ⟨⟨m0, m1⟩, w0, w1⟩, q⟩))))⟩) (fun q q2 => ⟨fun y => by omega, fun _ => bad 5 (Or.inr (Or.inr (Or.inr (Or.inr ⟨rfl, ⟨x0, x1⟩, z, ⟨⟨m0, m1⟩, w0, w1⟩, q, q2⟩))))⟩) (fun q q2 => ⟨fun _ => good x0 x1 z ⟨⟨m0, m1⟩, w0, w1⟩ q q2, fun y => by omega⟩)
  have ref : ∀ s t1, vCod (nrm σ) x m (c 0 ^ (c 1).toNat) ((0 ≤ m ∧ m ≤ 20) ∧ (0 ≤ w ∧ w ≤ 2)) s → Off DGa (nrm σ) t1 → L (d + 30) M_X_span 47 [vA 0, vU, vU, vI w, vI s] [] t1 (fun r u => Tri (d + 30) M_R_span [vA 161, vI x, vI m, vI w] u (fun r2 u2 => r = r2 ∧ IVT u2)) := fun s t1 hs hO1 => by
    have hs' := vCod_n hs
    refine s_X_span_47 ⟨fun y => absurd y (vCod_0 hs), fun _ => t_X_fail (fun _ t e => ?_)⟩
    have hx : QX σ t s := QXn (hS0.off hO1 (fun y hy => by have := ech_list hy; unfold DGa; omega)) hO1 (fun b j q => by unfold DGa at q; unfold DX; omega) e
    exact mod (-1) t (KM_qx hM hx) (trys_x hI hx) (fun t5 hR hO h0 ht5 => ⟨fun s2 hs2 => R_ref (fun t6 h6 hO6 => ⟨rfl, IVT_q hI hx (Off_trans hO hO6) (by rw [h6]; exact vCod_u hs2 hs')⟩), fun x0 x1 z hG z2 ha => absurd (vCod_no hs' x0 x1 z hG z2 ha) id⟩)
  refine Tri_n (t_X_span (fun _ _ _ => X_trayTrouble_s (fun z => ⟨fun _ => ⟨fun _ => ref 1 _ (Or.inl ⟨rfl, z⟩) Off_rfl, fun y => by omega⟩, fun y => by omega⟩) (fun x0 x1 z => ⟨fun _ => ⟨fun _ => ref 3 _ (Or.inr (Or.inl ⟨rfl, ⟨x0, x1⟩, z⟩)) Off_rfl, fun y => by omega⟩, fun y => by omega⟩) (fun x0 x1 z => ⟨fun y => absurd rfl y, fun _ => ?_⟩)))
  have r5 : ¬ ((0 ≤ m ∧ m ≤ 20) ∧ (0 ≤ w ∧ w ≤ 2)) → L (d + 30) M_X_span 47 [vA 0, vU, vU, vI w, vI 5] [] (nrm σ) (fun r u => Tri (d + 30) M_R_span [vA 161, vI x, vI m, vI w] u (fun r2 u2 => r = r2 ∧ IVT u2)) := fun hn => ref 5 _ (Or.inr (Or.inr (Or.inl ⟨rfl, ⟨x0, x1⟩, z, hn⟩))) Off_rfl
  refine ⟨fun y => ⟨fun _ => r5 (by omega), fun y2 => by omega⟩, fun m0 => ⟨fun y => ⟨fun _ => r5 (by omega), fun y2 => by omega⟩, fun m1 => ⟨fun y => ⟨fun _ => r5 (by omega), fun y2 => by omega⟩, fun w0 => ⟨fun w1 => ⟨fun y => absurd rfl y, fun _ => ?_⟩, fun y => ⟨fun _ => r5 (by omega), fun y2 => by omega⟩⟩⟩⟩⟩
  have hG : (0 ≤ m ∧ m ≤ 20) ∧ (0 ≤ w ∧ w ≤ 2) := ⟨⟨m0, m1⟩, w0, w1⟩
  refine X_gather_s hW hS0 x0 x1 m0 m1 (fun q => ref 4 _ (Or.inr (Or.inr (Or.inr (Or.inl ⟨rfl, ⟨x0, x1⟩, z, hG, q⟩)))) Off_rfl) (fun q q2 t1 hO1 => ref 5 t1 (Or.inr (Or.inr (Or.inr (Or.inr ⟨rfl, ⟨x0, x1⟩, z, hG, q, q2⟩)))) hO1) (fun z2 ha E t1 hE hm hO1 => ?_)
  rw [n3] at z z2
  have ha' := gAll_n ha
  rw [VSp_n] at hm
  have fin : ∀ (E' : ES) t2 t, EC t2 39 (c 0) (c 1) E' → Off (fun b j => DGa b j ∨ b = 66) (nrm σ) t2 → t = up t2 0 0 0 → (∀ F, MAD (c 0) (c 1) (TBc c 0) w (VSp σ x m (c 0) (c 1)) F → ESm (c 1) E' F) → Tri (d + 30) M_R_span [vA 161, vI x, vI m, vI w] t (fun r2 u2 => t2 39 5 = r2 ∧ IVT u2) := fun E' t2 t hE' hO2 e hu => by
    have hx : QX σ t 0 := QXn (hS0.off hO2 (fun y hy => by have := ech_list hy; unfold DGa; omega)) hO2 (fun b j q => by unfold DGa at q; unfold DX; omega) e
    refine mod _ t (KM_qx hM hx) (trys_x hI hx) (fun t5 hR hO h0 ht5 => ⟨fun s2 hs2 => absurd (vCod_no hs2 x0 x1 z hG z2 ha') id, fun _ _ _ _ _ _ => R_made2 hR ht5 x0 x1 m0 m1 ha' (fun r F t6 hSP hMD hR6 hO6 => ⟨?_, ?_⟩)⟩)
    · have e5 : t2 39 5 = cd E'.1 (c 1) := hE'.2.2.2.2.1
      rw [e5, hSP.1]; exact (hu F hMD).cdw
    · exact IVT_q hI hx (Off_trans hO (Off_dm hO6)) ((hO6 161 0 (by unfold DM; omega)).trans h0)
  have hW1 : WD t1 7 (c 0) (c 1) (TBc c 0) := hW.cg (fun k => hO1 7 k (by unfold DGa; omega)) (fun k => hO1 (7 + 1) k (by unfold DGa; omega))
  have oo : ∀ t2, Off (DE 39) t1 t2 → Off (fun b j => DGa b j ∨ b = 66) (nrm σ) t2 := fun t2 hO2 => Off_trans (Off_mono hO1 (fun b j q => Or.inl q)) (Off_mono hO2 (fun b j q => by unfold DE at q; unfold DGa; omega))
  refine s_X_span_47 ⟨fun _ => ⟨fun y => t_X_answer (fun _ t e => fin E t1 t hE (Off_mono hO1 (fun b j q => Or.inl q)) e (fun F hF => ?_)), fun y => ⟨fun y2 => An_closeUp_s hW1 (by omega) hE (by omega) (fun E' t2 hE' hL hO2 => t_X_answer (fun _ t e => fin E' t2 t hE' (oo t2 hO2) e (fun F hF => ?_))), fun y2 => An_closeUp_s hW1 (by omega) hE (by omega) (fun E' t2 hE' hL hO2 => t_X_answer (fun _ t e => fin E' t2 t hE' (oo t2 hO2) e (fun F hF => ?_)))⟩⟩, fun y => absurd rfl y⟩
  · rw [hF.2.1 y]; exact hm
  · exact Lst_uniq (by omega) ((hL.cgp ⟨fun y => y rfl, fun y => absurd y id⟩).cgE hm) (hF.2.2.1 (by omega))
  · exact Lst_uniq (by omega) ((hL.cgp ⟨fun _ => trivial, fun _ => by omega⟩).cgE hm) (hF.2.2.2 (by omega))
end CSP
