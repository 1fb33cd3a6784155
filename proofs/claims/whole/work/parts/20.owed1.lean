/-! the relation, and the changes of one picture -/
def i_Rel (_ : Nat) (u : SX) (v : SY) : Prop := ∃ (o : Nat) (ta la va ea fa ga ya ha ca ra w cp fx : Nat → Int32), u = (nI o, ta, la, va, ea, fa, ga, ya, ha, ca, ra) ∧ v = (nI o, w, cp, fx) ∧ gx_R o ta la va ea fa ga ya ha w cp
theorem i_up {k : Nat} {u : SX} {v : SY} (h : i_Rel k u v) : i_Rel (k + 4) u v := h
theorem i_vc0 : wpX_init (fun u => wpY_init (fun v => i_Rel 0 u v)) := ⟨0, _, _, _, _, _, _, _, _, _, _, _, _, _, rfl, rfl, gx_R0⟩
theorem ir_mk {k o : Nat} {ta la va ea fa ga ya ha ca ra w cp fx : Nat → Int32} (R : gx_R o ta la va ea fa ga ya ha w cp) : i_Rel k (nI o, ta, la, va, ea, fa, ga, ya, ha, ca, ra) (nI o, w, cp, fx) := ⟨o, ta, la, va, ea, fa, ga, ya, ha, ca, ra, w, cp, fx, rfl, rfl, R⟩
theorem ir_K {o : Nat} {ta la va ea fa ga ya ha w cp : Nat → Int32} (R : gx_R o ta la va ea fa ga ya ha w cp) : gx_K o ta la va ea fa ga ya ha w := ⟨R.1, R.2.1, R.2.2.1⟩
theorem i_vc_node {k : Nat} {u : SX} {v : SY} (I : i_Rel k u v) (hk : k + 4 ≤ 2048) (v1 : Int32) (v2 : Int32) : wpX_node (fun r u' => wpY_node (fun r' v' => r' = r ∧ i_Rel (k + 4) u' v') v v1 v2) u v1 v2 := by
  obtain ⟨o, ta, la, va, ea, fa, ga, ya, ha, ca, ra, w, cp, fx, rfl, rfl, R⟩ := I
  refine cx_node (ir_K R) v1 v2 (fun z => ?_) (fun z em => ?_) (fun z m hm em => ?_)
  · exact cy_node v1 v2 (fun _ => ⟨rfl, ir_mk R⟩) (fun z2 => absurd z2 z) (fun z2 => absurd z2 z)
  · exact cy_node v1 v2 (fun z2 => absurd z z2) (fun _ _ => ⟨rfl, ir_mk R⟩) (fun _ m hm em2 => absurd (em2.symm.trans em) (by omega))
  · refine cy_node v1 v2 (fun z2 => absurd z z2) (fun _ em2 => absurd (em.symm.trans em2) (by omega)) (fun _ m2 hm2 em2 => ?_)
    obtain rfl : m = m2 := em.symm.trans em2
    refine ⟨rfl, ir_mk ?_⟩
    obtain ⟨j, hj, rfl⟩ := gx_in_t (by decide) z
    obtain ⟨ho, P, G, D⟩ := R
    exact ⟨ho, gx_uv (gx_ul (gx_ut P hm 1) hm (nI j)) hm v2, gd_v (gd_l (gd_t1 G hm) hm (by omega)) hm v2, gx_pv (gx_pl (gx_pt D hm 1) hm (nI j)) hm v2⟩
theorem gd_arrow {w : Nat → Int32} (G : gx_gd w) {m i j x y : Nat} (hm : m < 24) (hi : i < 12) (hj : j < 12) (hx : x < 4) (hy : y ≤ 99) (wi : w i = 1) (wj : w j = 1) : gx_gd (upd (upd (upd (upd (upd w (36 + m) 1) (60 + m) (nI i)) (84 + m) (nI j)) (108 + m) (nI x)) (132 + m) (nI y)) := by
  rw [gx_upd_comm w (i := 36 + m) (j := 60 + m) (by omega), gx_upd_comm _ (i := 36 + m) (j := 84 + m) (by omega), gx_upd_comm _ (i := 36 + m) (j := 108 + m) (by omega), gx_upd_comm _ (i := 36 + m) (j := 132 + m) (by omega)]
  have G1 := gd_f G hm hi wi
  have wj1 : upd w (60 + m) (nI i) j = 1 := (pk_un (by omega)).trans wj
  have G4 := gd_h (gd_y (gd_g G1 hm hj wj1) hm hx) hm hy
  refine gd_e1 G4 hm hi hj ?_ ?_ ?_ ?_
  · rw [pk_un (by omega), pk_un (by omega), pk_un (by omega), pk_un (by omega)]; exact wi
  · rw [pk_un (by omega), pk_un (by omega), pk_un (by omega), pk_un (by omega)]; exact wj
  · rw [pk_un (by omega), pk_un (by omega), pk_un (by omega), pk_us]
  · rw [pk_un (by omega), pk_un (by omega), pk_us]
theorem i_vc_arrow {k : Nat} {u : SX} {v : SY} (I : i_Rel k u v) (hk : k + 4 ≤ 2048) (v1 : Int32) (v2 : Int32) (v3 : Int32) : wpX_arrow (fun r u' => wpY_arrow (fun r' v' => r' = r ∧ i_Rel (k + 4) u' v') v v1 v2 v3) u v1 v2 v3 := by
  obtain ⟨o, ta, la, va, ea, fa, ga, ya, ha, ca, ra, w, cp, fx, rfl, rfl, R⟩ := I
  refine cx_arrow (ir_K R) v1 v2 v3 (fun z => ?_) (fun z z1 z2 em => ?_) (fun z z1 z2 m hm em => ?_)
  · exact cy_arrow v1 v2 v3 (fun _ => ⟨rfl, ir_mk R⟩) (fun k1 k2 k3 => absurd ⟨k1, k2, k3⟩ z) (fun k1 k2 k3 => absurd ⟨k1, k2, k3⟩ z)
  · exact cy_arrow v1 v2 v3 (fun k1 => absurd ⟨z, z1, z2⟩ k1) (fun _ _ _ _ => ⟨rfl, ir_mk R⟩) (fun _ _ _ m hm em2 => absurd (em2.symm.trans em) (by omega))
  · refine cy_arrow v1 v2 v3 (fun k1 => absurd ⟨z, z1, z2⟩ k1) (fun _ _ _ em2 => absurd (em.symm.trans em2) (by omega)) (fun _ _ _ m2 hm2 em2 => ?_)
    obtain rfl : m = m2 := em.symm.trans em2
    refine ⟨rfl, ir_mk ?_⟩
    obtain ⟨x, hx, rfl⟩ := gx_in_t (by decide) z1
    obtain ⟨y, hy, rfl⟩ := gx_in_t (by decide) z2
    obtain ⟨_, i, j, hi, hj, ei, ej, wi, wj⟩ := gx_E_t z
    obtain ⟨ho, P, G, D⟩ := R
    rw [ei] at ej ⊢
    rw [ej]
    exact ⟨ho, gx_uh (gx_uy (gx_ug (gx_uf (gx_ue P hm 1) hm (nI i)) hm (nI j)) hm (nI x)) hm (nI y), gd_arrow G hm hi hj (by omega) hy wi wj, gx_ph (gx_py (gx_pg (gx_pf (gx_pe D hm 1) hm (nI i)) hm (nI j)) hm (nI x)) hm (nI y)⟩
theorem i_vc_setNode {k : Nat} {u : SX} {v : SY} (I : i_Rel k u v) (hk : k + 4 ≤ 2048) (v1 : Int32) (v2 : Int32) (v3 : Int32) : wpX_setNode (fun r u' => wpY_setNode (fun r' v' => r' = r ∧ i_Rel (k + 4) u' v') v v1 v2 v3) u v1 v2 v3 := by
  obtain ⟨o, ta, la, va, ea, fa, ga, ya, ha, ca, ra, w, cp, fx, rfl, rfl, R⟩ := I
  have K := ir_K R
  unfold wpX_setNode wpY_setNode
  refine cx_N K v1 (gb_r (fun z => ?_) (fun z => cx_L v2 (gb_r (fun z1 => ?_) (fun z1 => ?_))))
  · exact cy_N v1 (gb_r (fun _ => ⟨rfl, ir_mk R⟩) (fun z2 => absurd z2 z))
  · exact cy_N v1 (gb_r (fun z2 => absurd z z2) (fun _ => cy_L v2 (gb_n (fun z2 => absurd z2 z1) (fun _ => ⟨rfl, ir_mk R⟩))))
  · obtain ⟨n, hn, rfl, wn⟩ := gx_N_t z
    obtain ⟨j, hj, rfl⟩ := gx_in_t (by decide) z1
    refine cx_ns K hn (fun s hs es => ⟨hs, ?_⟩)
    rw [es]
    refine nm_r (K.2.1.1 n hn).2.1 ⟨hs, nm_e ⟨hs, nm_e ?_⟩⟩
    obtain ⟨i1, i2⟩ := cy_ix 12 n 12 rfl (by omega)
    obtain ⟨j1, j2⟩ := cy_ix 24 n 24 rfl (by omega)
    refine cy_N (nI n) (gb_r (fun z2 => absurd z z2) (fun _ => cy_L (nI j) (gb_n (fun _ => ?_) (fun z2 => absurd z1 z2))))
    rw [i2, j2]
    refine ⟨i1, nm_e ⟨i1, nm_e ⟨j1, nm_e ⟨rfl, ir_mk ?_⟩⟩⟩⟩
    obtain ⟨ho, P, G, D⟩ := R
    exact ⟨ho, gx_uv (gx_ul P hn (nI j)) hn v3, gd_v (gd_l G hn (by omega)) hn v3, gx_pv (gx_pl D hn (nI j)) hn v3⟩
theorem i_vc_setWeight {k : Nat} {u : SX} {v : SY} (I : i_Rel k u v) (hk : k + 4 ≤ 2048) (v1 : Int32) (v2 : Int32) : wpX_setWeight (fun r u' => wpY_setWeight (fun r' v' => r' = r ∧ i_Rel (k + 4) u' v') v v1 v2) u v1 v2 := by
  obtain ⟨o, ta, la, va, ea, fa, ga, ya, ha, ca, ra, w, cp, fx, rfl, rfl, R⟩ := I
  have K := ir_K R
  unfold wpX_setWeight wpY_setWeight
  refine cx_A K v1 (gb_r (fun z => ?_) (fun z => cx_W v2 (gb_r (fun z1 => ?_) (fun z1 => ?_))))
  · exact cy_A v1 (gb_r (fun _ => ⟨rfl, ir_mk R⟩) (fun z2 => absurd z2 z))
  · refine cy_A v1 (gb_r (fun z2 => absurd z z2) (fun _ => ?_))
    by_cases y1 : v2 < 0
    · exact br_t y1 ⟨rfl, ir_mk R⟩
    · by_cases y2 : v2 ≤ nI 99
      · exact absurd (gx_in_y y1 y2) z1
      · exact br_f y1 (br_f y2 ⟨rfl, ir_mk R⟩)
  · obtain ⟨a, ha', rfl, wa⟩ := gx_A_t z
    obtain ⟨j, hj, rfl⟩ := gx_in_t (by decide) z1
    refine cx_as K ha' (fun s hs es => ⟨hs, ?_⟩)
    rw [es]
    refine nm_r (K.2.1.2 a ha').2.2.2.2 ⟨hs, nm_e ?_⟩
    obtain ⟨i1, i2⟩ := cy_ix 132 a 132 rfl (by omega)
    refine cy_A (nI a) (gb_r (fun z2 => absurd z z2) (fun _ => br_f (nI_pos (by omega)) (br_t (nI_le hj (by decide)) (cy_p3 ha' ?_))))
    rw [i2]
    refine ⟨i1, nm_e ⟨rfl, ir_mk ?_⟩⟩
    obtain ⟨ho, P, G, D⟩ := R
    exact ⟨ho, gx_uh P ha' (nI j), gd_h G ha' hj, gx_ph D ha' (nI j)⟩
theorem i_vc_cut {k : Nat} {u : SX} {v : SY} (I : i_Rel k u v) (hk : k + 4 ≤ 2048) (v1 : Int32) : wpX_cut (fun r u' => wpY_cut (fun r' v' => r' = r ∧ i_Rel (k + 4) u' v') v v1) u v1 := by
  obtain ⟨o, ta, la, va, ea, fa, ga, ya, ha, ca, ra, w, cp, fx, rfl, rfl, R⟩ := I
  have K := ir_K R
  unfold wpX_cut wpY_cut
  refine cx_A K v1 (gb_r (fun z => ?_) (fun z => ?_))
  · exact cy_A v1 (gb_r (fun _ => ⟨rfl, ir_mk R⟩) (fun z2 => absurd z2 z))
  · obtain ⟨a, ha', rfl, wa⟩ := gx_A_t z
    have R2 : gx_R o ta la va (upd ea (o * 24 + a) 0) fa ga ya ha (upd w (36 + a) 0) cp := by
      obtain ⟨ho, P, G, D⟩ := R
      exact ⟨ho, gx_ue P ha' 0, gd_e0 G ha', gx_pe D ha' 0⟩
    refine cx_as K ha' (fun s hs es => ⟨hs, ?_⟩)
    rw [es, gb_n0]
    refine nm_e (cx_ca (ir_K R2) ?_)
    obtain ⟨i1, i2⟩ := cy_ix 36 a 36 rfl (by omega)
    refine cy_A (nI a) (gb_r (fun z2 => absurd z z2) (fun _ => ?_))
    rw [i2]
    exact ⟨i1, nm_e (cy_ca ⟨rfl, ir_mk R2⟩)⟩
