/-! drop, and the transactions -/
theorem i_vc_drop {k : Nat} {u : SX} {v : SY} (I : i_Rel k u v) (hk : k + 4 ≤ 2048) (v1 : Int32) (v2 : Int32) : wpX_drop (fun r u' => wpY_drop (fun r' v' => r' = r ∧ i_Rel (k + 4) u' v') v v1 (lw_bz v2)) u v1 (lw_bz v2) := by
  obtain ⟨o, ta, la, va, ea, fa, ga, ya, ha, ca, ra, w, cp, fx, rfl, rfl, R⟩ := I
  refine cx_drop (ir_K R) v1 (lw_bz v2) (fun z => ?_) (fun n hn en z z1 z2 => ?_) (fun n hn en z z1 e1 K1 H1 => ?_)
  · exact cy_drop v1 (lw_bz v2) (fun _ => ⟨rfl, ir_mk R⟩) (fun k1 => absurd k1 z) (fun _ _ _ k1 => absurd k1 z)
  · exact cy_drop v1 (lw_bz v2) (fun k1 => absurd z k1) (fun _ _ _ => ⟨rfl, ir_mk R⟩) (fun _ _ _ _ k1 => absurd ⟨z1, z2⟩ k1)
  · refine cy_drop v1 (lw_bz v2) (fun k1 => absurd z k1) (fun _ k1 k2 => absurd ⟨k1, k2⟩ z1) (fun n2 hn2 en2 _ _ => ⟨rfl, ir_mk ?_⟩)
    obtain rfl : n = n2 := (nI_eq (by omega) (by omega)).mp (en.symm.trans en2)
    obtain ⟨ho, P, G, D⟩ := R
    refine ⟨ho, gx_ut K1.2.1 hn 0, gd_drop G hn, gx_pt (fun d hd => ⟨?_, (D d hd).2⟩) hn 0⟩
    exact gx_px_ext (D d hd).1 (fun _ _ => ⟨rfl, rfl, rfl⟩) (fun a za => ⟨H1 _ (by omega), rfl, rfl, rfl, rfl⟩) (fun _ _ => rfl)
theorem i_vc_begin {k : Nat} {u : SX} {v : SY} (I : i_Rel k u v) (hk : k + 4 ≤ 2048) : wpX_begin (fun r u' => wpY_begin (fun r' v' => r' = r ∧ i_Rel (k + 4) u' v') v) u := by
  obtain ⟨o, ta, la, va, ea, fa, ga, ya, ha, ca, ra, w, cp, fx, rfl, rfl, R⟩ := I
  have K := ir_K R
  by_cases ho : o < 4
  · refine br_t (nI_lt (b := 4) ho (by decide)) ?_
    rw [nI_1 o]
    refine cx_copy K (d := o + 1) (by omega) (by omega) (fun t1 l1 v1 e1 f1 g1 y1 h1 c1 c2 c3 c4 c5 c6 c7 c8 => nm_r (nI_1 o) ?_)
    refine br_f (fun z => ?_) ⟨157, cy_beg_l ho (fun c9 k1 k2 => ⟨rfl, ir_mk (gx_R_begin R ho c1 c2 c3 c4 c5 c6 c7 c8 k1 k2)⟩) 156 0 rfl cp (fun j hj => absurd hj (Nat.not_lt_zero _)) (fun _ _ => rfl)⟩
    have z2 := (nI_eq (a := o) (b := 4) (by omega) (by omega)).mp z
    omega
  · obtain rfl : o = 4 := by have z := K.1; omega
    exact br_f (by decide) (br_t rfl ⟨rfl, ir_mk R⟩)
theorem i_vc_end {k : Nat} {u : SX} {v : SY} (I : i_Rel k u v) (hk : k + 4 ≤ 2048) : wpX_end (fun r u' => wpY_end (fun r' v' => r' = r ∧ i_Rel (k + 4) u' v') v) u := by
  obtain ⟨o, ta, la, va, ea, fa, ga, ya, ha, ca, ra, w, cp, fx, rfl, rfl, R⟩ := I
  have K := ir_K R
  have hz := K.1
  by_cases ho : o = 0
  · subst ho
    exact br_f (by decide) (br_t rfl ⟨rfl, ir_mk R⟩)
  · obtain ⟨p, rfl⟩ : ∃ p, o = p + 1 := ⟨o - 1, by omega⟩
    refine br_t (nI_lt (a := 0) (by omega) (by omega)) ?_
    rw [nI_pred p]
    refine cx_copy K (d := p) (by omega) (by omega) (fun t1 l1 v1 e1 f1 g1 y1 h1 c1 c2 c3 c4 c5 c6 c7 c8 => nm_r (nI_pred p) ?_)
    exact br_f (nI_ne0 (by omega) (by omega)) (nm_r (nI_pred p) ⟨rfl, ir_mk (gx_R_end R c1 c2 c3 c4 c5 c6 c7 c8)⟩)
theorem i_vc_undo {k : Nat} {u : SX} {v : SY} (I : i_Rel k u v) (hk : k + 4 ≤ 2048) : wpX_undo (fun r u' => wpY_undo (fun r' v' => r' = r ∧ i_Rel (k + 4) u' v') v) u := by
  obtain ⟨o, ta, la, va, ea, fa, ga, ya, ha, ca, ra, w, cp, fx, rfl, rfl, R⟩ := I
  have hz := R.1
  by_cases ho : o = 0
  · subst ho
    exact br_f (by decide) (br_t rfl ⟨rfl, ir_mk R⟩)
  · obtain ⟨p, rfl⟩ : ∃ p, o = p + 1 := ⟨o - 1, by omega⟩
    refine br_t (nI_lt (a := 0) (by omega) (by omega)) (nm_r (nI_pred p) (br_f (nI_ne0 (by omega) (by omega)) (nm_r (nI_pred p) ?_)))
    exact cy_gb (by omega) (fun w1 k1 => ⟨rfl, ir_mk (gx_R_back R (by omega) k1)⟩)
theorem i_vc_crash {k : Nat} {u : SX} {v : SY} (I : i_Rel k u v) (hk : k + 4 ≤ 2048) : wpX_crash (fun r u' => wpY_crash (fun r' v' => r' = r ∧ i_Rel (k + 4) u' v') v) u := by
  obtain ⟨o, ta, la, va, ea, fa, ga, ya, ha, ca, ra, w, cp, fx, rfl, rfl, R⟩ := I
  have hz := R.1
  by_cases ho : o = 0
  · subst ho
    exact br_t (by decide) ⟨rfl, ir_mk R⟩
  · exact br_f (nI_nle (by omega) (by omega)) (cy_gb (o := 0) (by omega) (fun w1 k1 => ⟨rfl, ir_mk (o := 0) (gx_R_back R (by omega) k1)⟩))
