/-! questions about one node or arrow -/
theorem i_vc_labels {k : Nat} {u : SX} {v : SY} (I : i_Rel k u v) (hk : k + 4 ≤ 2048) (v1 : Int32) : wpX_labels (fun r => wpY_labels (fun r' => r' = r ∧ i_Rel (k + 4) u v) v v1) u v1 := by
  obtain ⟨o, ta, la, va, ea, fa, ga, ya, ha, ca, ra, w, cp, fx, rfl, rfl, R⟩ := I
  have K := ir_K R
  unfold wpX_labels wpY_labels
  refine cx_N K v1 (gb_r (fun z => ?_) (fun z => ?_))
  · exact cy_N v1 (gb_r (fun _ => ⟨rfl, ir_mk R⟩) (fun z2 => absurd z2 z))
  · obtain ⟨n, hn, rfl, wn⟩ := gx_N_t z
    refine cx_ns K hn (fun s hs es => ⟨hs, ?_⟩)
    rw [es, (K.2.1.1 n hn).2.1]
    obtain ⟨i1, i2⟩ := cy_ix 12 n 12 rfl (by omega)
    refine cy_N (nI n) (gb_r (fun z2 => absurd z z2) (fun _ => ⟨i1, ?_⟩))
    rw [i2]
    exact ⟨rfl, ir_mk R⟩
theorem i_vc_value {k : Nat} {u : SX} {v : SY} (I : i_Rel k u v) (hk : k + 4 ≤ 2048) (v1 : Int32) : wpX_value (fun r => wpY_value (fun r' => r' = r ∧ i_Rel (k + 4) u v) v v1) u v1 := by
  obtain ⟨o, ta, la, va, ea, fa, ga, ya, ha, ca, ra, w, cp, fx, rfl, rfl, R⟩ := I
  have K := ir_K R
  unfold wpX_value wpY_value
  refine cx_N K v1 (gb_r (fun z => ?_) (fun z => ?_))
  · exact cy_N v1 (gb_r (fun _ => ⟨rfl, ir_mk R⟩) (fun z2 => absurd z2 z))
  · obtain ⟨n, hn, rfl, wn⟩ := gx_N_t z
    refine cx_ns K hn (fun s hs es => ⟨hs, ?_⟩)
    rw [es, (K.2.1.1 n hn).2.2]
    obtain ⟨i1, i2⟩ := cy_ix 24 n 24 rfl (by omega)
    refine cy_N (nI n) (gb_r (fun z2 => absurd z z2) (fun _ => ⟨i1, ?_⟩))
    rw [i2]
    exact ⟨rfl, ir_mk R⟩
theorem i_vc_look {k : Nat} {u : SX} {v : SY} (I : i_Rel k u v) (hk : k + 4 ≤ 2048) (v1 : Int32) (v2 : Int32) : wpX_look (fun r => wpY_look (fun r' => r' = r ∧ i_Rel (k + 4) u v) v v1 v2) u v1 v2 := by
  obtain ⟨o, ta, la, va, ea, fa, ga, ya, ha, ca, ra, w, cp, fx, rfl, rfl, R⟩ := I
  have K := ir_K R
  unfold wpX_look wpY_look
  refine cx_A K v1 (gb_r (fun z => ?_) (fun z => ?_))
  · exact cy_A v1 (gb_r (fun _ => ⟨rfl, ir_mk R⟩) (fun z2 => absurd z2 z))
  · obtain ⟨a, ha', rfl, wa⟩ := gx_A_t z
    refine cx_as K ha' (fun s hs es => ?_)
    rw [es, (K.2.1.2 a ha').2.1, (K.2.1.2 a ha').2.2.1, (K.2.1.2 a ha').2.2.2.1, (K.2.1.2 a ha').2.2.2.2]
    rcases pk_ix v2 (n := 4) (by decide) with y1 | y1 | ⟨j, hj, rfl⟩
    · exact br_t y1 (cy_A (nI a) (gb_r (fun z2 => absurd z z2) (fun _ => br_t y1 ⟨rfl, ir_mk R⟩)))
    · have y2 : ¬ v2 < 0 := Int32.not_lt.mpr (Int32.le_trans (by decide) y1)
      have y3 : ¬ v2 ≤ 3 := fun y4 => absurd (Int32.le_trans y1 y4) (by decide)
      exact br_f y2 (br_t (Int32.not_le.mp y3) (cy_A (nI a) (gb_r (fun z2 => absurd z z2) (fun _ => br_f y2 (br_f y3 ⟨rfl, ir_mk R⟩)))))
    · obtain rfl | rfl | rfl | rfl : j = 0 ∨ j = 1 ∨ j = 2 ∨ j = 3 := by omega
      · exact br_f (by decide) (br_f (by decide) (br_t rfl ⟨hs, cy_A (nI a) (gb_r (fun z2 => absurd z z2) (fun _ => br_f (by decide) (br_t (by decide) (cy_p0 ha' ⟨rfl, ir_mk R⟩))))⟩))
      · exact br_f (by decide) (br_f (by decide) (br_f (by decide) (br_t rfl ⟨hs, cy_A (nI a) (gb_r (fun z2 => absurd z z2) (fun _ => br_f (by decide) (br_t (by decide) (cy_p1 ha' ⟨rfl, ir_mk R⟩))))⟩)))
      · exact br_f (by decide) (br_f (by decide) (br_f (by decide) (br_f (by decide) (br_t rfl ⟨hs, cy_A (nI a) (gb_r (fun z2 => absurd z z2) (fun _ => br_f (by decide) (br_t (by decide) (cy_p2 ha' ⟨rfl, ir_mk R⟩))))⟩))))
      · exact br_f (by decide) (br_f (by decide) (br_f (by decide) (br_f (by decide) (br_f (by decide) (br_t rfl ⟨hs, cy_A (nI a) (gb_r (fun z2 => absurd z z2) (fun _ => br_f (by decide) (br_t (by decide) (cy_p3 ha' ⟨rfl, ir_mk R⟩))))⟩)))))
theorem i_vc_degree {k : Nat} {u : SX} {v : SY} (I : i_Rel k u v) (hk : k + 4 ≤ 2048) (v1 : Int32) (v2 : Int32) (v3 : Int32) : wpX_degree (fun r => wpY_degree (fun r' => r' = r ∧ i_Rel (k + 4) u v) v v1 v2 v3) u v1 v2 v3 := by
  obtain ⟨o, ta, la, va, ea, fa, ga, ya, ha, ca, ra, w, cp, fx, rfl, rfl, R⟩ := I
  have K := ir_K R
  unfold wpX_degree
  refine cx_N K v1 (gb_r (fun z => ?_) (fun z => cx_T v2 (gb_r (fun z1 => ?_) (fun z1 => cx_Y v3 (gb_r (fun z2 => ?_) (fun z2 => cx_cm K v1 v2 v3 ?_))))))
  · exact cy_deg v1 v2 v3 (fun q => absurd (gx_D_t q).1 z) (fun _ => ⟨rfl, ir_mk R⟩)
  · exact cy_deg v1 v2 v3 (fun q => absurd (gx_D_t q).2.1 z1) (fun _ => ⟨rfl, ir_mk R⟩)
  · exact cy_deg v1 v2 v3 (fun q => absurd (gx_D_t q).2.2 z2) (fun _ => ⟨rfl, ir_mk R⟩)
  · exact cy_deg v1 v2 v3 (fun _ => ⟨rfl, ir_mk R⟩) (fun q => absurd (gx_D_y z z1 z2) q)
/-! arrowAt -/
theorem cx_at_l {o : Nat} {ta la va ea fa ga ya ha ca ra w : Nat → Int32} {post : Int32 → Prop} (K : gx_K o ta la va ea fa ga ya ha w) (x2 ty n wy : Int32) : ∀ d i s, i + d = 24 → post (gv_at (gx_mt w n ty wy) x2 d i s) → wX_arrowAt_63 post x2 ty n wy (nI o) ta la va ea fa ga ya ha ca ra (d + 1) (nI s) (nI i) := by
  intro d
  induction d with
  | zero =>
    intro i s hi hp
    obtain rfl : i = 24 := by omega
    exact br_t (nI_le (a := 24) (b := 24) (by omega) (by decide)) hp
  | succ d ih =>
    intro i s hi hp
    refine br_f (nI_ge (b := 24) (by omega) (by decide)) (cx_mt K (by omega) n ty wy (gb_r (fun z => ?_) (fun z => ?_)))
    · rw [gv_at_f z] at hp
      exact nm_r (nI_1 i) (ih (i + 1) s (by omega) hp)
    · by_cases z2 : nI s = x2
      · rw [gv_at_y z z2] at hp; exact br_t z2 hp
      · rw [gv_at_s z z2] at hp
        exact br_f z2 (nm_r (nI_1 s) (nm_r (nI_1 i) (ih (i + 1) (s + 1) (by omega) hp)))
theorem cy_at_l {q : Int32} {w cp fx : Nat → Int32} {post : Int32 → Prop} (x1 x2 : Int32) (hy : gx_in 2 (x1 / 192) = true) : ∀ d i s, i + d = 24 → post (gv_at (gx_mt w (x1 / 16 - x1 / 16 / 12 * 12) (x1 - x1 / 16 * 16) (x1 / 192)) x2 d i s) → wY_arrowAt_35 post x1 x2 q w cp fx (d + 1) (nI s) (nI i) := by
  intro d
  induction d with
  | zero =>
    intro i s hi hp
    obtain rfl : i = 24 := by omega
    exact br_t (nI_le (a := 24) (b := 24) (by omega) (by decide)) hp
  | succ d ih =>
    intro i s hi hp
    refine br_f (nI_ge (b := 24) (by omega) (by decide)) ⟨by decide, by decide, by decide, by decide, cy_mt (by omega) _ _ _ hy (gb_r (fun z => ?_) (fun z => ?_))⟩
    · rw [gv_at_f z] at hp
      exact nm_r (nI_1 i) (ih (i + 1) s (by omega) hp)
    · by_cases z2 : nI s = x2
      · rw [gv_at_y z z2] at hp; exact br_t z2 hp
      · rw [gv_at_s z z2] at hp
        exact br_f z2 (nm_r (nI_1 s) (nm_r (nI_1 i) (ih (i + 1) (s + 1) (by omega) hp)))
theorem gx_192 {x : Int32} (z : ¬ x < 0) : x / 16 / 12 = x / 192 := by
  obtain ⟨j, hj, rfl⟩ := nI_of z
  rw [show (16 : Int32) = nI 16 from rfl, show (12 : Int32) = nI 12 from rfl, show (192 : Int32) = nI 192 from rfl, pk_div hj (by decide) (by decide), pk_div (Nat.lt_of_le_of_lt (Nat.div_le_self _ _) hj) (by decide) (by decide), pk_div hj (by decide) (by decide), Nat.div_div_eq_div_mul]
theorem gv_ct_m1 (p : Nat → Bool) : ¬ nI (gv_ct p 24) = -1 := by
  have z := gv_ct_le p 24
  intro e
  have z2 := congrArg Int32.toInt e
  rw [nI_toInt (by omega), show (-1 : Int32).toInt = -1 from by decide] at z2
  omega
theorem i_vc_arrowAt {k : Nat} {u : SX} {v : SY} (I : i_Rel k u v) (hk : k + 4 ≤ 2048) (v1 : Int32) (v2 : Int32) : wpX_arrowAt (fun r => wpY_arrowAt (fun r' => r' = r ∧ i_Rel (k + 4) u v) v v1 v2) u v1 v2 := by
  obtain ⟨o, ta, la, va, ea, fa, ga, ya, ha, ca, ra, w, cp, fx, rfl, rfl, R⟩ := I
  have K := ir_K R
  by_cases z0 : v1 < 0
  · exact br_f (Int32.not_le.mpr z0) (br_t z0 ⟨rfl, ir_mk R⟩)
  · refine br_t (Int32.not_lt.mp z0) ⟨by decide, nm_e ⟨by decide, by decide, nm_e ⟨by decide, by decide, nm_r (gx_192 z0) ?_⟩⟩⟩
    refine cx_N K _ (gb_r (fun z => ?_) (fun z => cx_T _ (gb_r (fun z1 => ?_) (fun z1 => cx_Y _ (gb_r (fun z2 => ?_) (fun z2 => ⟨25, cx_at_l K v2 _ _ _ 24 0 0 rfl ?_⟩))))))
    · exact br_f z0 ⟨by decide, by decide, by decide, by decide, cy_deg _ _ _ (fun q => absurd (gx_D_t q).1 z) (fun _ => br_t rfl ⟨rfl, ir_mk R⟩)⟩
    · exact br_f z0 ⟨by decide, by decide, by decide, by decide, cy_deg _ _ _ (fun q => absurd (gx_D_t q).2.1 z1) (fun _ => br_t rfl ⟨rfl, ir_mk R⟩)⟩
    · exact br_f z0 ⟨by decide, by decide, by decide, by decide, cy_deg _ _ _ (fun q => absurd (gx_D_t q).2.2 z2) (fun _ => br_t rfl ⟨rfl, ir_mk R⟩)⟩
    · exact br_f z0 ⟨by decide, by decide, by decide, by decide, cy_deg _ _ _ (fun _ => br_f (gv_ct_m1 _) ⟨25, cy_at_l v1 v2 z2 24 0 0 rfl ⟨rfl, ir_mk R⟩⟩) (fun q => absurd (gx_D_y z z1 z2) q)⟩
