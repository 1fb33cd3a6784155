/-! node, arrow: the first free place -/
section
variable {o : Nat} {ta la va ea fa ga ya ha ca ra w : Nat → Int32}
theorem cx_node_l {post : Int32 → SX → Prop} (K : gx_K o ta la va ea fa ga ya ha w) (x1 x2 : Int32) {m : Nat} (h1 : m = 12 → post (-3) (nI o, ta, la, va, ea, fa, ga, ya, ha, ca, ra)) (h2 : m < 12 → post (nI m) (nI o, upd ta (o * 12 + m) 1, upd la (o * 12 + m) x1, upd va (o * 12 + m) x2, ea, fa, ga, ya, ha, ca, ra)) : ∀ d i, i + d = 12 → gv_fi (fun i => decide (w i ≠ 1)) d i = m → wX_node_12 post x1 x2 (nI o) ta la va ea fa ga ya ha ca ra (d + 1) (nI i) := by
  intro d
  induction d with
  | zero =>
    intro i hi em
    obtain rfl : i = 12 := by omega
    exact br_t (nI_le (a := 12) (b := 12) (by omega) (by decide)) (h1 em.symm)
  | succ d ih =>
    intro i hi em
    have q1 := ih (i + 1) (by omega)
    refine br_f (nI_ge (b := 12) (by omega) (by decide)) (cx_ns K (by omega) (fun s hs es => ⟨hs, ?_⟩))
    rw [es, (K.2.1.1 i (by omega)).1, gb_n1]
    by_cases z : w i = 0
    · have z1 : (fun i => decide (w i ≠ 1)) i = true := by dsimp only; rw [z]; decide
      rw [gv_fi_t z1] at em
      subst em
      exact br_t z ⟨hs, nm_e ⟨hs, nm_e ⟨hs, nm_e (h2 (by omega))⟩⟩⟩
    · have z0 : w i = 1 := ((K.2.2.1 i (by omega)).1).resolve_left z
      have z1 : ¬ (fun i => decide (w i ≠ 1)) i = true := by dsimp only; rw [z0]; decide
      rw [gv_fi_f z1] at em
      exact br_f z (nm_r (nI_1 i) (q1 em))
theorem cx_node {post : Int32 → SX → Prop} (K : gx_K o ta la va ea fa ga ya ha w) (x1 x2 : Int32) (h0 : ¬ gx_in 7 x1 = true → post (-1) (nI o, ta, la, va, ea, fa, ga, ya, ha, ca, ra)) (h1 : gx_in 7 x1 = true → gv_fi (fun i => decide (w i ≠ 1)) 12 0 = 12 → post (-3) (nI o, ta, la, va, ea, fa, ga, ya, ha, ca, ra)) (h2 : gx_in 7 x1 = true → ∀ m, m < 12 → gv_fi (fun i => decide (w i ≠ 1)) 12 0 = m → post (nI m) (nI o, upd ta (o * 12 + m) 1, upd la (o * 12 + m) x1, upd va (o * 12 + m) x2, ea, fa, ga, ya, ha, ca, ra)) : wpX_node post (nI o, ta, la, va, ea, fa, ga, ya, ha, ca, ra) x1 x2 := by
  unfold wpX_node
  refine cx_L x1 (gb_r h0 (fun z => ⟨13, cx_node_l K x1 x2 (m := gv_fi (fun i => decide (w i ≠ 1)) 12 0) (h1 z) (fun hm => h2 z _ hm rfl) 12 0 rfl rfl⟩))
theorem cx_arrow_l {post : Int32 → SX → Prop} (K : gx_K o ta la va ea fa ga ya ha w) (x1 x2 x3 : Int32) {m : Nat} (h1 : m = 24 → post (-3) (nI o, ta, la, va, ea, fa, ga, ya, ha, ca, ra)) (h2 : m < 24 → post (nI m) (nI o, ta, la, va, upd ea (o * 24 + m) 1, upd fa (o * 24 + m) (x1 / 12), upd ga (o * 24 + m) (x1 - x1 / 12 * 12), upd ya (o * 24 + m) x2, upd ha (o * 24 + m) x3, ca, ra)) : ∀ d i, i + d = 24 → gv_fi (fun i => decide (w (36 + i) ≠ 1)) d i = m → wX_arrow_30 post x1 x2 x3 (nI o) ta la va ea fa ga ya ha ca ra (d + 1) (nI i) := by
  intro d
  induction d with
  | zero =>
    intro i hi em
    obtain rfl : i = 24 := by omega
    exact br_t (nI_le (a := 24) (b := 24) (by omega) (by decide)) (h1 em.symm)
  | succ d ih =>
    intro i hi em
    have q1 := ih (i + 1) (by omega)
    refine br_f (nI_ge (b := 24) (by omega) (by decide)) (cx_as K (by omega) (fun s hs es => ⟨hs, ?_⟩))
    rw [es, (K.2.1.2 i (by omega)).1, gb_n1]
    by_cases z : w (36 + i) = 0
    · have z1 : (fun i => decide (w (36 + i) ≠ 1)) i = true := by dsimp only; rw [z]; decide
      rw [gv_fi_t z1] at em
      subst em
      exact br_t z ⟨hs, nm_e ⟨by decide, hs, nm_e ⟨by decide, hs, nm_e ⟨hs, nm_e ⟨hs, nm_e (h2 (by omega))⟩⟩⟩⟩⟩
    · have z0 : w (36 + i) = 1 := ((K.2.2.2 i (by omega)).1).resolve_left z
      have z1 : ¬ (fun i => decide (w (36 + i) ≠ 1)) i = true := by dsimp only; rw [z0]; decide
      rw [gv_fi_f z1] at em
      exact br_f z (nm_r (nI_1 i) (q1 em))
theorem cx_arrow {post : Int32 → SX → Prop} (K : gx_K o ta la va ea fa ga ya ha w) (x1 x2 x3 : Int32) (h0 : ¬ (gx_E w x1 = true ∧ gx_in 3 x2 = true ∧ gx_in 99 x3 = true) → post (-1) (nI o, ta, la, va, ea, fa, ga, ya, ha, ca, ra)) (h1 : gx_E w x1 = true → gx_in 3 x2 = true → gx_in 99 x3 = true → gv_fi (fun i => decide (w (36 + i) ≠ 1)) 24 0 = 24 → post (-3) (nI o, ta, la, va, ea, fa, ga, ya, ha, ca, ra)) (h2 : gx_E w x1 = true → gx_in 3 x2 = true → gx_in 99 x3 = true → ∀ m, m < 24 → gv_fi (fun i => decide (w (36 + i) ≠ 1)) 24 0 = m → post (nI m) (nI o, ta, la, va, upd ea (o * 24 + m) 1, upd fa (o * 24 + m) (x1 / 12), upd ga (o * 24 + m) (x1 - x1 / 12 * 12), upd ya (o * 24 + m) x2, upd ha (o * 24 + m) x3, ca, ra)) : wpX_arrow post (nI o, ta, la, va, ea, fa, ga, ya, ha, ca, ra) x1 x2 x3 := by
  unfold wpX_arrow
  refine cx_E K x1 (gb_r (fun z => h0 (fun k => z k.1)) (fun z => ?_))
  rcases pk_ix x2 (n := 4) (by decide) with y1 | y1 | ⟨j, hj, rfl⟩
  · refine br_t y1 (h0 (fun k => ?_))
    have k2 := k.2.1
    rw [gx_in_n y1] at k2; exact absurd k2 (by decide)
  · refine br_f (Int32.not_lt.mpr (Int32.le_trans (by decide) y1)) (br_t y1 (h0 (fun k => ?_)))
    have k2 := k.2.1
    rw [gx_in_b (fun z2 => absurd (Int32.le_trans y1 z2) (by decide))] at k2; exact absurd k2 (by decide)
  · have y2 : gx_in 3 (nI j) = true := gx_in_y (nI_pos (by omega)) (nI_le (by omega) (by decide))
    refine br_f (nI_pos (by omega)) (br_f (nI_ge hj (by decide)) (cx_W x3 (gb_r (fun z2 => h0 (fun k => z2 k.2.2)) (fun z2 => ⟨25, ?_⟩))))
    exact cx_arrow_l K x1 (nI j) x3 (m := gv_fi (fun i => decide (w (36 + i) ≠ 1)) 24 0) (h1 z y2 z2) (fun hm => h2 z y2 z2 _ hm rfl) 24 0 rfl rfl
end
section
variable {q : Int32} {w cp fx : Nat → Int32}
theorem cy_node_l {post : Int32 → SY → Prop} (x1 x2 : Int32) {m : Nat} (h1 : m = 12 → post (-3) (q, w, cp, fx)) (h2 : m < 12 → post (nI m) (q, upd (upd (upd w m 1) (12 + m) x1) (24 + m) x2, cp, fx)) : ∀ d i, i + d = 12 → gv_fi (fun i => decide (w i ≠ 1)) d i = m → wY_node_12 post x1 x2 q w cp fx (d + 1) (nI i) := by
  intro d
  induction d with
  | zero =>
    intro i hi em
    obtain rfl : i = 12 := by omega
    exact br_t (nI_le (a := 12) (b := 12) (by omega) (by decide)) (h1 em.symm)
  | succ d ih =>
    intro i hi em
    have q1 := ih (i + 1) (by omega)
    refine br_f (nI_ge (b := 12) (by omega) (by decide)) (cy_N (nI i) ?_)
    rw [gx_N_j (by omega)]
    refine gb_r (fun z => ?_) (fun z => ?_)
    · have z1 : (fun i => decide (w i ≠ 1)) i = true := decide_eq_true (fun k => z (decide_eq_true k))
      rw [gv_fi_t z1] at em
      subst em
      obtain ⟨i1, i2⟩ := cy_ix 12 i 12 rfl (by omega)
      obtain ⟨j1, j2⟩ := cy_ix 24 i 24 rfl (by omega)
      rw [i2, j2, nI_clamp (by omega)]
      exact ⟨vp_in_nI (by omega) (by decide), nm_e ⟨i1, nm_e ⟨j1, nm_e (h2 (by omega))⟩⟩⟩
    · have z1 : ¬ (fun i => decide (w i ≠ 1)) i = true := fun k => absurd (of_decide_eq_true z) (of_decide_eq_true k)
      rw [gv_fi_f z1] at em
      exact nm_r (nI_1 i) (q1 em)
theorem cy_node {post : Int32 → SY → Prop} (x1 x2 : Int32) (h0 : ¬ gx_in 7 x1 = true → post (-1) (q, w, cp, fx)) (h1 : gx_in 7 x1 = true → gv_fi (fun i => decide (w i ≠ 1)) 12 0 = 12 → post (-3) (q, w, cp, fx)) (h2 : gx_in 7 x1 = true → ∀ m, m < 12 → gv_fi (fun i => decide (w i ≠ 1)) 12 0 = m → post (nI m) (q, upd (upd (upd w m 1) (12 + m) x1) (24 + m) x2, cp, fx)) : wpY_node post (q, w, cp, fx) x1 x2 := by
  unfold wpY_node
  refine cy_L x1 (gb_n (fun z => ⟨13, cy_node_l x1 x2 (m := gv_fi (fun i => decide (w i ≠ 1)) 12 0) (h1 z) (fun hm => h2 z _ hm rfl) 12 0 rfl rfl⟩) h0)
theorem cy_arrow_l {post : Int32 → SY → Prop} (x1 x2 x3 : Int32) {m : Nat} (h1 : m = 24 → post (-3) (q, w, cp, fx)) (h2 : m < 24 → post (nI m) (q, upd (upd (upd (upd (upd w (36 + m) 1) (60 + m) (x1 / 12)) (84 + m) (x1 - x1 / 12 * 12)) (108 + m) x2) (132 + m) x3, cp, fx)) : ∀ d i, i + d = 24 → gv_fi (fun i => decide (w (36 + i) ≠ 1)) d i = m → wY_arrow_32 post x1 x2 x3 q w cp fx (d + 1) (nI i) := by
  intro d
  induction d with
  | zero =>
    intro i hi em
    obtain rfl : i = 24 := by omega
    exact br_t (nI_le (a := 24) (b := 24) (by omega) (by decide)) (h1 em.symm)
  | succ d ih =>
    intro i hi em
    have q1 := ih (i + 1) (by omega)
    refine br_f (nI_ge (b := 24) (by omega) (by decide)) (cy_A (nI i) ?_)
    rw [gx_A_j (by omega)]
    refine gb_r (fun z => ?_) (fun z => ?_)
    · have z1 : (fun i => decide (w (36 + i) ≠ 1)) i = true := decide_eq_true (fun k => z (decide_eq_true k))
      rw [gv_fi_t z1] at em
      subst em
      obtain ⟨i1, i2⟩ := cy_ix 36 i 36 rfl (by omega)
      obtain ⟨j1, j2⟩ := cy_ix 60 i 60 rfl (by omega)
      obtain ⟨k1, k2⟩ := cy_ix 84 i 84 rfl (by omega)
      obtain ⟨l1, l2⟩ := cy_ix 108 i 108 rfl (by omega)
      obtain ⟨m1, m2⟩ := cy_ix 132 i 132 rfl (by omega)
      rw [i2, j2, k2, l2, m2]
      exact ⟨i1, nm_e ⟨by decide, j1, nm_e ⟨by decide, k1, nm_e ⟨l1, nm_e ⟨m1, nm_e (h2 (by omega))⟩⟩⟩⟩⟩
    · have z1 : ¬ (fun i => decide (w (36 + i) ≠ 1)) i = true := fun k => absurd (of_decide_eq_true z) (of_decide_eq_true k)
      rw [gv_fi_f z1] at em
      exact nm_r (nI_1 i) (q1 em)
theorem cy_arrow {post : Int32 → SY → Prop} (x1 x2 x3 : Int32) (h0 : ¬ (gx_E w x1 = true ∧ gx_in 3 x2 = true ∧ gx_in 99 x3 = true) → post (-1) (q, w, cp, fx)) (h1 : gx_E w x1 = true → gx_in 3 x2 = true → gx_in 99 x3 = true → gv_fi (fun i => decide (w (36 + i) ≠ 1)) 24 0 = 24 → post (-3) (q, w, cp, fx)) (h2 : gx_E w x1 = true → gx_in 3 x2 = true → gx_in 99 x3 = true → ∀ m, m < 24 → gv_fi (fun i => decide (w (36 + i) ≠ 1)) 24 0 = m → post (nI m) (q, upd (upd (upd (upd (upd w (36 + m) 1) (60 + m) (x1 / 12)) (84 + m) (x1 - x1 / 12 * 12)) (108 + m) x2) (132 + m) x3, cp, fx)) : wpY_arrow post (q, w, cp, fx) x1 x2 x3 := by
  unfold wpY_arrow
  refine cy_E x1 (gb_n (fun z => ?_) (fun z => h0 (fun k => z k.1)))
  by_cases y1 : x2 < 0
  · refine br_t y1 (h0 (fun k => ?_))
    have k2 := k.2.1
    rw [gx_in_n y1] at k2; exact absurd k2 (by decide)
  · by_cases y2 : nI 3 < x2
    · refine br_f y1 (br_t y2 (h0 (fun k => ?_)))
      have k2 := k.2.1
      rw [gx_in_b (Int32.not_le.mpr y2)] at k2; exact absurd k2 (by decide)
    · have y3 := gx_in_y y1 (Int32.not_lt.mp y2)
      by_cases x4 : x3 < 0
      · refine br_f y1 (br_f y2 (br_t x4 (h0 (fun k => ?_))))
        have k2 := k.2.2
        rw [gx_in_n x4] at k2; exact absurd k2 (by decide)
      · by_cases x5 : x3 ≤ nI 99
        · have y4 := gx_in_y x4 x5
          refine br_f y1 (br_f y2 (br_f x4 (br_t x5 ⟨25, ?_⟩)))
          exact cy_arrow_l x1 x2 x3 (m := gv_fi (fun i => decide (w (36 + i) ≠ 1)) 24 0) (h1 z y3 y4) (fun hm => h2 z y3 y4 _ hm rfl) 24 0 rfl rfl
        · refine br_f y1 (br_f y2 (br_f x4 (br_f x5 (h0 (fun k => ?_)))))
          have k2 := k.2.2
          rw [gx_in_b x5] at k2; exact absurd k2 (by decide)
end
