/-! the reference: the same values from its one row of cells -/
section
variable {q : Int32} {w cp fx : Nat → Int32}
theorem cy_N {post : Int32 → Prop} (x : Int32) (hp : post (gx_b (gx_N w x))) : wpY_isNode post (q, w, cp, fx) x := by
  rcases pk_ix x (n := 12) (by decide) with z | z | ⟨j, hj, rfl⟩
  · rw [gx_N_n z] at hp; exact br_t z hp
  · rw [gx_N_b z] at hp; exact br_f (Int32.not_lt.mpr (Int32.le_trans (by decide) z)) (br_t z hp)
  · rw [gx_N_j hj] at hp
    refine br_f (nI_pos (by omega)) (br_f (nI_ge hj (by decide)) ⟨vp_in_nI (by omega) (by decide), ?_⟩)
    rw [nI_clamp (by omega)]
    exact gb_1 decide_eq_true_iff.symm hp
theorem cy_ix (b a : Nat) (x : Int32) (hx : x = nI b) (h1 : b + a < 156) : vp_in (x + nI a) 156 ∧ (x + nI a).toNatClampNeg = b + a := by
  rw [hx, nI_add]
  exact ⟨vp_in_nI h1 (by decide), nI_clamp (by omega)⟩
theorem cy_A {post : Int32 → Prop} (x : Int32) (hp : post (gx_b (gx_A w x))) : wpY_isArrow post (q, w, cp, fx) x := by
  rcases pk_ix x (n := 24) (by decide) with z | z | ⟨j, hj, rfl⟩
  · rw [gx_A_n z] at hp; exact br_t z hp
  · rw [gx_A_b z] at hp; exact br_f (Int32.not_lt.mpr (Int32.le_trans (by decide) z)) (br_t z hp)
  · rw [gx_A_j hj] at hp
    obtain ⟨i1, i2⟩ := cy_ix 36 j 36 rfl (by omega)
    refine br_f (nI_pos (by omega)) (br_f (nI_ge hj (by decide)) ⟨i1, ?_⟩)
    rw [i2]
    exact gb_1 decide_eq_true_iff.symm hp
theorem cy_p0 {post : Int32 → Prop} {a : Nat} (ha' : a < 24) (hp : post (w (60 + a))) : wpY_part post (q, w, cp, fx) (nI a) 0 := by
  obtain ⟨i1, i2⟩ := cy_ix 60 a (60 + (24 * 0)) (by decide) (by omega)
  exact ⟨i1, by rw [i2]; exact hp⟩
theorem cy_p1 {post : Int32 → Prop} {a : Nat} (ha' : a < 24) (hp : post (w (84 + a))) : wpY_part post (q, w, cp, fx) (nI a) 1 := by
  obtain ⟨i1, i2⟩ := cy_ix 84 a (60 + (24 * 1)) (by decide) (by omega)
  exact ⟨i1, by rw [i2]; exact hp⟩
theorem cy_p2 {post : Int32 → Prop} {a : Nat} (ha' : a < 24) (hp : post (w (108 + a))) : wpY_part post (q, w, cp, fx) (nI a) 2 := by
  obtain ⟨i1, i2⟩ := cy_ix 108 a (60 + (24 * 2)) (by decide) (by omega)
  exact ⟨i1, by rw [i2]; exact hp⟩
theorem cy_p3 {post : Int32 → Prop} {a : Nat} (ha' : a < 24) (hp : post (w (132 + a))) : wpY_part post (q, w, cp, fx) (nI a) 3 := by
  obtain ⟨i1, i2⟩ := cy_ix 132 a (60 + (24 * 3)) (by decide) (by omega)
  exact ⟨i1, by rw [i2]; exact hp⟩
theorem cy_E {post : Int32 → Prop} (x : Int32) (hp : post (gx_b (!gx_E w x))) : wpY_badEnds post (q, w, cp, fx) x := by
  by_cases z : x < 0
  · rw [gx_E_n z] at hp; exact br_t z hp
  · refine br_f z ⟨by decide, cy_N (x / 12) (gb_r (fun k => ?_) (fun k => ⟨by decide, cy_N (x - x / 12 * 12) (gb_r (fun k2 => ?_) (fun k2 => ?_))⟩))⟩
    · rw [gx_E_1 k] at hp; exact hp
    · rw [gx_E_2 k2] at hp; exact hp
    · rw [gx_E_y z k k2] at hp; exact hp
theorem cy_T {post : Int32 → Prop} (x : Int32) (hp : post (gx_b (!gx_in 4 x))) : wpY_badType post (q, w, cp, fx) x := by
  by_cases z : x < 0
  · rw [gx_in_n z] at hp; exact br_t z hp
  · by_cases k : x ≤ nI 4
    · rw [gx_in_y z k] at hp; exact br_f z (br_t k hp)
    · rw [gx_in_b k] at hp; exact br_f z (br_f k hp)
theorem cy_L {post : Int32 → Prop} (x : Int32) (hp : post (gx_b (!gx_in 7 x))) : wpY_badLabels post (q, w, cp, fx) x := by
  by_cases z : x < 0
  · rw [gx_in_n z] at hp; exact br_t z hp
  · by_cases k : x ≤ nI 7
    · rw [gx_in_y z k] at hp; exact br_f z (br_t k hp)
    · rw [gx_in_b k] at hp; exact br_f z (br_f k hp)
theorem cy_of {post : Int32 → Prop} {a : Nat} (ha' : a < 24) (ty : Int32) (hp : post (gx_b (gx_of w ty a))) : wpY_isOf post (q, w, cp, fx) (nI a) ty := by
  unfold wpY_isOf
  refine cy_A (nI a) ?_
  rw [gx_A_j ha']
  refine gb_r (fun k => ?_) (fun k => ?_)
  · have z : gx_of w ty a = false := by unfold gx_of; rw [gb_nt k, Bool.false_and]
    rw [z] at hp; exact hp
  · by_cases p4 : ty = 4
    · have z : gx_of w ty a = true := by unfold gx_of; rw [k, decide_eq_true p4]; rfl
      rw [z] at hp; exact br_t p4 hp
    · refine br_f p4 (cy_p2 ha' (gb_1 ?_ hp))
      unfold gx_of
      rw [k, decide_eq_false p4, Bool.true_and, Bool.false_or]
      exact decide_eq_true_iff.symm
theorem cy_c43 {post : Int32 → Prop} {j : Nat} (hj : j ≤ 2) (b1 b2 : Bool) (hp : post (gx_b ((decide (nI j ≠ 1) && b1) || (decide (nI j ≠ 0) && b2)))) : wY_counts_43 post (nI j) (gx_b b1) (gx_b b2) q w cp fx := by
  obtain rfl | rfl | rfl : j = 0 ∨ j = 1 ∨ j = 2 := by omega
  · cases b1
    · cases b2
      · exact br_t rfl (br_t rfl (br_f (by decide) (br_f (by decide) hp)))
      · exact br_t rfl (br_t rfl (br_f (by decide) (br_f (by decide) hp)))
    · exact br_t rfl (br_f (by decide) hp)
  · cases b2
    · exact br_f (by decide) (br_t rfl (br_t rfl (br_f (by decide) (by cases b1 <;> exact hp))))
    · exact br_f (by decide) (br_t rfl (br_f (by decide) (by cases b1 <;> exact hp)))
  · cases b1
    · cases b2
      · exact br_f (by decide) (br_f (by decide) (br_t rfl (br_t rfl (br_t rfl hp))))
      · exact br_f (by decide) (br_f (by decide) (br_t rfl (br_t rfl (br_f (by decide) hp))))
    · exact br_f (by decide) (br_f (by decide) (br_t rfl (br_f (by decide) hp)))
theorem cy_c26 {post : Int32 → Prop} {a : Nat} (ha' : a < 24) {j : Nat} (hj : j ≤ 2) (n : Int32) (b1 : Bool) (hp : post (gx_b ((decide (nI j ≠ 1) && b1) || (decide (nI j ≠ 0) && decide (w (84 + a) = n))))) : wY_counts_26 post (nI a) n (nI j) (gx_b b1) q w cp fx := by
  unfold wY_counts_26
  refine cy_p1 ha' ?_
  by_cases z : w (84 + a) = n
  · rw [decide_eq_true z] at hp; exact br_t z (cy_c43 hj b1 true hp)
  · rw [decide_eq_false z] at hp; exact br_f z (cy_c43 hj b1 false hp)
theorem cy_mt {post : Int32 → Prop} {a : Nat} (ha' : a < 24) (n ty wy : Int32) (hy : gx_in 2 wy = true) (hp : post (gx_b (gx_mt w n ty wy a))) : wpY_counts post (q, w, cp, fx) (nI a) n ty wy := by
  obtain ⟨j, hj, rfl⟩ := gx_in_t (by decide) hy
  unfold wpY_counts
  refine cy_of ha' ty (gb_r (fun k => ?_) (fun k => cy_p0 ha' ?_))
  · have z : gx_mt w n ty (nI j) a = false := by unfold gx_mt; rw [gb_nt k, Bool.false_and]
    rw [z] at hp; exact hp
  · unfold gx_mt at hp
    rw [k, Bool.true_and] at hp
    by_cases z : w (60 + a) = n
    · rw [decide_eq_true z] at hp; exact br_t z (cy_c26 ha' hj n true hp)
    · rw [decide_eq_false z] at hp; exact br_f z (cy_c26 ha' hj n false hp)
theorem cy_hl {post : Int32 → Prop} (G : gx_gd w) {n : Nat} (hn : n < 12) (x : Int32) (hx : gx_in 7 x = true) (hp : post (gx_b (gx_hl w n x))) : wpY_hasLabels post (q, w, cp, fx) (nI n) x := by
  obtain ⟨j, hj, rfl⟩ := gx_in_t (by decide) hx
  obtain ⟨i1, i2⟩ := cy_ix 12 n 12 rfl (by omega)
  refine ⟨i1, ?_⟩
  rw [i2]
  obtain ⟨i, hi, ei⟩ := (G.1 n hn).2
  unfold gx_hl at hp
  rw [ei] at hp ⊢
  refine gb_1 ?_ hp
  rw [decide_eq_true_iff]
  exact (gx_lab i hi j (by omega)).symm
end
